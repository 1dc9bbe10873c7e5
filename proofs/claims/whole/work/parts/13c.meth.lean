section L1
variable {l : Launch} {D : va_G} {cy : Nat → ClassId} {g : Nat → Nat} {K : KT} {M : Nat} {x : Bool} {P : Nat → Prop} {L : Mem → Mem} {Φ : Post}
def fX7_queue  (μ : Mem) : Unit :=
  ()
set_option maxRecDepth 4000 in
theorem eX7_queue (hS : Sd M K P L) (hc : CIn P 25 26)  (μ : Mem)  {o : Unit} (hf : fX7_queue  μ = o) (hr : (fun o : Unit => Φ (some (vr g 35)) M x (L μ)) o) : Ev l D cy g K yX7_queue cX7_queue 1 (some (.array .int)) (rmd 1 0 0) (MX D cy g K (rmd 1 0 0) Φ) 0 0 M x (L μ) 0 [(0, vr g 25)] [] := by
  unfold fX7_queue at hf
  refine ev_aload_n dX7_queue_0 0 rfl ?_
  refine ev_getK 14 dX7_queue_1 (hS.lt (hc 25 rfl)) rfl (hS.K1 (hc 25 rfl) rfl) ciX7 (by decide) rfl flX7_39 ?_
  obtain rfl := hf
  exact ev_aret dX7_queue_4 rfl (by first | exact Or.inl ⟨_, rfl⟩ | exact Or.inr ⟨_, rfl⟩) ⟨Nat.zero_le _, Nat.zero_le _⟩ hr
theorem tX7_queue (hS : Sd M K P L) (hc : CIn P 25 26) (μ : Mem) {o : Unit} (hf : fX7_queue μ = o) : Cn l D cy g K K yX7_queue cX7_queue 1 (some (.array .int)) (rmd 1 0 0) [vr g 25] M x (L μ) (PE (some (vr g 35)) M x (L μ)) :=
 Cn.of (by decide) (Nat.le_of_ble_eq_true rfl) (eX7_queue hS hc μ hf (PE_i _ _ _ _))
def fX8_learnRound_b14 (k : Nat) (stack : Int) (tail : Int) (v1 : Int) (v2 : Int) (μ : Mem) : Option ((Int × Int × Mem) ⊕ (Int × Mem)) :=
  if w32 v2 ≤ w32 (μ 25 1) then
    lt (fX7_turned stack v2 μ) fun v4 =>
    lt (if w32 v2 = w32 (μ k 2) then
        false
      else
        if w32 (fX11_at (k + 1) v4 μ) = w32 (-1) then
          true
        else
          false) fun v5 =>
    if v5 = true then
      lt (if ((μ k 1) != 0) = true then
          v4
        else
          stack) fun v9 =>
      if (fX7_isOpen v9 v2 μ) = true then
        lt (fX11_put (k + 1) v4 ((fX11_at (k + 1) stack μ) + 1) μ) fun μ12 =>
        lt (fX11_put 35 v1 v4 μ12) fun μ13 =>
        some (.inl ((v1 + 1), (v2 + 1), μ13))
      else
        some (.inl (v1, (v2 + 1), μ))
    else
      some (.inl (v1, (v2 + 1), μ))
  else
    some (.inr (v1, μ))
set_option maxRecDepth 4000 in
theorem tX8_learnRound_b14 (hS : Sd M K P L) (hc : CIn P 1 75) (k : Nat) (stack : Int) (tail : Int) (v1 : Int) (v2 : Int) (μ : Mem) (hk : isSt k) {o : (Int × Int × Mem) ⊕ (Int × Mem)} (hf : fX8_learnRound_b14 k stack tail v1 v2 μ = some o) (hr : (Sum.elim (fun s : Int × Int × Mem => Ev l D cy g K yX8_learnRound cX8_learnRound 8 (some .int) (rmd 4 0 0) (MX D cy g K (rmd 4 0 0) Φ) 0 0 M x (L s.2.2) 14 [(0, vr g k), (1, vi stack), (3, vr g 35), (4, vi s.1), (5, vi s.2.1)] []) (fun e : Int × Mem => Ev l D cy g K yX8_learnRound cX8_learnRound 8 (some .int) (rmd 4 0 0) (MX D cy g K (rmd 4 0 0) Φ) 0 0 M x (L e.2) 133 [(4, vi e.1)] [])) o) : Ev l D cy g K yX8_learnRound cX8_learnRound 8 (some .int) (rmd 4 0 0) (MX D cy g K (rmd 4 0 0) Φ) 0 0 M x (L μ) 14 [(0, vr g k), (1, vi stack), (3, vr g 35), (4, vi v1), (5, vi v2)] [] := by
  unfold fX8_learnRound_b14 at hf
  refine ev_iload dX8_learnRound_14 4 rfl ?_
  refine ev_aload_n dX8_learnRound_16 0 rfl ?_
  refine ev_getK 0 dX8_learnRound_17 (hS.lt (hc _ (inR_w (i_St0 hk) rfl rfl))) (s_St0 hk) (hS.K1 (hc _ (inR_w (i_St0 hk) rfl rfl)) (K_St0 hk)) ciX8 (by decide) rfl flX8_19 ?_
  refine cl_V1 (As := []) (st := [vi v2]) miX7_cakes (tX7_cakes hS (hc.w rfl rfl) μ (o := (μ 25 1)) rfl) dX8_learnRound_20 lkX8_57 inX7_cakes rfl (hS.lt (hc 25 rfl)) rfl ⟨rfl, rfl⟩ ⟨⟨Nat.le_of_ble_eq_true rfl, Nat.le_of_ble_eq_true rfl⟩, Nat.zero_le _, Nat.zero_le _⟩ (Nat.le_of_ble_eq_true rfl) ?_
  refine ev_icmp_gt 133 dX8_learnRound_23 (by decide) (fun h3 => ?_) (fun h3 => ?_)
  · rw [if_neg h3] at hf
    obtain rfl := Option.some.inj hf
    refine ev_sub [3] rfl ?_
    exact hr
  · rw [if_pos h3] at hf
    refine ev_aload_n dX8_learnRound_26 0 rfl ?_
    refine ev_getK 0 dX8_learnRound_27 (hS.lt (hc _ (inR_w (i_St0 hk) rfl rfl))) (s_St0 hk) (hS.K1 (hc _ (inR_w (i_St0 hk) rfl rfl)) (K_St0 hk)) ciX8 (by decide) rfl flX8_19 ?_
    refine ev_iload_n dX8_learnRound_30 1 rfl ?_
    refine ev_iload dX8_learnRound_31 4 rfl ?_
    refine cl_V1 (As := [vi stack, vi v2]) (st := []) miX7_turned (tX7_turned hS (hc.w rfl rfl) stack v2 μ (o := (fX7_turned stack v2 μ)) rfl) dX8_learnRound_33 lkX8_60 inX7_turned rfl (hS.lt (hc 25 rfl)) rfl ⟨rfl, rfl⟩ ⟨⟨Nat.le_of_ble_eq_true rfl, Nat.le_of_ble_eq_true rfl⟩, Nat.zero_le _, Nat.zero_le _⟩ (Nat.le_of_ble_eq_true rfl) ?_
    obtain ⟨v4, hv4, hf⟩ := lt_elim hf
    refine ev_rni hv4 ?_
    refine ev_istore (al2 := [(6, vi v4), (0, vr g k), (1, vi stack), (3, vr g 35), (4, vi v1), (5, vi v2)]) dX8_learnRound_36 (by decide) rfl ?_
    refine ev_iload dX8_learnRound_38 5 rfl ?_
    refine ev_aload_n dX8_learnRound_40 1 rfl ?_
    refine ev_getI 2 dX8_learnRound_41 (hS.lt (hc _ (inR_w (i_St0 hk) rfl rfl))) (s_St0 hk) (hS.mem _ (hc _ (inR_w (i_St0 hk) rfl rfl))) ciX8 (by decide) rfl flX8_27 ?_
    obtain ⟨v5, hv5, hf⟩ := lt_elim hf
    have hJv5 : Ev l D cy g K yX8_learnRound cX8_learnRound 8 (some .int) (rmd 4 0 0) (MX D cy g K (rmd 4 0 0) Φ) 0 0 M x (L μ) 65 [(6, vi v4), (0, vr g k), (1, vi stack), (3, vr g 35), (4, vi v1), (5, vi v2)] [vb v5] := by
      refine ev_istore (al2 := [(7, vb v5), (6, vi v4), (0, vr g k), (1, vi stack), (3, vr g 35), (4, vi v1), (5, vi v2)]) dX8_learnRound_65 (by decide) rfl ?_
      refine ev_iload dX8_learnRound_67 0 rfl ?_
      refine ev_ifb_eq 127 dX8_learnRound_69 (by decide) (fun h8 => ?_) (fun h8 => ?_)
      · rw [if_neg h8] at hf
        refine ev_iinc (al2 := [(5, vi (v2 + 1)), (7, vb v5), (6, vi v4), (0, vr g k), (1, vi stack), (3, vr g 35), (4, vi v1)]) dX8_learnRound_127 6 rfl (by decide) rfl ?_
        refine ev_goto 14 dX8_learnRound_130 (by decide) ?_
        obtain rfl := Option.some.inj hf
        refine ev_sub [3, 4, 5, 6, 0] rfl ?_
        exact hr
      · rw [if_pos h8] at hf
        refine ev_aload_n dX8_learnRound_72 2 rfl ?_
        refine ev_getK 0 dX8_learnRound_73 (hS.lt (hc _ (inR_w (i_St0 hk) rfl rfl))) (s_St0 hk) (hS.K1 (hc _ (inR_w (i_St0 hk) rfl rfl)) (K_St0 hk)) ciX8 (by decide) rfl flX8_19 ?_
        refine ev_aload_n dX8_learnRound_76 2 rfl ?_
        refine ev_getZ 1 dX8_learnRound_77 (hS.lt (hc _ (inR_w (i_St0 hk) rfl rfl))) (s_St0 hk) (hS.mem _ (hc _ (inR_w (i_St0 hk) rfl rfl))) ciX8 (by decide) rfl flX8_23 ?_
        obtain ⟨v9, hv9, hf⟩ := lt_elim hf
        have hJv9 : Ev l D cy g K yX8_learnRound cX8_learnRound 8 (some .int) (rmd 4 0 0) (MX D cy g K (rmd 4 0 0) Φ) 0 0 M x (L μ) 89 [(7, vb v5), (6, vi v4), (0, vr g k), (1, vi stack), (3, vr g 35), (4, vi v1), (5, vi v2)] [vi v9, vr g 25] := by
          refine ev_iload dX8_learnRound_89 6 rfl ?_
          refine cl_V1 (As := [vi v9, vi v2]) (st := []) miX7_isOpen (tX7_isOpen hS (hc.w rfl rfl) v9 v2 μ (o := (fX7_isOpen v9 v2 μ)) rfl) dX8_learnRound_91 lkX8_67 inX7_isOpen rfl (hS.lt (hc 25 rfl)) rfl ⟨rfl, rfl⟩ ⟨⟨Nat.le_of_ble_eq_true rfl, Nat.le_of_ble_eq_true rfl⟩, Nat.zero_le _, Nat.zero_le _⟩ (Nat.le_of_ble_eq_true rfl) ?_
          refine ev_ifb_eq 127 dX8_learnRound_94 (by decide) (fun h11 => ?_) (fun h11 => ?_)
          · rw [if_neg h11] at hf
            refine ev_iinc (al2 := [(5, vi (v2 + 1)), (7, vb v5), (6, vi v4), (0, vr g k), (1, vi stack), (3, vr g 35), (4, vi v1)]) dX8_learnRound_127 6 rfl (by decide) rfl ?_
            refine ev_goto 14 dX8_learnRound_130 (by decide) ?_
            obtain rfl := Option.some.inj hf
            refine ev_sub [3, 4, 5, 6, 0] rfl ?_
            exact hr
          · rw [if_pos h11] at hf
            refine ev_aload_n dX8_learnRound_97 2 rfl ?_
            refine ev_getK 3 dX8_learnRound_98 (hS.lt (hc _ (inR_w (i_St0 hk) rfl rfl))) (s_St0 hk) (hS.K1 (hc _ (inR_w (i_St0 hk) rfl rfl)) (K_St3 hk)) ciX8 (by decide) rfl flX8_9 ?_
            refine ev_iload dX8_learnRound_101 1 rfl ?_
            refine ev_aload_n dX8_learnRound_103 2 rfl ?_
            refine ev_getK 3 dX8_learnRound_104 (hS.lt (hc _ (inR_w (i_St0 hk) rfl rfl))) (s_St0 hk) (hS.K1 (hc _ (inR_w (i_St0 hk) rfl rfl)) (K_St3 hk)) ciX8 (by decide) rfl flX8_9 ?_
            refine ev_iload_n dX8_learnRound_107 3 rfl ?_
            refine cl_N1 (As := [vr g (k + 1), vi stack]) (st := [vi v4, vr g (k + 1)]) (host := "HotCakes") miX11_at (tX11_at hS (hc.w rfl rfl) (k + 1) stack μ (⟨(hc _ (inR_w (i_St1 hk) rfl rfl)), (ia_of (s_St1 hk))⟩) (o := (fX11_at (k + 1) stack μ)) rfl) dX8_learnRound_108 (by decide) stX11_at rfl ⟨⟨Nat.le_of_ble_eq_true rfl, Nat.le_of_ble_eq_true rfl⟩, Nat.zero_le _, Nat.zero_le _⟩ (Nat.le_of_ble_eq_true rfl) ?_
            refine ev_iconst dX8_learnRound_111 ?_
            refine ev_iadd dX8_learnRound_112 ?_
            obtain ⟨μ12, hμ12, hf⟩ := lt_elim hf
            refine cl_N0 (As := [vr g (k + 1), vi v4, vi ((fX11_at (k + 1) stack μ) + 1)]) (st := []) (host := "HotCakes") miX11_put (tX11_put hS (hc.w rfl rfl) (k + 1) v4 ((fX11_at (k + 1) stack μ) + 1) μ (⟨(hc _ (inR_w (i_St1 hk) rfl rfl)), (ia_of (s_St1 hk))⟩) hμ12.symm) dX8_learnRound_113 (by decide) stX11_put rfl ⟨⟨Nat.le_of_ble_eq_true rfl, Nat.le_of_ble_eq_true rfl⟩, Nat.zero_le _, Nat.zero_le _⟩ (Nat.le_of_ble_eq_true rfl) ?_
            refine ev_aload_n dX8_learnRound_116 4 rfl ?_
            refine ev_iload dX8_learnRound_117 5 rfl ?_
            refine ev_iload dX8_learnRound_119 1 rfl ?_
            obtain ⟨μ13, hμ13, hf⟩ := lt_elim hf
            refine cl_N0 (As := [vr g 35, vi v1, vi v4]) (st := []) (host := "HotCakes") miX11_put (tX11_put hS (hc.w rfl rfl) 35 v1 v4 μ12 (⟨(hc 35 rfl), rfl⟩) hμ13.symm) dX8_learnRound_121 (by decide) stX11_put rfl ⟨⟨Nat.le_of_ble_eq_true rfl, Nat.le_of_ble_eq_true rfl⟩, Nat.zero_le _, Nat.zero_le _⟩ (Nat.le_of_ble_eq_true rfl) ?_
            refine ev_iinc (al2 := [(4, vi (v1 + 1)), (7, vb v5), (6, vi v4), (0, vr g k), (1, vi stack), (3, vr g 35), (5, vi v2)]) dX8_learnRound_124 5 rfl (by decide) rfl ?_
            refine ev_iinc (al2 := [(5, vi (v2 + 1)), (4, vi (v1 + 1)), (7, vb v5), (6, vi v4), (0, vr g k), (1, vi stack), (3, vr g 35)]) dX8_learnRound_127 6 rfl (by decide) rfl ?_
            refine ev_goto 14 dX8_learnRound_130 (by decide) ?_
            obtain rfl := Option.some.inj hf
            refine ev_sub [4, 5, 6, 1, 0] rfl ?_
            exact hr
        refine ev_ifb_eq 88 dX8_learnRound_80 (by decide) (fun h10 => ?_) (fun h10 => ?_)
        · refine ev_iload_n dX8_learnRound_88 3 rfl ?_
          have e9 : v9 = stack := hv9.trans ((if_neg h10))
          subst e9
          exact hJv9
        · refine ev_iload dX8_learnRound_83 1 rfl ?_
          refine ev_goto 89 dX8_learnRound_85 (by decide) ?_
          have e9 : v9 = v4 := hv9.trans ((if_pos h10))
          subst e9
          exact hJv9
    refine ev_icmp_eq 64 dX8_learnRound_44 (by decide) (fun h6 => ?_) (fun h6 => ?_)
    · refine ev_iconst dX8_learnRound_64 ?_
      have e9 : v5 = false := hv5.trans ((if_pos h6))
      subst e9
      exact hJv5
    · refine ev_aload_n dX8_learnRound_47 1 rfl ?_
      refine ev_getK 3 dX8_learnRound_48 (hS.lt (hc _ (inR_w (i_St0 hk) rfl rfl))) (s_St0 hk) (hS.K1 (hc _ (inR_w (i_St0 hk) rfl rfl)) (K_St3 hk)) ciX8 (by decide) rfl flX8_9 ?_
      refine ev_iload dX8_learnRound_51 0 rfl ?_
      refine cl_N1 (As := [vr g (k + 1), vi v4]) (st := []) (host := "HotCakes") miX11_at (tX11_at hS (hc.w rfl rfl) (k + 1) v4 μ (⟨(hc _ (inR_w (i_St1 hk) rfl rfl)), (ia_of (s_St1 hk))⟩) (o := (fX11_at (k + 1) v4 μ)) rfl) dX8_learnRound_53 (by decide) stX11_at rfl ⟨⟨Nat.le_of_ble_eq_true rfl, Nat.le_of_ble_eq_true rfl⟩, Nat.zero_le _, Nat.zero_le _⟩ (Nat.le_of_ble_eq_true rfl) ?_
      refine ev_iconst dX8_learnRound_56 ?_
      refine ev_icmp_ne 64 dX8_learnRound_57 (by decide) (fun h7 => ?_) (fun h7 => ?_)
      · refine ev_iconst dX8_learnRound_64 ?_
        have e9 : v5 = false := hv5.trans (((if_neg h6)).trans (if_neg h7))
        subst e9
        exact hJv5
      · refine ev_iconst dX8_learnRound_60 ?_
        refine ev_goto 65 dX8_learnRound_61 (by decide) ?_
        have e9 : v5 = true := hv5.trans (((if_neg h6)).trans (if_pos h7))
        subst e9
        exact hJv5
def fX8_learnRound (k : Nat) (stack : Int) (tail : Int) (μ : Mem) : Option (Int × Mem) :=
  (loopN (fun s => fX8_learnRound_b14 k stack tail s.1 s.2.1 s.2.2) FU (tail, 1, μ)).bind fun q14 =>
  some ((q14.1, q14.2))
set_option maxRecDepth 4000 in
theorem eX8_learnRound (hS : Sd M K P L) (hc : CIn P 1 75) (k : Nat) (stack : Int) (tail : Int) (μ : Mem) (hk : isSt k) {o : Int × Mem} (hf : fX8_learnRound k stack tail μ = some o) (hr : (fun o : Int × Mem => Φ (some (vi o.1)) M x (L o.2)) o) : Ev l D cy g K yX8_learnRound cX8_learnRound 8 (some .int) (rmd 4 0 0) (MX D cy g K (rmd 4 0 0) Φ) 0 0 M x (L μ) 0 [(0, vr g k), (1, vi stack), (2, vi tail)] [] := by
  unfold fX8_learnRound at hf
  refine ev_aload_n dX8_learnRound_0 0 rfl ?_
  refine ev_getK 0 dX8_learnRound_1 (hS.lt (hc _ (inR_w (i_St0 hk) rfl rfl))) (s_St0 hk) (hS.K1 (hc _ (inR_w (i_St0 hk) rfl rfl)) (K_St0 hk)) ciX8 (by decide) rfl flX8_19 ?_
  refine cl_V1 (As := []) (st := []) miX7_queue (tX7_queue hS (hc.w rfl rfl) μ rfl) dX8_learnRound_4 lkX8_45 inX7_queue rfl (hS.lt (hc 25 rfl)) rfl ⟨rfl, rfl⟩ ⟨⟨Nat.le_of_ble_eq_true rfl, Nat.le_of_ble_eq_true rfl⟩, Nat.zero_le _, Nat.zero_le _⟩ (Nat.le_of_ble_eq_true rfl) ?_
  refine ev_astore_n (al2 := [(3, vr g 35), (0, vr g k), (1, vi stack), (2, vi tail)]) dX8_learnRound_7 3 rfl (by decide) rfl ?_
  refine ev_iload_n dX8_learnRound_8 3 rfl ?_
  refine ev_istore (al2 := [(4, vi tail), (3, vr g 35), (0, vr g k), (1, vi stack), (2, vi tail)]) dX8_learnRound_9 (by decide) rfl ?_
  refine ev_iconst dX8_learnRound_11 ?_
  refine ev_istore (al2 := [(5, vi 1), (4, vi tail), (3, vr g 35), (0, vr g k), (1, vi stack), (2, vi tail)]) dX8_learnRound_12 (by decide) rfl ?_
  obtain ⟨q14, hq14, hf⟩ := Option.bind_eq_some_iff.mp hf
  refine ev_sub [3, 4, 2, 1, 0] rfl ?_
  refine loop_ev (H := (fun s : Int × Int × Mem => Ev l D cy g K yX8_learnRound cX8_learnRound 8 (some .int) (rmd 4 0 0) (MX D cy g K (rmd 4 0 0) Φ) 0 0 M x (L s.2.2) 14 [(0, vr g k), (1, vi stack), (3, vr g 35), (4, vi s.1), (5, vi s.2.1)] [])) (Hx := (fun e : Int × Mem => Ev l D cy g K yX8_learnRound cX8_learnRound 8 (some .int) (rmd 4 0 0) (MX D cy g K (rmd 4 0 0) Φ) 0 0 M x (L e.2) 133 [(4, vi e.1)] [])) (fun s o hb hr => tX8_learnRound_b14 hS hc k stack tail s.1 s.2.1 s.2.2 hk hb hr) FU _ _ hq14 ?_
  show Ev l D cy g K yX8_learnRound cX8_learnRound 8 (some .int) (rmd 4 0 0) (MX D cy g K (rmd 4 0 0) Φ) 0 0 M x (L q14.2) 133 [(4, vi q14.1)] []
  refine ev_iload dX8_learnRound_133 0 rfl ?_
  obtain rfl := Option.some.inj hf
  exact ev_iret dX8_learnRound_135 rfl ⟨Nat.zero_le _, Nat.zero_le _⟩ hr
theorem tX8_learnRound (hS : Sd M K P L) (hc : CIn P 1 75) (k : Nat) (stack : Int) (tail : Int) (μ : Mem) (hk : isSt k) {o : Int × Mem} (hf : fX8_learnRound k stack tail μ = some o) : Cn l D cy g K K yX8_learnRound cX8_learnRound 8 (some .int) (rmd 4 0 0) [vr g k, vi stack, vi tail] M x (L μ) (PE (some (vi o.1)) M x (L o.2)) :=
 Cn.of (by decide) (Nat.le_of_ble_eq_true rfl) (eX8_learnRound hS hc k stack tail μ hk hf (PE_i _ _ _ _))
def fX8_learn_b78 (k : Nat) (asked : Int) (v9 : Int) (v10 : Int) (μ : Mem) : Option ((Int × Int × Mem) ⊕ (Mem)) :=
  if w32 v10 < w32 v9 then
    if w32 v10 < w32 3840 then
      gd (0 ≤ w32 v10 ∧ w32 v10 < 3840) <|
      (fX8_learnRound k (μ 35 (w32 v10).toNat) v9 μ).bind fun q14 =>
      some (.inl (q14.1, (v10 + 1), q14.2))
    else
      some (.inr μ)
  else
    some (.inr μ)
set_option maxRecDepth 4000 in
theorem tX8_learn_b78 (hS : Sd M K P L) (hc : CIn P 1 75) (k : Nat) (asked : Int) (v9 : Int) (v10 : Int) (μ : Mem) (hk : isSt k) {o : (Int × Int × Mem) ⊕ (Mem)} (hf : fX8_learn_b78 k asked v9 v10 μ = some o) (hr : (Sum.elim (fun s : Int × Int × Mem => Ev l D cy g K yX8_learn cX8_learn 5 none (rmd 5 0 0) (MX D cy g K (rmd 5 0 0) Φ) 0 0 M x (L s.2.2) 78 [(0, vr g k), (2, vr g 35), (3, vi s.1), (4, vi s.2.1)] []) (fun e : Mem => Ev l D cy g K yX8_learn cX8_learn 5 none (rmd 5 0 0) (MX D cy g K (rmd 5 0 0) Φ) 0 0 M x (L e) 107 [] [])) o) : Ev l D cy g K yX8_learn cX8_learn 5 none (rmd 5 0 0) (MX D cy g K (rmd 5 0 0) Φ) 0 0 M x (L μ) 78 [(0, vr g k), (2, vr g 35), (3, vi v9), (4, vi v10)] [] := by
  unfold fX8_learn_b78 at hf
  refine ev_iload dX8_learn_78 3 rfl ?_
  refine ev_iload_n dX8_learn_80 2 rfl ?_
  refine ev_icmp_ge 107 dX8_learn_81 (by decide) (fun h11 => ?_) (fun h11 => ?_)
  · rw [if_neg h11] at hf
    obtain rfl := Option.some.inj hf
    refine ev_sub [] rfl ?_
    exact hr
  · rw [if_pos h11] at hf
    refine ev_iload dX8_learn_84 3 rfl ?_
    refine ev_aload_n dX8_learn_86 1 rfl ?_
    refine ev_alen dX8_learn_87 (hS.lt (hc 35 rfl)) rfl (by decide) ?_
    refine ev_rn (w := vi 3840) rfl ?_
    refine ev_icmp_ge 107 dX8_learn_88 (by decide) (fun h12 => ?_) (fun h12 => ?_)
    · rw [if_neg h12] at hf
      obtain rfl := Option.some.inj hf
      refine ev_sub [] rfl ?_
      exact hr
    · rw [if_pos h12] at hf
      refine ev_aload_n dX8_learn_91 0 rfl ?_
      refine ev_aload_n dX8_learn_92 1 rfl ?_
      refine ev_iload dX8_learn_93 3 rfl ?_
      obtain ⟨g13, hf⟩ := gd_elim hf
      refine ev_iald dX8_learn_95 (hS.lt (hc 35 rfl)) rfl (hS.mem _ (hc 35 rfl)) g13 ?_
      refine ev_iload_n dX8_learn_96 2 rfl ?_
      obtain ⟨q14, hq14, hf⟩ := Option.bind_eq_some_iff.mp hf
      refine cl_V1 (As := [vi (μ 35 (w32 v10).toNat), vi v9]) (st := []) miX8_learnRound (tX8_learnRound hS (hc.w rfl rfl) k (μ 35 (w32 v10).toNat) v9 μ hk hq14) dX8_learn_97 lkX8_53 inX8_learnRound rfl (hS.lt (hc _ (inR_w (i_St0 hk) rfl rfl))) (s_St0 hk) ⟨rfl, rfl⟩ ⟨⟨Nat.le_of_ble_eq_true rfl, Nat.le_of_ble_eq_true rfl⟩, Nat.zero_le _, Nat.zero_le _⟩ (Nat.le_of_ble_eq_true rfl) ?_
      refine ev_istore_n (al2 := [(3, vi q14.1), (0, vr g k), (2, vr g 35), (4, vi v10)]) dX8_learn_100 3 rfl (by decide) rfl ?_
      refine ev_iinc (al2 := [(4, vi (v10 + 1)), (3, vi q14.1), (0, vr g k), (2, vr g 35)]) dX8_learn_101 3 rfl (by decide) rfl ?_
      refine ev_goto 78 dX8_learn_104 (by decide) ?_
      obtain rfl := Option.some.inj hf
      refine ev_sub [2, 3, 1, 0] rfl ?_
      exact hr
def fX8_learn_j16 (k : Nat) (asked : Int) (μ : Mem) : Option (Mem) :=
  lt (upd2 μ k 5 1) fun μ2 =>
  lt (upd2 μ2 k 4 asked) fun μ3 =>
  lt (fill3 μ3 (k + 1) 3840 (-1)) fun μ4 =>
  if w32 asked < 0 then
    some (μ4)
  else
    if w32 asked < w32 (i_shl (μ4 25 3) (μ4 25 2)) then
      lt (fX11_put (k + 1) asked 0 μ4) fun μ7 =>
      lt (fX11_put 35 0 asked μ7) fun μ8 =>
      (loopN (fun s => fX8_learn_b78 k asked s.1 s.2.1 s.2.2) FU (1, 0, μ8)).bind fun q15 =>
      some (q15)
    else
      some (μ4)
set_option maxRecDepth 4000 in
theorem tX8_learn_j16 (hS : Sd M K P L) (hc : CIn P 1 75) (k : Nat) (asked : Int) (μ : Mem) (hk : isSt k) {o : Mem} (hf : fX8_learn_j16 k asked μ = some o) (hr : (fun o : Mem => Φ none M x (L o)) o) : Ev l D cy g K yX8_learn cX8_learn 5 none (rmd 5 0 0) (MX D cy g K (rmd 5 0 0) Φ) 0 0 M x (L μ) 16 [(0, vr g k), (1, vi asked)] [] := by
  unfold fX8_learn_j16 at hf
  refine ev_aload_n dX8_learn_16 0 rfl ?_
  refine ev_iconst dX8_learn_17 ?_
  obtain ⟨μ2, hμ2, hf⟩ := lt_elim hf
  refine ev_putZ (b := true) 5 dX8_learn_18 (hS.lt (hc _ (inR_w (i_St0 hk) rfl rfl))) (s_St0 hk) ciX8 (by decide) (Or.inl rfl) rfl rfl flX8_30 (hS.up (hc _ (inR_w (i_St0 hk) rfl rfl)) hμ2) ?_
  refine ev_aload_n dX8_learn_21 0 rfl ?_
  refine ev_iload_n dX8_learn_22 1 rfl ?_
  obtain ⟨μ3, hμ3, hf⟩ := lt_elim hf
  refine ev_putI 4 dX8_learn_23 (hS.lt (hc _ (inR_w (i_St0 hk) rfl rfl))) (s_St0 hk) ciX8 (by decide) (Or.inl rfl) rfl rfl flX8_15 (hS.up (hc _ (inR_w (i_St0 hk) rfl rfl)) hμ3) ?_
  refine ev_aload_n dX8_learn_26 0 rfl ?_
  refine ev_getK 3 dX8_learn_27 (hS.lt (hc _ (inR_w (i_St0 hk) rfl rfl))) (s_St0 hk) (hS.K1 (hc _ (inR_w (i_St0 hk) rfl rfl)) (K_St3 hk)) ciX8 (by decide) rfl flX8_9 ?_
  refine ev_iconst dX8_learn_30 ?_
  obtain ⟨μ4, hμ4, hf⟩ := lt_elim hf
  refine cl_S0 (As := [vr g (k + 1), vi (-1)]) (st := []) miJ7_fill_53178 (tJ7_fill_53178 (o := μ4) hS (k + 1) (-1) μ3 ⟨(hc _ (inR_w (i_St1 hk) rfl rfl)), (ia_of (s_St1 hk))⟩ (al_of (s_St1 hk) (by decide)) (by rw [show alen (k + 1) = 3840 from (by unfold alen; rw [(s_St1 hk)])]; exact hμ4.symm)) dX8_learn_31 lkX8_33 stJ7_fill_53178 rfl ⟨⟨Nat.le_of_ble_eq_true rfl, Nat.le_of_ble_eq_true rfl⟩, Nat.zero_le _, Nat.zero_le _⟩ (Nat.le_of_ble_eq_true rfl) ?_
  refine ev_iload_n dX8_learn_34 1 rfl ?_
  refine ev_if_lt 49 dX8_learn_35 (by decide) (fun h5 => ?_) (fun h5 => ?_)
  · rw [if_pos h5] at hf
    obtain rfl := Option.some.inj hf
    exact ev_vret dX8_learn_49 rfl ⟨Nat.zero_le _, Nat.zero_le _⟩ hr
  · rw [if_neg h5] at hf
    refine ev_iload_n dX8_learn_38 1 rfl ?_
    refine ev_aload_n dX8_learn_39 0 rfl ?_
    refine ev_getK 0 dX8_learn_40 (hS.lt (hc _ (inR_w (i_St0 hk) rfl rfl))) (s_St0 hk) (hS.K1 (hc _ (inR_w (i_St0 hk) rfl rfl)) (K_St0 hk)) ciX8 (by decide) rfl flX8_19 ?_
    refine cl_V1 (As := []) (st := [vi asked]) miX7_all (tX7_all hS (hc.w rfl rfl) μ4 (o := (i_shl (μ4 25 3) (μ4 25 2))) rfl) dX8_learn_43 lkX8_39 inX7_all rfl (hS.lt (hc 25 rfl)) rfl ⟨rfl, rfl⟩ ⟨⟨Nat.le_of_ble_eq_true rfl, Nat.le_of_ble_eq_true rfl⟩, Nat.zero_le _, Nat.zero_le _⟩ (Nat.le_of_ble_eq_true rfl) ?_
    refine ev_icmp_lt 50 dX8_learn_46 (by decide) (fun h6 => ?_) (fun h6 => ?_)
    · rw [if_pos h6] at hf
      refine ev_aload_n dX8_learn_50 0 rfl ?_
      refine ev_getK 0 dX8_learn_51 (hS.lt (hc _ (inR_w (i_St0 hk) rfl rfl))) (s_St0 hk) (hS.K1 (hc _ (inR_w (i_St0 hk) rfl rfl)) (K_St0 hk)) ciX8 (by decide) rfl flX8_19 ?_
      refine cl_V1 (As := []) (st := []) miX7_queue (tX7_queue hS (hc.w rfl rfl) μ4 rfl) dX8_learn_54 lkX8_45 inX7_queue rfl (hS.lt (hc 25 rfl)) rfl ⟨rfl, rfl⟩ ⟨⟨Nat.le_of_ble_eq_true rfl, Nat.le_of_ble_eq_true rfl⟩, Nat.zero_le _, Nat.zero_le _⟩ (Nat.le_of_ble_eq_true rfl) ?_
      refine ev_astore_n (al2 := [(2, vr g 35), (0, vr g k), (1, vi asked)]) dX8_learn_57 2 rfl (by decide) rfl ?_
      refine ev_aload_n dX8_learn_58 1 rfl ?_
      refine ev_getK 3 dX8_learn_59 (hS.lt (hc _ (inR_w (i_St0 hk) rfl rfl))) (s_St0 hk) (hS.K1 (hc _ (inR_w (i_St0 hk) rfl rfl)) (K_St3 hk)) ciX8 (by decide) rfl flX8_9 ?_
      refine ev_iload_n dX8_learn_62 2 rfl ?_
      refine ev_iconst dX8_learn_63 ?_
      obtain ⟨μ7, hμ7, hf⟩ := lt_elim hf
      refine cl_N0 (As := [vr g (k + 1), vi asked, vi 0]) (st := []) (host := "HotCakes") miX11_put (tX11_put hS (hc.w rfl rfl) (k + 1) asked 0 μ4 (⟨(hc _ (inR_w (i_St1 hk) rfl rfl)), (ia_of (s_St1 hk))⟩) hμ7.symm) dX8_learn_64 (by decide) stX11_put rfl ⟨⟨Nat.le_of_ble_eq_true rfl, Nat.le_of_ble_eq_true rfl⟩, Nat.zero_le _, Nat.zero_le _⟩ (Nat.le_of_ble_eq_true rfl) ?_
      refine ev_aload_n dX8_learn_67 0 rfl ?_
      refine ev_iconst dX8_learn_68 ?_
      refine ev_iload_n dX8_learn_69 2 rfl ?_
      obtain ⟨μ8, hμ8, hf⟩ := lt_elim hf
      refine cl_N0 (As := [vr g 35, vi 0, vi asked]) (st := []) (host := "HotCakes") miX11_put (tX11_put hS (hc.w rfl rfl) 35 0 asked μ7 (⟨(hc 35 rfl), rfl⟩) hμ8.symm) dX8_learn_70 (by decide) stX11_put rfl ⟨⟨Nat.le_of_ble_eq_true rfl, Nat.le_of_ble_eq_true rfl⟩, Nat.zero_le _, Nat.zero_le _⟩ (Nat.le_of_ble_eq_true rfl) ?_
      refine ev_iconst dX8_learn_73 ?_
      refine ev_istore_n (al2 := [(3, vi 1), (2, vr g 35), (0, vr g k), (1, vi asked)]) dX8_learn_74 3 rfl (by decide) rfl ?_
      refine ev_iconst dX8_learn_75 ?_
      refine ev_istore (al2 := [(4, vi 0), (3, vi 1), (2, vr g 35), (0, vr g k), (1, vi asked)]) dX8_learn_76 (by decide) rfl ?_
      obtain ⟨q15, hq15, hf⟩ := Option.bind_eq_some_iff.mp hf
      refine ev_sub [3, 2, 1, 0] rfl ?_
      refine loop_ev (H := (fun s : Int × Int × Mem => Ev l D cy g K yX8_learn cX8_learn 5 none (rmd 5 0 0) (MX D cy g K (rmd 5 0 0) Φ) 0 0 M x (L s.2.2) 78 [(0, vr g k), (2, vr g 35), (3, vi s.1), (4, vi s.2.1)] [])) (Hx := (fun e : Mem => Ev l D cy g K yX8_learn cX8_learn 5 none (rmd 5 0 0) (MX D cy g K (rmd 5 0 0) Φ) 0 0 M x (L e) 107 [] [])) (fun s o hb hr => tX8_learn_b78 hS hc k asked s.1 s.2.1 s.2.2 hk hb hr) FU _ _ hq15 ?_
      show Ev l D cy g K yX8_learn cX8_learn 5 none (rmd 5 0 0) (MX D cy g K (rmd 5 0 0) Φ) 0 0 M x (L q15) 107 [] []
      obtain rfl := Option.some.inj hf
      exact ev_vret dX8_learn_107 rfl ⟨Nat.zero_le _, Nat.zero_le _⟩ hr
    · rw [if_neg h6] at hf
      obtain rfl := Option.some.inj hf
      exact ev_vret dX8_learn_49 rfl ⟨Nat.zero_le _, Nat.zero_le _⟩ hr
def fX8_learn (k : Nat) (asked : Int) (μ : Mem) : Option (Mem) :=
  if ((μ k 5) != 0) = true then
    if w32 asked = w32 (μ k 4) then
      some (μ)
    else
      fX8_learn_j16 k asked μ
  else
    fX8_learn_j16 k asked μ
set_option maxRecDepth 4000 in
theorem eX8_learn (hS : Sd M K P L) (hc : CIn P 1 75) (k : Nat) (asked : Int) (μ : Mem) (hk : isSt k) {o : Mem} (hf : fX8_learn k asked μ = some o) (hr : (fun o : Mem => Φ none M x (L o)) o) : Ev l D cy g K yX8_learn cX8_learn 5 none (rmd 5 0 0) (MX D cy g K (rmd 5 0 0) Φ) 0 0 M x (L μ) 0 [(0, vr g k), (1, vi asked)] [] := by
  unfold fX8_learn at hf
  refine ev_aload_n dX8_learn_0 0 rfl ?_
  refine ev_getZ 5 dX8_learn_1 (hS.lt (hc _ (inR_w (i_St0 hk) rfl rfl))) (s_St0 hk) (hS.mem _ (hc _ (inR_w (i_St0 hk) rfl rfl))) ciX8 (by decide) rfl flX8_30 ?_
  refine ev_ifb_eq 16 dX8_learn_4 (by decide) (fun h1 => ?_) (fun h1 => ?_)
  · rw [if_neg h1] at hf
    refine ev_sub [0, 1] rfl ?_
    exact tX8_learn_j16 hS hc k asked μ hk hf hr
  · rw [if_pos h1] at hf
    refine ev_iload_n dX8_learn_7 1 rfl ?_
    refine ev_aload_n dX8_learn_8 0 rfl ?_
    refine ev_getI 4 dX8_learn_9 (hS.lt (hc _ (inR_w (i_St0 hk) rfl rfl))) (s_St0 hk) (hS.mem _ (hc _ (inR_w (i_St0 hk) rfl rfl))) ciX8 (by decide) rfl flX8_15 ?_
    refine ev_icmp_ne 16 dX8_learn_12 (by decide) (fun h16 => ?_) (fun h16 => ?_)
    · rw [if_neg h16] at hf
      refine ev_sub [0, 1] rfl ?_
      exact tX8_learn_j16 hS hc k asked μ hk hf hr
    · rw [if_pos h16] at hf
      obtain rfl := Option.some.inj hf
      exact ev_vret dX8_learn_15 rfl ⟨Nat.zero_le _, Nat.zero_le _⟩ hr
theorem tX8_learn (hS : Sd M K P L) (hc : CIn P 1 75) (k : Nat) (asked : Int) (μ : Mem) (hk : isSt k) {o : Mem} (hf : fX8_learn k asked μ = some o) : Cn l D cy g K K yX8_learn cX8_learn 5 none (rmd 5 0 0) [vr g k, vi asked] M x (L μ) (PE none M x (L o)) :=
 Cn.of (by decide) (Nat.le_of_ble_eq_true rfl) (eX8_learn hS hc k asked μ hk hf (PE_i _ _ _ _))
def fX11_servedSteps  (μ : Mem) : Option (Mem) :=
  (fX8_learn 46 (μ 25 4) μ).bind fun μ1 =>
  some (μ1)
set_option maxRecDepth 4000 in
theorem eX11_servedSteps (hS : Sd M K P L) (hc : CIn P 0 75)  (μ : Mem)  {o : Mem} (hf : fX11_servedSteps  μ = some o) (hr : (fun o : Mem => Φ (some (vr g 46)) M x (L o)) o) : Ev l D cy g K yX11_servedSteps cX11_servedSteps 1 (some (.object "HotCakes$Steps")) (rmd 6 0 0) (MX D cy g K (rmd 6 0 0) Φ) 0 0 M x (L μ) 0 [(0, vr g 0)] [] := by
  unfold fX11_servedSteps at hf
  refine ev_aload_n dX11_servedSteps_0 0 rfl ?_
  refine ev_getK 12 dX11_servedSteps_1 (hS.lt (hc 0 rfl)) rfl (hS.K1 (hc 0 rfl) rfl) ciX11 (by decide) rfl flX11_78 ?_
  refine ev_aload_n dX11_servedSteps_4 0 rfl ?_
  refine ev_getK 4 dX11_servedSteps_5 (hS.lt (hc 0 rfl)) rfl (hS.K1 (hc 0 rfl) rfl) ciX11 (by decide) rfl flX11_40 ?_
  refine cl_V1 (As := []) (st := [vr g 46]) miX7_goal (tX7_goal hS (hc.w rfl rfl) μ (o := (μ 25 4)) rfl) dX11_servedSteps_8 lkX11_208 inX7_goal rfl (hS.lt (hc 25 rfl)) rfl ⟨rfl, rfl⟩ ⟨⟨Nat.le_of_ble_eq_true rfl, Nat.le_of_ble_eq_true rfl⟩, Nat.zero_le _, Nat.zero_le _⟩ (Nat.le_of_ble_eq_true rfl) ?_
  obtain ⟨μ1, hμ1, hf⟩ := Option.bind_eq_some_iff.mp hf
  refine cl_V0 (As := [vi (μ 25 4)]) (st := []) miX8_learn (tX8_learn hS (hc.w rfl rfl) 46 (μ 25 4) μ (by simp [isSt]) hμ1) dX11_servedSteps_11 lkX11_372 inX8_learn rfl (hS.lt (hc 46 rfl)) rfl ⟨rfl, rfl⟩ ⟨⟨Nat.le_of_ble_eq_true rfl, Nat.le_of_ble_eq_true rfl⟩, Nat.zero_le _, Nat.zero_le _⟩ (Nat.le_of_ble_eq_true rfl) ?_
  refine ev_aload_n dX11_servedSteps_14 0 rfl ?_
  refine ev_getK 12 dX11_servedSteps_15 (hS.lt (hc 0 rfl)) rfl (hS.K1 (hc 0 rfl) rfl) ciX11 (by decide) rfl flX11_78 ?_
  obtain rfl := Option.some.inj hf
  exact ev_aret dX11_servedSteps_18 rfl (by first | exact Or.inl ⟨_, rfl⟩ | exact Or.inr ⟨_, rfl⟩) ⟨Nat.zero_le _, Nat.zero_le _⟩ hr
theorem tX11_servedSteps (hS : Sd M K P L) (hc : CIn P 0 75) (μ : Mem) {o : Mem} (hf : fX11_servedSteps μ = some o) : Cn l D cy g K K yX11_servedSteps cX11_servedSteps 1 (some (.object "HotCakes$Steps")) (rmd 6 0 0) [vr g 0] M x (L μ) (PE (some (vr g 46)) M x (L o)) :=
 Cn.of (by decide) (Nat.le_of_ble_eq_true rfl) (eX11_servedSteps hS hc μ hf (PE_i _ _ _ _))
def fX8_turnsOf (k : Nat) (stack : Int) (μ : Mem) : Int :=
  (fX11_at (k + 1) stack μ)
set_option maxRecDepth 4000 in
theorem eX8_turnsOf (hS : Sd M K P L) (hc : CIn P 1 75) (k : Nat) (stack : Int) (μ : Mem) (hk : isSt k) {o : Int} (hf : fX8_turnsOf k stack μ = o) (hr : (fun o : Int => Φ (some (vi o)) M x (L μ)) o) : Ev l D cy g K yX8_turnsOf cX8_turnsOf 2 (some .int) (rmd 2 0 0) (MX D cy g K (rmd 2 0 0) Φ) 0 0 M x (L μ) 0 [(0, vr g k), (1, vi stack)] [] := by
  unfold fX8_turnsOf at hf
  refine ev_aload_n dX8_turnsOf_0 0 rfl ?_
  refine ev_getK 3 dX8_turnsOf_1 (hS.lt (hc _ (inR_w (i_St0 hk) rfl rfl))) (s_St0 hk) (hS.K1 (hc _ (inR_w (i_St0 hk) rfl rfl)) (K_St3 hk)) ciX8 (by decide) rfl flX8_9 ?_
  refine ev_iload_n dX8_turnsOf_4 1 rfl ?_
  refine cl_N1 (As := [vr g (k + 1), vi stack]) (st := []) (host := "HotCakes") miX11_at (tX11_at hS (hc.w rfl rfl) (k + 1) stack μ (⟨(hc _ (inR_w (i_St1 hk) rfl rfl)), (ia_of (s_St1 hk))⟩) (o := (fX11_at (k + 1) stack μ)) rfl) dX8_turnsOf_5 (by decide) stX11_at rfl ⟨⟨Nat.le_of_ble_eq_true rfl, Nat.le_of_ble_eq_true rfl⟩, Nat.zero_le _, Nat.zero_le _⟩ (Nat.le_of_ble_eq_true rfl) ?_
  obtain rfl := hf
  exact ev_iret dX8_turnsOf_8 rfl ⟨Nat.zero_le _, Nat.zero_le _⟩ hr
theorem tX8_turnsOf (hS : Sd M K P L) (hc : CIn P 1 75) (k : Nat) (stack : Int) (μ : Mem) (hk : isSt k) {o : Int} (hf : fX8_turnsOf k stack μ = o) : Cn l D cy g K K yX8_turnsOf cX8_turnsOf 2 (some .int) (rmd 2 0 0) [vr g k, vi stack] M x (L μ) (PE (some (vi o)) M x (L μ)) :=
 Cn.of (by decide) (Nat.le_of_ble_eq_true rfl) (eX8_turnsOf hS hc k stack μ hk hf (PE_i _ _ _ _))
def fX11_least  (μ : Mem) : Option (Int × Mem) :=
  (fX11_servedSteps μ).bind fun μ1 =>
  some (((fX11_at (46 + 1) (μ1 41 1) μ1), μ1))
set_option maxRecDepth 4000 in
theorem eX11_least (hS : Sd M K P L) (hc : CIn P 0 75)  (μ : Mem)  {o : Int × Mem} (hf : fX11_least  μ = some o) (hr : (fun o : Int × Mem => Φ (some (vi o.1)) M x (L o.2)) o) : Ev l D cy g K yX11_least cX11_least 1 (some .int) (rmd 7 0 0) (MX D cy g K (rmd 7 0 0) Φ) 0 0 M x (L μ) 0 [(0, vr g 0)] [] := by
  unfold fX11_least at hf
  refine ev_aload_n dX11_least_0 0 rfl ?_
  obtain ⟨μ1, hμ1, hf⟩ := Option.bind_eq_some_iff.mp hf
  refine cl_V1 (As := []) (st := []) miX11_servedSteps (tX11_servedSteps hS (hc.w rfl rfl) μ hμ1) dX11_least_1 lkX11_215 inX11_servedSteps rfl (hS.lt (hc 0 rfl)) rfl ⟨rfl, rfl⟩ ⟨⟨Nat.le_of_ble_eq_true rfl, Nat.le_of_ble_eq_true rfl⟩, Nat.zero_le _, Nat.zero_le _⟩ (Nat.le_of_ble_eq_true rfl) ?_
  refine ev_aload_n dX11_least_4 0 rfl ?_
  refine ev_getK 7 dX11_least_5 (hS.lt (hc 0 rfl)) rfl (hS.K1 (hc 0 rfl) rfl) ciX11 (by decide) rfl flX11_58 ?_
  refine cl_V1 (As := []) (st := [vr g 46]) miX5_stack (tX5_stack hS (hc.w rfl rfl) 41 μ1 (by simp [isMo]) (o := (μ1 41 1)) rfl) dX11_least_8 lkX11_167 inX5_stack rfl (hS.lt (hc 41 rfl)) rfl ⟨rfl, rfl⟩ ⟨⟨Nat.le_of_ble_eq_true rfl, Nat.le_of_ble_eq_true rfl⟩, Nat.zero_le _, Nat.zero_le _⟩ (Nat.le_of_ble_eq_true rfl) ?_
  refine cl_V1 (As := [vi (μ1 41 1)]) (st := []) miX8_turnsOf (tX8_turnsOf hS (hc.w rfl rfl) 46 (μ1 41 1) μ1 (by simp [isSt]) (o := (fX11_at (46 + 1) (μ1 41 1) μ1)) rfl) dX11_least_11 lkX11_219 inX8_turnsOf rfl (hS.lt (hc 46 rfl)) rfl ⟨rfl, rfl⟩ ⟨⟨Nat.le_of_ble_eq_true rfl, Nat.le_of_ble_eq_true rfl⟩, Nat.zero_le _, Nat.zero_le _⟩ (Nat.le_of_ble_eq_true rfl) ?_
  obtain rfl := Option.some.inj hf
  exact ev_iret dX11_least_14 rfl ⟨Nat.zero_le _, Nat.zero_le _⟩ hr
theorem tX11_least (hS : Sd M K P L) (hc : CIn P 0 75) (μ : Mem) {o : Int × Mem} (hf : fX11_least μ = some o) : Cn l D cy g K K yX11_least cX11_least 1 (some .int) (rmd 7 0 0) [vr g 0] M x (L μ) (PE (some (vi o.1)) M x (L o.2)) :=
 Cn.of (by decide) (Nat.le_of_ble_eq_true rfl) (eX11_least hS hc μ hf (PE_i _ _ _ _))
def fX8_isNearer (k : Nat) (stack : Int) (many : Int) (μ : Mem) : Bool :=
  lt (if (fX7_isOpen stack many μ) = true then
      if w32 (fX11_at (k + 1) (fX7_turned stack many μ) μ) = w32 ((fX11_at (k + 1) stack μ) - 1) then
        true
      else
        false
    else
      false) fun v1 =>
  v1
set_option maxRecDepth 4000 in
theorem eX8_isNearer (hS : Sd M K P L) (hc : CIn P 1 75) (k : Nat) (stack : Int) (many : Int) (μ : Mem) (hk : isSt k) {o : Bool} (hf : fX8_isNearer k stack many μ = o) (hr : (fun o : Bool => Φ (some (vb o)) M x (L μ)) o) : Ev l D cy g K yX8_isNearer cX8_isNearer 3 (some .boolean) (rmd 4 0 0) (MX D cy g K (rmd 4 0 0) Φ) 0 0 M x (L μ) 0 [(0, vr g k), (1, vi stack), (2, vi many)] [] := by
  unfold fX8_isNearer at hf
  refine ev_aload_n dX8_isNearer_0 0 rfl ?_
  refine ev_getK 0 dX8_isNearer_1 (hS.lt (hc _ (inR_w (i_St0 hk) rfl rfl))) (s_St0 hk) (hS.K1 (hc _ (inR_w (i_St0 hk) rfl rfl)) (K_St0 hk)) ciX8 (by decide) rfl flX8_19 ?_
  refine ev_iload_n dX8_isNearer_4 1 rfl ?_
  refine ev_iload_n dX8_isNearer_5 2 rfl ?_
  refine cl_V1 (As := [vi stack, vi many]) (st := []) miX7_isOpen (tX7_isOpen hS (hc.w rfl rfl) stack many μ (o := (fX7_isOpen stack many μ)) rfl) dX8_isNearer_6 lkX8_67 inX7_isOpen rfl (hS.lt (hc 25 rfl)) rfl ⟨rfl, rfl⟩ ⟨⟨Nat.le_of_ble_eq_true rfl, Nat.le_of_ble_eq_true rfl⟩, Nat.zero_le _, Nat.zero_le _⟩ (Nat.le_of_ble_eq_true rfl) ?_
  obtain ⟨v1, hv1, hf⟩ := lt_elim hf
  have hJv1 : Ev l D cy g K yX8_isNearer cX8_isNearer 3 (some .boolean) (rmd 4 0 0) (MX D cy g K (rmd 4 0 0) Φ) 0 0 M x (L μ) 46 [(0, vr g k), (1, vi stack), (2, vi many)] [vb v1] := by
    obtain rfl := hf
    exact ev_bret (b := v1) dX8_isNearer_46 rfl ⟨Nat.zero_le _, Nat.zero_le _⟩ hr
  refine ev_ifb_eq 45 dX8_isNearer_9 (by decide) (fun h2 => ?_) (fun h2 => ?_)
  · refine ev_iconst dX8_isNearer_45 ?_
    have e9 : v1 = false := hv1.trans ((if_neg h2))
    subst e9
    exact hJv1
  · refine ev_aload_n dX8_isNearer_12 0 rfl ?_
    refine ev_getK 3 dX8_isNearer_13 (hS.lt (hc _ (inR_w (i_St0 hk) rfl rfl))) (s_St0 hk) (hS.K1 (hc _ (inR_w (i_St0 hk) rfl rfl)) (K_St3 hk)) ciX8 (by decide) rfl flX8_9 ?_
    refine ev_aload_n dX8_isNearer_16 0 rfl ?_
    refine ev_getK 0 dX8_isNearer_17 (hS.lt (hc _ (inR_w (i_St0 hk) rfl rfl))) (s_St0 hk) (hS.K1 (hc _ (inR_w (i_St0 hk) rfl rfl)) (K_St0 hk)) ciX8 (by decide) rfl flX8_19 ?_
    refine ev_iload_n dX8_isNearer_20 1 rfl ?_
    refine ev_iload_n dX8_isNearer_21 2 rfl ?_
    refine cl_V1 (As := [vi stack, vi many]) (st := [vr g (k + 1)]) miX7_turned (tX7_turned hS (hc.w rfl rfl) stack many μ (o := (fX7_turned stack many μ)) rfl) dX8_isNearer_22 lkX8_60 inX7_turned rfl (hS.lt (hc 25 rfl)) rfl ⟨rfl, rfl⟩ ⟨⟨Nat.le_of_ble_eq_true rfl, Nat.le_of_ble_eq_true rfl⟩, Nat.zero_le _, Nat.zero_le _⟩ (Nat.le_of_ble_eq_true rfl) ?_
    refine cl_N1 (As := [vr g (k + 1), vi (fX7_turned stack many μ)]) (st := []) (host := "HotCakes") miX11_at (tX11_at hS (hc.w rfl rfl) (k + 1) (fX7_turned stack many μ) μ (⟨(hc _ (inR_w (i_St1 hk) rfl rfl)), (ia_of (s_St1 hk))⟩) (o := (fX11_at (k + 1) (fX7_turned stack many μ) μ)) rfl) dX8_isNearer_25 (by decide) stX11_at rfl ⟨⟨Nat.le_of_ble_eq_true rfl, Nat.le_of_ble_eq_true rfl⟩, Nat.zero_le _, Nat.zero_le _⟩ (Nat.le_of_ble_eq_true rfl) ?_
    refine ev_aload_n dX8_isNearer_28 0 rfl ?_
    refine ev_getK 3 dX8_isNearer_29 (hS.lt (hc _ (inR_w (i_St0 hk) rfl rfl))) (s_St0 hk) (hS.K1 (hc _ (inR_w (i_St0 hk) rfl rfl)) (K_St3 hk)) ciX8 (by decide) rfl flX8_9 ?_
    refine ev_iload_n dX8_isNearer_32 1 rfl ?_
    refine cl_N1 (As := [vr g (k + 1), vi stack]) (st := [vi (fX11_at (k + 1) (fX7_turned stack many μ) μ)]) (host := "HotCakes") miX11_at (tX11_at hS (hc.w rfl rfl) (k + 1) stack μ (⟨(hc _ (inR_w (i_St1 hk) rfl rfl)), (ia_of (s_St1 hk))⟩) (o := (fX11_at (k + 1) stack μ)) rfl) dX8_isNearer_33 (by decide) stX11_at rfl ⟨⟨Nat.le_of_ble_eq_true rfl, Nat.le_of_ble_eq_true rfl⟩, Nat.zero_le _, Nat.zero_le _⟩ (Nat.le_of_ble_eq_true rfl) ?_
    refine ev_iconst dX8_isNearer_36 ?_
    refine ev_isub dX8_isNearer_37 ?_
    refine ev_icmp_ne 45 dX8_isNearer_38 (by decide) (fun h3 => ?_) (fun h3 => ?_)
    · refine ev_iconst dX8_isNearer_45 ?_
      have e9 : v1 = false := hv1.trans (((if_pos h2)).trans (if_neg h3))
      subst e9
      exact hJv1
    · refine ev_iconst dX8_isNearer_41 ?_
      refine ev_goto 46 dX8_isNearer_42 (by decide) ?_
      have e9 : v1 = true := hv1.trans (((if_pos h2)).trans (if_pos h3))
      subst e9
      exact hJv1
theorem tX8_isNearer (hS : Sd M K P L) (hc : CIn P 1 75) (k : Nat) (stack : Int) (many : Int) (μ : Mem) (hk : isSt k) {o : Bool} (hf : fX8_isNearer k stack many μ = o) : Cn l D cy g K K yX8_isNearer cX8_isNearer 3 (some .boolean) (rmd 4 0 0) [vr g k, vi stack, vi many] M x (L μ) (PE (some (vb o)) M x (L μ)) :=
 Cn.of (by decide) (Nat.le_of_ble_eq_true rfl) (eX8_isNearer hS hc k stack many μ hk hf (PE_i _ _ _ _))
def fX8_firstTurn_b11 (k : Nat) (stack : Int) (v1 : Int) (v2 : Int) (μ : Mem) : Option ((Int) ⊕ (Int)) :=
  if w32 v1 ≤ 0 then
    some (.inr (-1))
  else
    if w32 v2 ≤ w32 (μ 25 1) then
      if (fX8_isNearer k stack v2 μ) = true then
        some (.inr v2)
      else
        some (.inl (v2 + 1))
    else
      some (.inr (-1))
set_option maxRecDepth 4000 in
theorem tX8_firstTurn_b11 (hS : Sd M K P L) (hc : CIn P 1 75) (k : Nat) (stack : Int) (v1 : Int) (v2 : Int) (μ : Mem) (hk : isSt k) {o : (Int) ⊕ (Int)} (hf : fX8_firstTurn_b11 k stack v1 v2 μ = some o) (hr : (Sum.elim (fun s : Int => Ev l D cy g K yX8_firstTurn cX8_firstTurn 4 (some .int) (rmd 5 0 0) (MX D cy g K (rmd 5 0 0) Φ) 0 0 M x (L μ) 11 [(0, vr g k), (1, vi stack), (2, vi v1), (3, vi s)] []) (fun o : Int => Φ (some (vi o)) M x (L μ))) o) : Ev l D cy g K yX8_firstTurn cX8_firstTurn 4 (some .int) (rmd 5 0 0) (MX D cy g K (rmd 5 0 0) Φ) 0 0 M x (L μ) 11 [(0, vr g k), (1, vi stack), (2, vi v1), (3, vi v2)] [] := by
  unfold fX8_firstTurn_b11 at hf
  refine ev_iload_n dX8_firstTurn_11 2 rfl ?_
  refine ev_if_le 43 dX8_firstTurn_12 (by decide) (fun h3 => ?_) (fun h3 => ?_)
  · rw [if_pos h3] at hf
    refine ev_iconst dX8_firstTurn_43 ?_
    obtain rfl := Option.some.inj hf
    exact ev_iret dX8_firstTurn_44 rfl ⟨Nat.zero_le _, Nat.zero_le _⟩ hr
  · rw [if_neg h3] at hf
    refine ev_iload_n dX8_firstTurn_15 3 rfl ?_
    refine ev_aload_n dX8_firstTurn_16 0 rfl ?_
    refine ev_getK 0 dX8_firstTurn_17 (hS.lt (hc _ (inR_w (i_St0 hk) rfl rfl))) (s_St0 hk) (hS.K1 (hc _ (inR_w (i_St0 hk) rfl rfl)) (K_St0 hk)) ciX8 (by decide) rfl flX8_19 ?_
    refine cl_V1 (As := []) (st := [vi v2]) miX7_cakes (tX7_cakes hS (hc.w rfl rfl) μ (o := (μ 25 1)) rfl) dX8_firstTurn_20 lkX8_57 inX7_cakes rfl (hS.lt (hc 25 rfl)) rfl ⟨rfl, rfl⟩ ⟨⟨Nat.le_of_ble_eq_true rfl, Nat.le_of_ble_eq_true rfl⟩, Nat.zero_le _, Nat.zero_le _⟩ (Nat.le_of_ble_eq_true rfl) ?_
    refine ev_icmp_gt 43 dX8_firstTurn_23 (by decide) (fun h4 => ?_) (fun h4 => ?_)
    · rw [if_neg h4] at hf
      refine ev_iconst dX8_firstTurn_43 ?_
      obtain rfl := Option.some.inj hf
      exact ev_iret dX8_firstTurn_44 rfl ⟨Nat.zero_le _, Nat.zero_le _⟩ hr
    · rw [if_pos h4] at hf
      refine ev_aload_n dX8_firstTurn_26 0 rfl ?_
      refine ev_iload_n dX8_firstTurn_27 1 rfl ?_
      refine ev_iload_n dX8_firstTurn_28 3 rfl ?_
      refine cl_V1 (As := [vi stack, vi v2]) (st := []) miX8_isNearer (tX8_isNearer hS (hc.w rfl rfl) k stack v2 μ hk (o := (fX8_isNearer k stack v2 μ)) rfl) dX8_firstTurn_29 lkX8_71 inX8_isNearer rfl (hS.lt (hc _ (inR_w (i_St0 hk) rfl rfl))) (s_St0 hk) ⟨rfl, rfl⟩ ⟨⟨Nat.le_of_ble_eq_true rfl, Nat.le_of_ble_eq_true rfl⟩, Nat.zero_le _, Nat.zero_le _⟩ (Nat.le_of_ble_eq_true rfl) ?_
      refine ev_ifb_eq 37 dX8_firstTurn_32 (by decide) (fun h5 => ?_) (fun h5 => ?_)
      · rw [if_neg h5] at hf
        refine ev_iinc (al2 := [(3, vi (v2 + 1)), (0, vr g k), (1, vi stack), (2, vi v1)]) dX8_firstTurn_37 3 rfl (by decide) rfl ?_
        refine ev_goto 11 dX8_firstTurn_40 (by decide) ?_
        obtain rfl := Option.some.inj hf
        refine ev_sub [1, 2, 3, 0] rfl ?_
        exact hr
      · rw [if_pos h5] at hf
        refine ev_iload_n dX8_firstTurn_35 3 rfl ?_
        obtain rfl := Option.some.inj hf
        exact ev_iret dX8_firstTurn_36 rfl ⟨Nat.zero_le _, Nat.zero_le _⟩ hr
def fX8_firstTurn (k : Nat) (stack : Int) (μ : Mem) : Option (Int) :=
  lt (fX11_at (k + 1) stack μ) fun v1 =>
  loopN (fun s => fX8_firstTurn_b11 k stack v1 s μ) FU 1
set_option maxRecDepth 4000 in
theorem eX8_firstTurn (hS : Sd M K P L) (hc : CIn P 1 75) (k : Nat) (stack : Int) (μ : Mem) (hk : isSt k) {o : Int} (hf : fX8_firstTurn k stack μ = some o) (hr : (fun o : Int => Φ (some (vi o)) M x (L μ)) o) : Ev l D cy g K yX8_firstTurn cX8_firstTurn 4 (some .int) (rmd 5 0 0) (MX D cy g K (rmd 5 0 0) Φ) 0 0 M x (L μ) 0 [(0, vr g k), (1, vi stack)] [] := by
  unfold fX8_firstTurn at hf
  refine ev_aload_n dX8_firstTurn_0 0 rfl ?_
  refine ev_getK 3 dX8_firstTurn_1 (hS.lt (hc _ (inR_w (i_St0 hk) rfl rfl))) (s_St0 hk) (hS.K1 (hc _ (inR_w (i_St0 hk) rfl rfl)) (K_St3 hk)) ciX8 (by decide) rfl flX8_9 ?_
  refine ev_iload_n dX8_firstTurn_4 1 rfl ?_
  refine cl_N1 (As := [vr g (k + 1), vi stack]) (st := []) (host := "HotCakes") miX11_at (tX11_at hS (hc.w rfl rfl) (k + 1) stack μ (⟨(hc _ (inR_w (i_St1 hk) rfl rfl)), (ia_of (s_St1 hk))⟩) (o := (fX11_at (k + 1) stack μ)) rfl) dX8_firstTurn_5 (by decide) stX11_at rfl ⟨⟨Nat.le_of_ble_eq_true rfl, Nat.le_of_ble_eq_true rfl⟩, Nat.zero_le _, Nat.zero_le _⟩ (Nat.le_of_ble_eq_true rfl) ?_
  obtain ⟨v1, hv1, hf⟩ := lt_elim hf
  refine ev_rni hv1 ?_
  refine ev_istore_n (al2 := [(2, vi v1), (0, vr g k), (1, vi stack)]) dX8_firstTurn_8 2 rfl (by decide) rfl ?_
  refine ev_iconst dX8_firstTurn_9 ?_
  refine ev_istore_n (al2 := [(3, vi 1), (2, vi v1), (0, vr g k), (1, vi stack)]) dX8_firstTurn_10 3 rfl (by decide) rfl ?_
  refine ev_sub [2, 3, 1, 0] rfl ?_
  exact loop_ev (H := (fun s : Int => Ev l D cy g K yX8_firstTurn cX8_firstTurn 4 (some .int) (rmd 5 0 0) (MX D cy g K (rmd 5 0 0) Φ) 0 0 M x (L μ) 11 [(0, vr g k), (1, vi stack), (2, vi v1), (3, vi s)] [])) (Hx := (fun o : Int => Φ (some (vi o)) M x (L μ))) (fun s o hb hr => tX8_firstTurn_b11 hS hc k stack v1 s μ hk hb hr) FU _ _ hf hr
theorem tX8_firstTurn (hS : Sd M K P L) (hc : CIn P 1 75) (k : Nat) (stack : Int) (μ : Mem) (hk : isSt k) {o : Int} (hf : fX8_firstTurn k stack μ = some o) : Cn l D cy g K K yX8_firstTurn cX8_firstTurn 4 (some .int) (rmd 5 0 0) [vr g k, vi stack] M x (L μ) (PE (some (vi o)) M x (L μ)) :=
 Cn.of (by decide) (Nat.le_of_ble_eq_true rfl) (eX8_firstTurn hS hc k stack μ hk hf (PE_i _ _ _ _))
def fX11_row_b31 (i0 : Int) (v5 : Int) (v6 : Int) (μ : Mem) : Option ((Int × Int × Mem) ⊕ (Int × Mem)) :=
  if w32 v6 < w32 i0 then
    (fX8_firstTurn 46 v5 μ).bind fun v8 =>
    lt (fX7_turned v5 v8 μ) fun v9 =>
    some (.inl (v9, (v6 + 1), μ))
  else
    some (.inr (v5, μ))
set_option maxRecDepth 4000 in
theorem tX11_row_b31 (hS : Sd M K P L) (hc : CIn P 0 75) (i0 : Int) (v5 : Int) (v6 : Int) (μ : Mem)  {o : (Int × Int × Mem) ⊕ (Int × Mem)} (hf : fX11_row_b31 i0 v5 v6 μ = some o) (hr : (Sum.elim (fun s : Int × Int × Mem => Ev l D cy g K yX11_row cX11_row 5 (some .int) (rmd 7 0 0) (MX D cy g K (rmd 7 0 0) Φ) 0 0 M x (L s.2.2) 31 [(0, vr g 0), (1, vi i0), (2, vr g 46), (3, vi s.1), (4, vi s.2.1)] []) (fun e : Int × Mem => Ev l D cy g K yX11_row cX11_row 5 (some .int) (rmd 7 0 0) (MX D cy g K (rmd 7 0 0) Φ) 0 0 M x (L e.2) 57 [(2, vr g 46), (3, vi e.1)] [])) o) : Ev l D cy g K yX11_row cX11_row 5 (some .int) (rmd 7 0 0) (MX D cy g K (rmd 7 0 0) Φ) 0 0 M x (L μ) 31 [(0, vr g 0), (1, vi i0), (2, vr g 46), (3, vi v5), (4, vi v6)] [] := by
  unfold fX11_row_b31 at hf
  refine ev_iload dX11_row_31 4 rfl ?_
  refine ev_iload_n dX11_row_33 1 rfl ?_
  refine ev_icmp_ge 57 dX11_row_34 (by decide) (fun h7 => ?_) (fun h7 => ?_)
  · rw [if_neg h7] at hf
    obtain rfl := Option.some.inj hf
    refine ev_sub [2, 3] rfl ?_
    exact hr
  · rw [if_pos h7] at hf
    refine ev_aload_n dX11_row_37 0 rfl ?_
    refine ev_getK 4 dX11_row_38 (hS.lt (hc 0 rfl)) rfl (hS.K1 (hc 0 rfl) rfl) ciX11 (by decide) rfl flX11_40 ?_
    refine ev_iload_n dX11_row_41 3 rfl ?_
    refine ev_aload_n dX11_row_42 2 rfl ?_
    refine ev_iload_n dX11_row_43 3 rfl ?_
    obtain ⟨v8, hv8, hf⟩ := Option.bind_eq_some_iff.mp hf
    refine cl_V1 (As := [vi v5]) (st := [vi v5, vr g 25]) miX8_firstTurn (tX8_firstTurn hS (hc.w rfl rfl) 46 v5 μ (by simp [isSt]) hv8) dX11_row_44 lkX11_222 inX8_firstTurn rfl (hS.lt (hc 46 rfl)) rfl ⟨rfl, rfl⟩ ⟨⟨Nat.le_of_ble_eq_true rfl, Nat.le_of_ble_eq_true rfl⟩, Nat.zero_le _, Nat.zero_le _⟩ (Nat.le_of_ble_eq_true rfl) ?_
    refine cl_V1 (As := [vi v5, vi v8]) (st := []) miX7_turned (tX7_turned hS (hc.w rfl rfl) v5 v8 μ (o := (fX7_turned v5 v8 μ)) rfl) dX11_row_47 lkX11_187 inX7_turned rfl (hS.lt (hc 25 rfl)) rfl ⟨rfl, rfl⟩ ⟨⟨Nat.le_of_ble_eq_true rfl, Nat.le_of_ble_eq_true rfl⟩, Nat.zero_le _, Nat.zero_le _⟩ (Nat.le_of_ble_eq_true rfl) ?_
    obtain ⟨v9, hv9, hf⟩ := lt_elim hf
    refine ev_rni hv9 ?_
    refine ev_istore_n (al2 := [(3, vi v9), (0, vr g 0), (1, vi i0), (2, vr g 46), (4, vi v6)]) dX11_row_50 3 rfl (by decide) rfl ?_
    refine ev_iinc (al2 := [(4, vi (v6 + 1)), (3, vi v9), (0, vr g 0), (1, vi i0), (2, vr g 46)]) dX11_row_51 4 rfl (by decide) rfl ?_
    refine ev_goto 31 dX11_row_54 (by decide) ?_
    obtain rfl := Option.some.inj hf
    refine ev_sub [2, 3, 4, 1, 0] rfl ?_
    exact hr
def fX11_row (i0 : Int) (μ : Mem) : Option (Int × Mem) :=
  (fX11_servedSteps μ).bind fun μ1 =>
  lt (μ1 41 1) fun v2 =>
  if w32 i0 < 0 then
    some (((-1), μ1))
  else
    if w32 i0 < w32 (fX11_at (46 + 1) v2 μ1) then
      (loopN (fun s => fX11_row_b31 i0 s.1 s.2.1 s.2.2) FU (v2, 0, μ1)).bind fun q10 =>
      (fX8_firstTurn 46 q10.1 q10.2).bind fun v11 =>
      some ((v11, q10.2))
    else
      some (((-1), μ1))
set_option maxRecDepth 4000 in
theorem eX11_row (hS : Sd M K P L) (hc : CIn P 0 75) (i0 : Int) (μ : Mem)  {o : Int × Mem} (hf : fX11_row i0 μ = some o) (hr : (fun o : Int × Mem => Φ (some (vi o.1)) M x (L o.2)) o) : Ev l D cy g K yX11_row cX11_row 5 (some .int) (rmd 7 0 0) (MX D cy g K (rmd 7 0 0) Φ) 0 0 M x (L μ) 0 [(0, vr g 0), (1, vi i0)] [] := by
  unfold fX11_row at hf
  refine ev_aload_n dX11_row_0 0 rfl ?_
  obtain ⟨μ1, hμ1, hf⟩ := Option.bind_eq_some_iff.mp hf
  refine cl_V1 (As := []) (st := []) miX11_servedSteps (tX11_servedSteps hS (hc.w rfl rfl) μ hμ1) dX11_row_1 lkX11_215 inX11_servedSteps rfl (hS.lt (hc 0 rfl)) rfl ⟨rfl, rfl⟩ ⟨⟨Nat.le_of_ble_eq_true rfl, Nat.le_of_ble_eq_true rfl⟩, Nat.zero_le _, Nat.zero_le _⟩ (Nat.le_of_ble_eq_true rfl) ?_
  refine ev_astore_n (al2 := [(2, vr g 46), (0, vr g 0), (1, vi i0)]) dX11_row_4 2 rfl (by decide) rfl ?_
  refine ev_aload_n dX11_row_5 1 rfl ?_
  refine ev_getK 7 dX11_row_6 (hS.lt (hc 0 rfl)) rfl (hS.K1 (hc 0 rfl) rfl) ciX11 (by decide) rfl flX11_58 ?_
  refine cl_V1 (As := []) (st := []) miX5_stack (tX5_stack hS (hc.w rfl rfl) 41 μ1 (by simp [isMo]) (o := (μ1 41 1)) rfl) dX11_row_9 lkX11_167 inX5_stack rfl (hS.lt (hc 41 rfl)) rfl ⟨rfl, rfl⟩ ⟨⟨Nat.le_of_ble_eq_true rfl, Nat.le_of_ble_eq_true rfl⟩, Nat.zero_le _, Nat.zero_le _⟩ (Nat.le_of_ble_eq_true rfl) ?_
  obtain ⟨v2, hv2, hf⟩ := lt_elim hf
  refine ev_rni hv2 ?_
  refine ev_istore_n (al2 := [(3, vi v2), (2, vr g 46), (0, vr g 0), (1, vi i0)]) dX11_row_12 3 rfl (by decide) rfl ?_
  refine ev_iload_n dX11_row_13 3 rfl ?_
  refine ev_if_lt 26 dX11_row_14 (by decide) (fun h3 => ?_) (fun h3 => ?_)
  · rw [if_pos h3] at hf
    refine ev_iconst dX11_row_26 ?_
    obtain rfl := Option.some.inj hf
    exact ev_iret dX11_row_27 rfl ⟨Nat.zero_le _, Nat.zero_le _⟩ hr
  · rw [if_neg h3] at hf
    refine ev_iload_n dX11_row_17 3 rfl ?_
    refine ev_aload_n dX11_row_18 1 rfl ?_
    refine ev_iload_n dX11_row_19 0 rfl ?_
    refine cl_V1 (As := [vi v2]) (st := [vi i0]) miX8_turnsOf (tX8_turnsOf hS (hc.w rfl rfl) 46 v2 μ1 (by simp [isSt]) (o := (fX11_at (46 + 1) v2 μ1)) rfl) dX11_row_20 lkX11_219 inX8_turnsOf rfl (hS.lt (hc 46 rfl)) rfl ⟨rfl, rfl⟩ ⟨⟨Nat.le_of_ble_eq_true rfl, Nat.le_of_ble_eq_true rfl⟩, Nat.zero_le _, Nat.zero_le _⟩ (Nat.le_of_ble_eq_true rfl) ?_
    refine ev_icmp_lt 28 dX11_row_23 (by decide) (fun h4 => ?_) (fun h4 => ?_)
    · rw [if_pos h4] at hf
      refine ev_iconst dX11_row_28 ?_
      refine ev_istore (al2 := [(4, vi 0), (3, vi v2), (2, vr g 46), (0, vr g 0), (1, vi i0)]) dX11_row_29 (by decide) rfl ?_
      obtain ⟨q10, hq10, hf⟩ := Option.bind_eq_some_iff.mp hf
      refine ev_sub [3, 4, 2, 1, 0] rfl ?_
      refine loop_ev (H := (fun s : Int × Int × Mem => Ev l D cy g K yX11_row cX11_row 5 (some .int) (rmd 7 0 0) (MX D cy g K (rmd 7 0 0) Φ) 0 0 M x (L s.2.2) 31 [(0, vr g 0), (1, vi i0), (2, vr g 46), (3, vi s.1), (4, vi s.2.1)] [])) (Hx := (fun e : Int × Mem => Ev l D cy g K yX11_row cX11_row 5 (some .int) (rmd 7 0 0) (MX D cy g K (rmd 7 0 0) Φ) 0 0 M x (L e.2) 57 [(2, vr g 46), (3, vi e.1)] [])) (fun s o hb hr => tX11_row_b31 hS hc i0 s.1 s.2.1 s.2.2 hb hr) FU _ _ hq10 ?_
      show Ev l D cy g K yX11_row cX11_row 5 (some .int) (rmd 7 0 0) (MX D cy g K (rmd 7 0 0) Φ) 0 0 M x (L q10.2) 57 [(2, vr g 46), (3, vi q10.1)] []
      refine ev_aload_n dX11_row_57 0 rfl ?_
      refine ev_iload_n dX11_row_58 1 rfl ?_
      obtain ⟨v11, hv11, hf⟩ := Option.bind_eq_some_iff.mp hf
      refine cl_V1 (As := [vi q10.1]) (st := []) miX8_firstTurn (tX8_firstTurn hS (hc.w rfl rfl) 46 q10.1 q10.2 (by simp [isSt]) hv11) dX11_row_59 lkX11_222 inX8_firstTurn rfl (hS.lt (hc 46 rfl)) rfl ⟨rfl, rfl⟩ ⟨⟨Nat.le_of_ble_eq_true rfl, Nat.le_of_ble_eq_true rfl⟩, Nat.zero_le _, Nat.zero_le _⟩ (Nat.le_of_ble_eq_true rfl) ?_
      obtain rfl := Option.some.inj hf
      exact ev_iret dX11_row_62 rfl ⟨Nat.zero_le _, Nat.zero_le _⟩ hr
    · rw [if_neg h4] at hf
      refine ev_iconst dX11_row_26 ?_
      obtain rfl := Option.some.inj hf
      exact ev_iret dX11_row_27 rfl ⟨Nat.zero_le _, Nat.zero_le _⟩ hr
theorem tX11_row (hS : Sd M K P L) (hc : CIn P 0 75) (i0 : Int) (μ : Mem) {o : Int × Mem} (hf : fX11_row i0 μ = some o) : Cn l D cy g K K yX11_row cX11_row 5 (some .int) (rmd 7 0 0) [vr g 0, vi i0] M x (L μ) (PE (some (vi o.1)) M x (L o.2)) :=
 Cn.of (by decide) (Nat.le_of_ble_eq_true rfl) (eX11_row hS hc i0 μ hf (PE_i _ _ _ _))
def fX7_scratch  (μ : Mem) : Option (Nat) :=
  gd (((μ 25 15) = 36 ∨ (μ 25 15) = 37)) <|
  lt (μ 25 15).toNat fun r2 =>
  some (r2)
set_option maxRecDepth 4000 in
theorem eX7_scratch (hS : Sd M K P L) (hc : CIn P 25 26)  (μ : Mem)  {o : Nat} (hf : fX7_scratch  μ = some o) (hr : (fun o : Nat => Φ (some (vr g o)) M x (L μ)) o) : Ev l D cy g K yX7_scratch cX7_scratch 1 (some (.array .int)) (rmd 1 0 0) (MX D cy g K (rmd 1 0 0) Φ) 0 0 M x (L μ) 0 [(0, vr g 25)] [] := by
  unfold fX7_scratch at hf
  refine ev_aload_n dX7_scratch_0 0 rfl ?_
  obtain ⟨g1, hf⟩ := gd_elim hf
  refine ev_getR 15 dX7_scratch_1 (hS.lt (hc 25 rfl)) rfl (hS.mem _ (hc 25 rfl)) (hS.K0 (hc 25 rfl) rfl) (dy_Ct g1).2 ciX7 (by decide) rfl flX7_42 ?_
  obtain ⟨r2, hr2, hf⟩ := lt_elim hf
  refine ev_rn (congrArg (vr g) hr2) ?_
  have kr2 : isCt r2 := by rw [hr2]; exact (dy_Ct g1).1
  obtain rfl := Option.some.inj hf
  exact ev_aret dX7_scratch_4 rfl (by first | exact Or.inl ⟨_, rfl⟩ | exact Or.inr ⟨_, rfl⟩) ⟨Nat.zero_le _, Nat.zero_le _⟩ hr
theorem tX7_scratch (hS : Sd M K P L) (hc : CIn P 25 26) (μ : Mem) {o : Nat} (hf : fX7_scratch μ = some o) : Cn l D cy g K K yX7_scratch cX7_scratch 1 (some (.array .int)) (rmd 1 0 0) [vr g 25] M x (L μ) (PE (some (vr g o)) M x (L μ)) :=
 Cn.of (by decide) (Nat.le_of_ble_eq_true rfl) (eX7_scratch hS hc μ hf (PE_i _ _ _ _))
theorem rk_fX7_scratch {μ : Mem} {o : Nat} (h : fX7_scratch μ = some o) : isCt o := by
  unfold fX7_scratch at h
  obtain ⟨g1, h⟩ := gd_elim h
  obtain ⟨r, hr, h⟩ := lt_elim h
  cases h
  rw [hr]; exact (dy_Ct g1).1
def fX8_addRows_b2 (k : Nat) (rows : Nat) (stack : Int) (v1 : Int) (μ : Mem) : Option ((Int × Mem) ⊕ (Mem)) :=
  if w32 v1 ≤ w32 (μ 25 1) then
    if (fX8_isNearer k stack v1 μ) = true then
      lt (fX7_turned stack v1 μ) fun v4 =>
      lt ((w32 (fX11_at rows v4 μ)) + (w32 (fX11_at rows stack μ))) fun v5 =>
      lt (fX11_put rows v4 (l_2i (lmin 2000000000 v5)) μ) fun μ6 =>
      some (.inl ((v1 + 1), μ6))
    else
      some (.inl ((v1 + 1), μ))
  else
    some (.inr μ)
set_option maxRecDepth 4000 in
theorem tX8_addRows_b2 (hS : Sd M K P L) (hc : CIn P 1 75) (k : Nat) (rows : Nat) (stack : Int) (v1 : Int) (μ : Mem) (hk : isSt k) (hrows : P rows ∧ sh rows = (1, alen rows)) {o : (Int × Mem) ⊕ (Mem)} (hf : fX8_addRows_b2 k rows stack v1 μ = some o) (hr : (Sum.elim (fun s : Int × Mem => Ev l D cy g K yX8_addRows cX8_addRows 7 none (rmd 5 0 0) (MX D cy g K (rmd 5 0 0) Φ) 0 0 M x (L s.2) 2 [(0, vr g k), (1, vr g rows), (2, vi stack), (3, vi s.1)] []) (fun e : Mem => Ev l D cy g K yX8_addRows cX8_addRows 7 none (rmd 5 0 0) (MX D cy g K (rmd 5 0 0) Φ) 0 0 M x (L e) 70 [] [])) o) : Ev l D cy g K yX8_addRows cX8_addRows 7 none (rmd 5 0 0) (MX D cy g K (rmd 5 0 0) Φ) 0 0 M x (L μ) 2 [(0, vr g k), (1, vr g rows), (2, vi stack), (3, vi v1)] [] := by
  unfold fX8_addRows_b2 at hf
  refine ev_iload_n dX8_addRows_2 3 rfl ?_
  refine ev_aload_n dX8_addRows_3 0 rfl ?_
  refine ev_getK 0 dX8_addRows_4 (hS.lt (hc _ (inR_w (i_St0 hk) rfl rfl))) (s_St0 hk) (hS.K1 (hc _ (inR_w (i_St0 hk) rfl rfl)) (K_St0 hk)) ciX8 (by decide) rfl flX8_19 ?_
  refine cl_V1 (As := []) (st := [vi v1]) miX7_cakes (tX7_cakes hS (hc.w rfl rfl) μ (o := (μ 25 1)) rfl) dX8_addRows_7 lkX8_57 inX7_cakes rfl (hS.lt (hc 25 rfl)) rfl ⟨rfl, rfl⟩ ⟨⟨Nat.le_of_ble_eq_true rfl, Nat.le_of_ble_eq_true rfl⟩, Nat.zero_le _, Nat.zero_le _⟩ (Nat.le_of_ble_eq_true rfl) ?_
  refine ev_icmp_gt 70 dX8_addRows_10 (by decide) (fun h2 => ?_) (fun h2 => ?_)
  · rw [if_neg h2] at hf
    obtain rfl := Option.some.inj hf
    refine ev_sub [] rfl ?_
    exact hr
  · rw [if_pos h2] at hf
    refine ev_aload_n dX8_addRows_13 0 rfl ?_
    refine ev_iload_n dX8_addRows_14 2 rfl ?_
    refine ev_iload_n dX8_addRows_15 3 rfl ?_
    refine cl_V1 (As := [vi stack, vi v1]) (st := []) miX8_isNearer (tX8_isNearer hS (hc.w rfl rfl) k stack v1 μ hk (o := (fX8_isNearer k stack v1 μ)) rfl) dX8_addRows_16 lkX8_71 inX8_isNearer rfl (hS.lt (hc _ (inR_w (i_St0 hk) rfl rfl))) (s_St0 hk) ⟨rfl, rfl⟩ ⟨⟨Nat.le_of_ble_eq_true rfl, Nat.le_of_ble_eq_true rfl⟩, Nat.zero_le _, Nat.zero_le _⟩ (Nat.le_of_ble_eq_true rfl) ?_
    refine ev_ifb_eq 64 dX8_addRows_19 (by decide) (fun h3 => ?_) (fun h3 => ?_)
    · rw [if_neg h3] at hf
      refine ev_iinc (al2 := [(3, vi (v1 + 1)), (0, vr g k), (1, vr g rows), (2, vi stack)]) dX8_addRows_64 3 rfl (by decide) rfl ?_
      refine ev_goto 2 dX8_addRows_67 (by decide) ?_
      obtain rfl := Option.some.inj hf
      refine ev_sub [1, 2, 3, 0] rfl ?_
      exact hr
    · rw [if_pos h3] at hf
      refine ev_aload_n dX8_addRows_22 0 rfl ?_
      refine ev_getK 0 dX8_addRows_23 (hS.lt (hc _ (inR_w (i_St0 hk) rfl rfl))) (s_St0 hk) (hS.K1 (hc _ (inR_w (i_St0 hk) rfl rfl)) (K_St0 hk)) ciX8 (by decide) rfl flX8_19 ?_
      refine ev_iload_n dX8_addRows_26 2 rfl ?_
      refine ev_iload_n dX8_addRows_27 3 rfl ?_
      refine cl_V1 (As := [vi stack, vi v1]) (st := []) miX7_turned (tX7_turned hS (hc.w rfl rfl) stack v1 μ (o := (fX7_turned stack v1 μ)) rfl) dX8_addRows_28 lkX8_60 inX7_turned rfl (hS.lt (hc 25 rfl)) rfl ⟨rfl, rfl⟩ ⟨⟨Nat.le_of_ble_eq_true rfl, Nat.le_of_ble_eq_true rfl⟩, Nat.zero_le _, Nat.zero_le _⟩ (Nat.le_of_ble_eq_true rfl) ?_
      obtain ⟨v4, hv4, hf⟩ := lt_elim hf
      refine ev_rni hv4 ?_
      refine ev_istore (al2 := [(4, vi v4), (0, vr g k), (1, vr g rows), (2, vi stack), (3, vi v1)]) dX8_addRows_31 (by decide) rfl ?_
      refine ev_aload_n dX8_addRows_33 2 rfl ?_
      refine ev_iload dX8_addRows_34 0 rfl ?_
      refine cl_N1 (As := [vr g rows, vi v4]) (st := []) (host := "HotCakes") miX11_at (tX11_at hS (hc.w rfl rfl) rows v4 μ (⟨hrows.1, hrows.2⟩) (o := (fX11_at rows v4 μ)) rfl) dX8_addRows_36 (by decide) stX11_at rfl ⟨⟨Nat.le_of_ble_eq_true rfl, Nat.le_of_ble_eq_true rfl⟩, Nat.zero_le _, Nat.zero_le _⟩ (Nat.le_of_ble_eq_true rfl) ?_
      refine ev_i2l dX8_addRows_39 ?_
      refine ev_aload_n dX8_addRows_40 2 rfl ?_
      refine ev_iload_n dX8_addRows_41 3 rfl ?_
      refine cl_N1 (As := [vr g rows, vi stack]) (st := [vl (w32 (fX11_at rows v4 μ))]) (host := "HotCakes") miX11_at (tX11_at hS (hc.w rfl rfl) rows stack μ (⟨hrows.1, hrows.2⟩) (o := (fX11_at rows stack μ)) rfl) dX8_addRows_42 (by decide) stX11_at rfl ⟨⟨Nat.le_of_ble_eq_true rfl, Nat.le_of_ble_eq_true rfl⟩, Nat.zero_le _, Nat.zero_le _⟩ (Nat.le_of_ble_eq_true rfl) ?_
      refine ev_i2l dX8_addRows_45 ?_
      refine ev_ladd dX8_addRows_46 ?_
      obtain ⟨v5, hv5, hf⟩ := lt_elim hf
      refine ev_rnl hv5 ?_
      refine ev_lstore (al2 := [(5, vl v5), (4, vi v4), (0, vr g k), (1, vr g rows), (2, vi stack), (3, vi v1)]) dX8_addRows_47 (by decide) rfl ?_
      refine ev_aload_n dX8_addRows_49 3 rfl ?_
      refine ev_iload dX8_addRows_50 1 rfl ?_
      refine ev_ldc2 2000000000 dX8_addRows_52 klX8_80 (by decide) ?_
      refine ev_lload dX8_addRows_55 0 rfl ?_
      refine ev_mminL dX8_addRows_57 lkX8_82 ⟨Nat.le_of_ble_eq_true rfl, Nat.le_of_ble_eq_true rfl, Nat.zero_le _, Nat.zero_le _⟩ ?_
      refine ev_l2i dX8_addRows_60 ?_
      obtain ⟨μ6, hμ6, hf⟩ := lt_elim hf
      refine cl_N0 (As := [vr g rows, vi v4, vi (l_2i (lmin 2000000000 v5))]) (st := []) (host := "HotCakes") miX11_put (tX11_put hS (hc.w rfl rfl) rows v4 (l_2i (lmin 2000000000 v5)) μ (⟨hrows.1, hrows.2⟩) hμ6.symm) dX8_addRows_61 (by decide) stX11_put rfl ⟨⟨Nat.le_of_ble_eq_true rfl, Nat.le_of_ble_eq_true rfl⟩, Nat.zero_le _, Nat.zero_le _⟩ (Nat.le_of_ble_eq_true rfl) ?_
      refine ev_iinc (al2 := [(3, vi (v1 + 1)), (5, vl v5), (4, vi v4), (0, vr g k), (1, vr g rows), (2, vi stack)]) dX8_addRows_64 5 rfl (by decide) rfl ?_
      refine ev_goto 2 dX8_addRows_67 (by decide) ?_
      obtain rfl := Option.some.inj hf
      refine ev_sub [3, 4, 5, 0] rfl ?_
      exact hr
def fX8_addRows (k : Nat) (rows : Nat) (stack : Int) (μ : Mem) : Option (Mem) :=
  (loopN (fun s => fX8_addRows_b2 k rows stack s.1 s.2) FU (1, μ)).bind fun q7 =>
  some (q7)
set_option maxRecDepth 4000 in
theorem eX8_addRows (hS : Sd M K P L) (hc : CIn P 1 75) (k : Nat) (rows : Nat) (stack : Int) (μ : Mem) (hk : isSt k) (hrows : P rows ∧ sh rows = (1, alen rows)) {o : Mem} (hf : fX8_addRows k rows stack μ = some o) (hr : (fun o : Mem => Φ none M x (L o)) o) : Ev l D cy g K yX8_addRows cX8_addRows 7 none (rmd 5 0 0) (MX D cy g K (rmd 5 0 0) Φ) 0 0 M x (L μ) 0 [(0, vr g k), (1, vr g rows), (2, vi stack)] [] := by
  unfold fX8_addRows at hf
  refine ev_iconst dX8_addRows_0 ?_
  refine ev_istore_n (al2 := [(3, vi 1), (0, vr g k), (1, vr g rows), (2, vi stack)]) dX8_addRows_1 3 rfl (by decide) rfl ?_
  obtain ⟨q7, hq7, hf⟩ := Option.bind_eq_some_iff.mp hf
  refine ev_sub [1, 2, 3, 0] rfl ?_
  refine loop_ev (H := (fun s : Int × Mem => Ev l D cy g K yX8_addRows cX8_addRows 7 none (rmd 5 0 0) (MX D cy g K (rmd 5 0 0) Φ) 0 0 M x (L s.2) 2 [(0, vr g k), (1, vr g rows), (2, vi stack), (3, vi s.1)] [])) (Hx := (fun e : Mem => Ev l D cy g K yX8_addRows cX8_addRows 7 none (rmd 5 0 0) (MX D cy g K (rmd 5 0 0) Φ) 0 0 M x (L e) 70 [] [])) (fun s o hb hr => tX8_addRows_b2 hS hc k rows stack s.1 s.2 hk hrows hb hr) FU _ _ hq7 ?_
  show Ev l D cy g K yX8_addRows cX8_addRows 7 none (rmd 5 0 0) (MX D cy g K (rmd 5 0 0) Φ) 0 0 M x (L q7) 70 [] []
  obtain rfl := Option.some.inj hf
  exact ev_vret dX8_addRows_70 rfl ⟨Nat.zero_le _, Nat.zero_le _⟩ hr
theorem tX8_addRows (hS : Sd M K P L) (hc : CIn P 1 75) (k : Nat) (rows : Nat) (stack : Int) (μ : Mem) (hk : isSt k) (hrows : P rows ∧ sh rows = (1, alen rows)) {o : Mem} (hf : fX8_addRows k rows stack μ = some o) : Cn l D cy g K K yX8_addRows cX8_addRows 7 none (rmd 5 0 0) [vr g k, vr g rows, vi stack] M x (L μ) (PE none M x (L o)) :=
 Cn.of (by decide) (Nat.le_of_ble_eq_true rfl) (eX8_addRows hS hc k rows stack μ hk hrows hf (PE_i _ _ _ _))
def fX8_rowsOf_b46 (k : Nat) (stack : Int) (v3 : Nat) (v7 : Int) (v9 : Int) (μ : Mem) : Option ((Int × Mem) ⊕ (Mem)) :=
  if w32 v9 < w32 (i_shl (μ 25 3) (μ 25 2)) then
    if w32 (fX11_at (k + 1) v9 μ) = w32 v7 then
      if w32 (fX11_at v3 v9 μ) ≤ 0 then
        some (.inl ((v9 + 1), μ))
      else
        (fX8_addRows k v3 v9 μ).bind fun μ13 =>
        some (.inl ((v9 + 1), μ13))
    else
      some (.inl ((v9 + 1), μ))
  else
    some (.inr μ)
set_option maxRecDepth 4000 in
theorem tX8_rowsOf_b46 (hS : Sd M K P L) (hc : CIn P 1 75) (k : Nat) (stack : Int) (v3 : Nat) (v7 : Int) (v9 : Int) (μ : Mem) (hk : isSt k) (kv3 : isCt v3) {o : (Int × Mem) ⊕ (Mem)} (hf : fX8_rowsOf_b46 k stack v3 v7 v9 μ = some o) (hr : (Sum.elim (fun s : Int × Mem => Ev l D cy g K yX8_rowsOf cX8_rowsOf 6 (some .int) (rmd 6 0 0) (MX D cy g K (rmd 6 0 0) Φ) 0 0 M x (L s.2) 46 [(0, vr g k), (3, vr g v3), (4, vi v7), (5, vi s.1)] []) (fun e : Mem => Ev l D cy g K yX8_rowsOf cX8_rowsOf 6 (some .int) (rmd 6 0 0) (MX D cy g K (rmd 6 0 0) Φ) 0 0 M x (L e) 94 [(0, vr g k), (3, vr g v3), (4, vi v7)] [])) o) : Ev l D cy g K yX8_rowsOf cX8_rowsOf 6 (some .int) (rmd 6 0 0) (MX D cy g K (rmd 6 0 0) Φ) 0 0 M x (L μ) 46 [(0, vr g k), (3, vr g v3), (4, vi v7), (5, vi v9)] [] := by
  unfold fX8_rowsOf_b46 at hf
  refine ev_iload dX8_rowsOf_46 3 rfl ?_
  refine ev_aload_n dX8_rowsOf_48 0 rfl ?_
  refine ev_getK 0 dX8_rowsOf_49 (hS.lt (hc _ (inR_w (i_St0 hk) rfl rfl))) (s_St0 hk) (hS.K1 (hc _ (inR_w (i_St0 hk) rfl rfl)) (K_St0 hk)) ciX8 (by decide) rfl flX8_19 ?_
  refine cl_V1 (As := []) (st := [vi v9]) miX7_all (tX7_all hS (hc.w rfl rfl) μ (o := (i_shl (μ 25 3) (μ 25 2))) rfl) dX8_rowsOf_52 lkX8_39 inX7_all rfl (hS.lt (hc 25 rfl)) rfl ⟨rfl, rfl⟩ ⟨⟨Nat.le_of_ble_eq_true rfl, Nat.le_of_ble_eq_true rfl⟩, Nat.zero_le _, Nat.zero_le _⟩ (Nat.le_of_ble_eq_true rfl) ?_
  refine ev_icmp_ge 94 dX8_rowsOf_55 (by decide) (fun h10 => ?_) (fun h10 => ?_)
  · rw [if_neg h10] at hf
    obtain rfl := Option.some.inj hf
    refine ev_sub [0, 1, 2] rfl ?_
    exact hr
  · rw [if_pos h10] at hf
    refine ev_aload_n dX8_rowsOf_58 0 rfl ?_
    refine ev_getK 3 dX8_rowsOf_59 (hS.lt (hc _ (inR_w (i_St0 hk) rfl rfl))) (s_St0 hk) (hS.K1 (hc _ (inR_w (i_St0 hk) rfl rfl)) (K_St3 hk)) ciX8 (by decide) rfl flX8_9 ?_
    refine ev_iload dX8_rowsOf_62 3 rfl ?_
    refine cl_N1 (As := [vr g (k + 1), vi v9]) (st := []) (host := "HotCakes") miX11_at (tX11_at hS (hc.w rfl rfl) (k + 1) v9 μ (⟨(hc _ (inR_w (i_St1 hk) rfl rfl)), (ia_of (s_St1 hk))⟩) (o := (fX11_at (k + 1) v9 μ)) rfl) dX8_rowsOf_64 (by decide) stX11_at rfl ⟨⟨Nat.le_of_ble_eq_true rfl, Nat.le_of_ble_eq_true rfl⟩, Nat.zero_le _, Nat.zero_le _⟩ (Nat.le_of_ble_eq_true rfl) ?_
    refine ev_iload dX8_rowsOf_67 2 rfl ?_
    refine ev_icmp_ne 88 dX8_rowsOf_69 (by decide) (fun h11 => ?_) (fun h11 => ?_)
    · rw [if_neg h11] at hf
      refine ev_iinc (al2 := [(5, vi (v9 + 1)), (0, vr g k), (3, vr g v3), (4, vi v7)]) dX8_rowsOf_88 3 rfl (by decide) rfl ?_
      refine ev_goto 46 dX8_rowsOf_91 (by decide) ?_
      obtain rfl := Option.some.inj hf
      refine ev_sub [1, 2, 3, 0] rfl ?_
      exact hr
    · rw [if_pos h11] at hf
      refine ev_aload_n dX8_rowsOf_72 1 rfl ?_
      refine ev_iload dX8_rowsOf_73 3 rfl ?_
      refine cl_N1 (As := [vr g v3, vi v9]) (st := []) (host := "HotCakes") miX11_at (tX11_at hS (hc.w rfl rfl) v3 v9 μ (⟨(hc _ (inR_w (i_Ct kv3) rfl rfl)), (ia_of (s_Ct kv3))⟩) (o := (fX11_at v3 v9 μ)) rfl) dX8_rowsOf_75 (by decide) stX11_at rfl ⟨⟨Nat.le_of_ble_eq_true rfl, Nat.le_of_ble_eq_true rfl⟩, Nat.zero_le _, Nat.zero_le _⟩ (Nat.le_of_ble_eq_true rfl) ?_
      refine ev_if_le 88 dX8_rowsOf_78 (by decide) (fun h12 => ?_) (fun h12 => ?_)
      · rw [if_pos h12] at hf
        refine ev_iinc (al2 := [(5, vi (v9 + 1)), (0, vr g k), (3, vr g v3), (4, vi v7)]) dX8_rowsOf_88 3 rfl (by decide) rfl ?_
        refine ev_goto 46 dX8_rowsOf_91 (by decide) ?_
        obtain rfl := Option.some.inj hf
        refine ev_sub [1, 2, 3, 0] rfl ?_
        exact hr
      · rw [if_neg h12] at hf
        refine ev_aload_n dX8_rowsOf_81 0 rfl ?_
        refine ev_aload_n dX8_rowsOf_82 1 rfl ?_
        refine ev_iload dX8_rowsOf_83 3 rfl ?_
        obtain ⟨μ13, hμ13, hf⟩ := Option.bind_eq_some_iff.mp hf
        refine cl_V0 (As := [vr g v3, vi v9]) (st := []) miX8_addRows (tX8_addRows hS (hc.w rfl rfl) k v3 v9 μ hk (⟨(hc _ (inR_w (i_Ct kv3) rfl rfl)), (ia_of (s_Ct kv3))⟩) hμ13) dX8_rowsOf_85 lkX8_77 inX8_addRows rfl (hS.lt (hc _ (inR_w (i_St0 hk) rfl rfl))) (s_St0 hk) ⟨rfl, rfl⟩ ⟨⟨Nat.le_of_ble_eq_true rfl, Nat.le_of_ble_eq_true rfl⟩, Nat.zero_le _, Nat.zero_le _⟩ (Nat.le_of_ble_eq_true rfl) ?_
        refine ev_iinc (al2 := [(5, vi (v9 + 1)), (0, vr g k), (3, vr g v3), (4, vi v7)]) dX8_rowsOf_88 3 rfl (by decide) rfl ?_
        refine ev_goto 46 dX8_rowsOf_91 (by decide) ?_
        obtain rfl := Option.some.inj hf
        refine ev_sub [1, 2, 3, 0] rfl ?_
        exact hr
def fX8_rowsOf_b38 (k : Nat) (stack : Int) (v3 : Nat) (v7 : Int) (μ : Mem) : Option ((Int × Mem) ⊕ (Mem)) :=
  if w32 v7 ≤ 0 then
    some (.inr μ)
  else
    (loopN (fun s => fX8_rowsOf_b46 k stack v3 v7 s.1 s.2) FU (0, μ)).bind fun q14 =>
    some (.inl ((v7 + (-1)), q14))
set_option maxRecDepth 4000 in
theorem tX8_rowsOf_b38 (hS : Sd M K P L) (hc : CIn P 1 75) (k : Nat) (stack : Int) (v3 : Nat) (v7 : Int) (μ : Mem) (hk : isSt k) (kv3 : isCt v3) {o : (Int × Mem) ⊕ (Mem)} (hf : fX8_rowsOf_b38 k stack v3 v7 μ = some o) (hr : (Sum.elim (fun s : Int × Mem => Ev l D cy g K yX8_rowsOf cX8_rowsOf 6 (some .int) (rmd 6 0 0) (MX D cy g K (rmd 6 0 0) Φ) 0 0 M x (L s.2) 38 [(0, vr g k), (3, vr g v3), (4, vi s.1)] []) (fun e : Mem => Ev l D cy g K yX8_rowsOf cX8_rowsOf 6 (some .int) (rmd 6 0 0) (MX D cy g K (rmd 6 0 0) Φ) 0 0 M x (L e) 100 [(0, vr g k), (3, vr g v3)] [])) o) : Ev l D cy g K yX8_rowsOf cX8_rowsOf 6 (some .int) (rmd 6 0 0) (MX D cy g K (rmd 6 0 0) Φ) 0 0 M x (L μ) 38 [(0, vr g k), (3, vr g v3), (4, vi v7)] [] := by
  unfold fX8_rowsOf_b38 at hf
  refine ev_iload dX8_rowsOf_38 2 rfl ?_
  refine ev_if_le 100 dX8_rowsOf_40 (by decide) (fun h8 => ?_) (fun h8 => ?_)
  · rw [if_pos h8] at hf
    obtain rfl := Option.some.inj hf
    refine ev_sub [0, 1] rfl ?_
    exact hr
  · rw [if_neg h8] at hf
    refine ev_iconst dX8_rowsOf_43 ?_
    refine ev_istore (al2 := [(5, vi 0), (0, vr g k), (3, vr g v3), (4, vi v7)]) dX8_rowsOf_44 (by decide) rfl ?_
    obtain ⟨q14, hq14, hf⟩ := Option.bind_eq_some_iff.mp hf
    refine ev_sub [1, 2, 3, 0] rfl ?_
    refine loop_ev (H := (fun s : Int × Mem => Ev l D cy g K yX8_rowsOf cX8_rowsOf 6 (some .int) (rmd 6 0 0) (MX D cy g K (rmd 6 0 0) Φ) 0 0 M x (L s.2) 46 [(0, vr g k), (3, vr g v3), (4, vi v7), (5, vi s.1)] [])) (Hx := (fun e : Mem => Ev l D cy g K yX8_rowsOf cX8_rowsOf 6 (some .int) (rmd 6 0 0) (MX D cy g K (rmd 6 0 0) Φ) 0 0 M x (L e) 94 [(0, vr g k), (3, vr g v3), (4, vi v7)] [])) (fun s o hb hr => tX8_rowsOf_b46 hS hc k stack v3 v7 s.1 s.2 hk kv3 hb hr) FU _ _ hq14 ?_
    show Ev l D cy g K yX8_rowsOf cX8_rowsOf 6 (some .int) (rmd 6 0 0) (MX D cy g K (rmd 6 0 0) Φ) 0 0 M x (L q14) 94 [(0, vr g k), (3, vr g v3), (4, vi v7)] []
    refine ev_iinc (al2 := [(4, vi (v7 + (-1))), (0, vr g k), (3, vr g v3)]) dX8_rowsOf_94 2 rfl (by decide) rfl ?_
    refine ev_goto 38 dX8_rowsOf_97 (by decide) ?_
    obtain rfl := Option.some.inj hf
    refine ev_sub [1, 2, 0] rfl ?_
    exact hr
def fX8_rowsOf (k : Nat) (stack : Int) (μ : Mem) : Option (Int × Mem) :=
  lt (fX11_at (k + 1) stack μ) fun v1 =>
  if w32 v1 = w32 (-1) then
    some ((0, μ))
  else
    (fX7_scratch μ).bind fun v3 =>
    lt (fill3 μ v3 3840 0) fun μ5 =>
    lt (fX11_put v3 stack 1 μ5) fun μ6 =>
    (loopN (fun s => fX8_rowsOf_b38 k stack v3 s.1 s.2) FU (v1, μ6)).bind fun q15 =>
    some (((fX11_at v3 (q15 k 4) q15), q15))
set_option maxRecDepth 4000 in
theorem eX8_rowsOf (hS : Sd M K P L) (hc : CIn P 1 75) (k : Nat) (stack : Int) (μ : Mem) (hk : isSt k) {o : Int × Mem} (hf : fX8_rowsOf k stack μ = some o) (hr : (fun o : Int × Mem => Φ (some (vi o.1)) M x (L o.2)) o) : Ev l D cy g K yX8_rowsOf cX8_rowsOf 6 (some .int) (rmd 6 0 0) (MX D cy g K (rmd 6 0 0) Φ) 0 0 M x (L μ) 0 [(0, vr g k), (1, vi stack)] [] := by
  unfold fX8_rowsOf at hf
  refine ev_aload_n dX8_rowsOf_0 0 rfl ?_
  refine ev_getK 3 dX8_rowsOf_1 (hS.lt (hc _ (inR_w (i_St0 hk) rfl rfl))) (s_St0 hk) (hS.K1 (hc _ (inR_w (i_St0 hk) rfl rfl)) (K_St3 hk)) ciX8 (by decide) rfl flX8_9 ?_
  refine ev_iload_n dX8_rowsOf_4 1 rfl ?_
  refine cl_N1 (As := [vr g (k + 1), vi stack]) (st := []) (host := "HotCakes") miX11_at (tX11_at hS (hc.w rfl rfl) (k + 1) stack μ (⟨(hc _ (inR_w (i_St1 hk) rfl rfl)), (ia_of (s_St1 hk))⟩) (o := (fX11_at (k + 1) stack μ)) rfl) dX8_rowsOf_5 (by decide) stX11_at rfl ⟨⟨Nat.le_of_ble_eq_true rfl, Nat.le_of_ble_eq_true rfl⟩, Nat.zero_le _, Nat.zero_le _⟩ (Nat.le_of_ble_eq_true rfl) ?_
  obtain ⟨v1, hv1, hf⟩ := lt_elim hf
  refine ev_rni hv1 ?_
  refine ev_istore_n (al2 := [(2, vi v1), (0, vr g k), (1, vi stack)]) dX8_rowsOf_8 2 rfl (by decide) rfl ?_
  refine ev_iload_n dX8_rowsOf_9 0 rfl ?_
  refine ev_iconst dX8_rowsOf_10 ?_
  refine ev_icmp_ne 16 dX8_rowsOf_11 (by decide) (fun h2 => ?_) (fun h2 => ?_)
  · rw [if_neg h2] at hf
    refine ev_aload_n dX8_rowsOf_16 1 rfl ?_
    refine ev_getK 0 dX8_rowsOf_17 (hS.lt (hc _ (inR_w (i_St0 hk) rfl rfl))) (s_St0 hk) (hS.K1 (hc _ (inR_w (i_St0 hk) rfl rfl)) (K_St0 hk)) ciX8 (by decide) rfl flX8_19 ?_
    obtain ⟨v3, hv3, hf⟩ := Option.bind_eq_some_iff.mp hf
    refine cl_V1 (As := []) (st := []) miX7_scratch (tX7_scratch hS (hc.w rfl rfl) μ hv3) dX8_rowsOf_20 lkX8_74 inX7_scratch rfl (hS.lt (hc 25 rfl)) rfl ⟨rfl, rfl⟩ ⟨⟨Nat.le_of_ble_eq_true rfl, Nat.le_of_ble_eq_true rfl⟩, Nat.zero_le _, Nat.zero_le _⟩ (Nat.le_of_ble_eq_true rfl) ?_
    refine ev_astore_n (al2 := [(3, vr g v3), (2, vi v1), (0, vr g k), (1, vi stack)]) dX8_rowsOf_23 3 rfl (by decide) rfl ?_
    refine ev_aload_n dX8_rowsOf_24 0 rfl ?_
    refine ev_iconst dX8_rowsOf_25 ?_
    obtain ⟨μ5, hμ5, hf⟩ := lt_elim hf
    refine cl_S0 (As := [vr g v3, vi 0]) (st := []) miJ7_fill_53178 (tJ7_fill_53178 (o := μ5) hS v3 0 μ ⟨(hc _ (inR_w (i_Ct (rk_fX7_scratch hv3)) rfl rfl)), (ia_of (s_Ct (rk_fX7_scratch hv3)))⟩ (al_of (s_Ct (rk_fX7_scratch hv3)) (by decide)) (by rw [show alen v3 = 3840 from (by unfold alen; rw [(s_Ct (rk_fX7_scratch hv3))])]; exact hμ5.symm)) dX8_rowsOf_26 lkX8_33 stJ7_fill_53178 rfl ⟨⟨Nat.le_of_ble_eq_true rfl, Nat.le_of_ble_eq_true rfl⟩, Nat.zero_le _, Nat.zero_le _⟩ (Nat.le_of_ble_eq_true rfl) ?_
    refine ev_aload_n dX8_rowsOf_29 0 rfl ?_
    refine ev_iload_n dX8_rowsOf_30 3 rfl ?_
    refine ev_iconst dX8_rowsOf_31 ?_
    obtain ⟨μ6, hμ6, hf⟩ := lt_elim hf
    refine cl_N0 (As := [vr g v3, vi stack, vi 1]) (st := []) (host := "HotCakes") miX11_put (tX11_put hS (hc.w rfl rfl) v3 stack 1 μ5 (⟨(hc _ (inR_w (i_Ct (rk_fX7_scratch hv3)) rfl rfl)), (ia_of (s_Ct (rk_fX7_scratch hv3)))⟩) hμ6.symm) dX8_rowsOf_32 (by decide) stX11_put rfl ⟨⟨Nat.le_of_ble_eq_true rfl, Nat.le_of_ble_eq_true rfl⟩, Nat.zero_le _, Nat.zero_le _⟩ (Nat.le_of_ble_eq_true rfl) ?_
    refine ev_iload_n dX8_rowsOf_35 1 rfl ?_
    refine ev_istore (al2 := [(4, vi v1), (3, vr g v3), (2, vi v1), (0, vr g k), (1, vi stack)]) dX8_rowsOf_36 (by decide) rfl ?_
    obtain ⟨q15, hq15, hf⟩ := Option.bind_eq_some_iff.mp hf
    refine ev_sub [3, 1, 0] rfl ?_
    refine loop_ev (H := (fun s : Int × Mem => Ev l D cy g K yX8_rowsOf cX8_rowsOf 6 (some .int) (rmd 6 0 0) (MX D cy g K (rmd 6 0 0) Φ) 0 0 M x (L s.2) 38 [(0, vr g k), (3, vr g v3), (4, vi s.1)] [])) (Hx := (fun e : Mem => Ev l D cy g K yX8_rowsOf cX8_rowsOf 6 (some .int) (rmd 6 0 0) (MX D cy g K (rmd 6 0 0) Φ) 0 0 M x (L e) 100 [(0, vr g k), (3, vr g v3)] [])) (fun s o hb hr => tX8_rowsOf_b38 hS hc k stack v3 s.1 s.2 hk (rk_fX7_scratch hv3) hb hr) FU _ _ hq15 ?_
    show Ev l D cy g K yX8_rowsOf cX8_rowsOf 6 (some .int) (rmd 6 0 0) (MX D cy g K (rmd 6 0 0) Φ) 0 0 M x (L q15) 100 [(0, vr g k), (3, vr g v3)] []
    refine ev_aload_n dX8_rowsOf_100 1 rfl ?_
    refine ev_aload_n dX8_rowsOf_101 0 rfl ?_
    refine ev_getI 4 dX8_rowsOf_102 (hS.lt (hc _ (inR_w (i_St0 hk) rfl rfl))) (s_St0 hk) (hS.mem _ (hc _ (inR_w (i_St0 hk) rfl rfl))) ciX8 (by decide) rfl flX8_15 ?_
    refine cl_N1 (As := [vr g v3, vi (q15 k 4)]) (st := []) (host := "HotCakes") miX11_at (tX11_at hS (hc.w rfl rfl) v3 (q15 k 4) q15 (⟨(hc _ (inR_w (i_Ct (rk_fX7_scratch hv3)) rfl rfl)), (ia_of (s_Ct (rk_fX7_scratch hv3)))⟩) (o := (fX11_at v3 (q15 k 4) q15)) rfl) dX8_rowsOf_105 (by decide) stX11_at rfl ⟨⟨Nat.le_of_ble_eq_true rfl, Nat.le_of_ble_eq_true rfl⟩, Nat.zero_le _, Nat.zero_le _⟩ (Nat.le_of_ble_eq_true rfl) ?_
    obtain rfl := Option.some.inj hf
    exact ev_iret dX8_rowsOf_108 rfl ⟨Nat.zero_le _, Nat.zero_le _⟩ hr
  · rw [if_pos h2] at hf
    refine ev_iconst dX8_rowsOf_14 ?_
    obtain rfl := Option.some.inj hf
    exact ev_iret dX8_rowsOf_15 rfl ⟨Nat.zero_le _, Nat.zero_le _⟩ hr
theorem tX8_rowsOf (hS : Sd M K P L) (hc : CIn P 1 75) (k : Nat) (stack : Int) (μ : Mem) (hk : isSt k) {o : Int × Mem} (hf : fX8_rowsOf k stack μ = some o) : Cn l D cy g K K yX8_rowsOf cX8_rowsOf 6 (some .int) (rmd 6 0 0) [vr g k, vi stack] M x (L μ) (PE (some (vi o.1)) M x (L o.2)) :=
 Cn.of (by decide) (Nat.le_of_ble_eq_true rfl) (eX8_rowsOf hS hc k stack μ hk hf (PE_i _ _ _ _))
def fX11_ways  (μ : Mem) : Option (Int × Mem) :=
  (fX11_servedSteps μ).bind fun μ1 =>
  (fX8_rowsOf 46 (μ1 41 1) μ1).bind fun q2 =>
  some ((q2.1, q2.2))
set_option maxRecDepth 4000 in
theorem eX11_ways (hS : Sd M K P L) (hc : CIn P 0 75)  (μ : Mem)  {o : Int × Mem} (hf : fX11_ways  μ = some o) (hr : (fun o : Int × Mem => Φ (some (vi o.1)) M x (L o.2)) o) : Ev l D cy g K yX11_ways cX11_ways 1 (some .int) (rmd 7 0 0) (MX D cy g K (rmd 7 0 0) Φ) 0 0 M x (L μ) 0 [(0, vr g 0)] [] := by
  unfold fX11_ways at hf
  refine ev_aload_n dX11_ways_0 0 rfl ?_
  obtain ⟨μ1, hμ1, hf⟩ := Option.bind_eq_some_iff.mp hf
  refine cl_V1 (As := []) (st := []) miX11_servedSteps (tX11_servedSteps hS (hc.w rfl rfl) μ hμ1) dX11_ways_1 lkX11_215 inX11_servedSteps rfl (hS.lt (hc 0 rfl)) rfl ⟨rfl, rfl⟩ ⟨⟨Nat.le_of_ble_eq_true rfl, Nat.le_of_ble_eq_true rfl⟩, Nat.zero_le _, Nat.zero_le _⟩ (Nat.le_of_ble_eq_true rfl) ?_
  refine ev_aload_n dX11_ways_4 0 rfl ?_
  refine ev_getK 7 dX11_ways_5 (hS.lt (hc 0 rfl)) rfl (hS.K1 (hc 0 rfl) rfl) ciX11 (by decide) rfl flX11_58 ?_
  refine cl_V1 (As := []) (st := [vr g 46]) miX5_stack (tX5_stack hS (hc.w rfl rfl) 41 μ1 (by simp [isMo]) (o := (μ1 41 1)) rfl) dX11_ways_8 lkX11_167 inX5_stack rfl (hS.lt (hc 41 rfl)) rfl ⟨rfl, rfl⟩ ⟨⟨Nat.le_of_ble_eq_true rfl, Nat.le_of_ble_eq_true rfl⟩, Nat.zero_le _, Nat.zero_le _⟩ (Nat.le_of_ble_eq_true rfl) ?_
  obtain ⟨q2, hq2, hf⟩ := Option.bind_eq_some_iff.mp hf
  refine cl_V1 (As := [vi (μ1 41 1)]) (st := []) miX8_rowsOf (tX8_rowsOf hS (hc.w rfl rfl) 46 (μ1 41 1) μ1 (by simp [isSt]) hq2) dX11_ways_11 lkX11_225 inX8_rowsOf rfl (hS.lt (hc 46 rfl)) rfl ⟨rfl, rfl⟩ ⟨⟨Nat.le_of_ble_eq_true rfl, Nat.le_of_ble_eq_true rfl⟩, Nat.zero_le _, Nat.zero_le _⟩ (Nat.le_of_ble_eq_true rfl) ?_
  obtain rfl := Option.some.inj hf
  exact ev_iret dX11_ways_14 rfl ⟨Nat.zero_le _, Nat.zero_le _⟩ hr
theorem tX11_ways (hS : Sd M K P L) (hc : CIn P 0 75) (μ : Mem) {o : Int × Mem} (hf : fX11_ways μ = some o) : Cn l D cy g K K yX11_ways cX11_ways 1 (some .int) (rmd 7 0 0) [vr g 0] M x (L μ) (PE (some (vi o.1)) M x (L o.2)) :=
 Cn.of (by decide) (Nat.le_of_ble_eq_true rfl) (eX11_ways hS hc μ hf (PE_i _ _ _ _))
def fX0_learnBehind_b5 (stack : Int) (sum : Int) (v1 : Int) (v2 : Int) (μ : Mem) : Option ((Int × Int × Mem) ⊕ (Int × Mem)) :=
  if w32 v2 ≤ w32 (μ 25 1) then
    lt (fX7_turned stack v2 μ) fun v4 =>
    lt (sum + (fX7_priceOf v4 v2 μ)) fun v5 =>
    lt (if w32 (fX11_at 54 v4 μ) = w32 (-1) then
        true
      else
        if w32 v5 < w32 (fX11_at 54 v4 μ) then
          true
        else
          false) fun v6 =>
    if v6 = true then
      if (fX7_isOpen v4 v2 μ) = true then
        lt (fX11_put 54 v4 v5 μ) fun μ11 =>
        lt (imax v1 v5) fun v12 =>
        some (.inl (v12, (v2 + 1), μ11))
      else
        some (.inl (v1, (v2 + 1), μ))
    else
      some (.inl (v1, (v2 + 1), μ))
  else
    some (.inr (v1, μ))
set_option maxRecDepth 4000 in
theorem tX0_learnBehind_b5 (hS : Sd M K P L) (hc : CIn P 1 55) (stack : Int) (sum : Int) (v1 : Int) (v2 : Int) (μ : Mem)  {o : (Int × Int × Mem) ⊕ (Int × Mem)} (hf : fX0_learnBehind_b5 stack sum v1 v2 μ = some o) (hr : (Sum.elim (fun s : Int × Int × Mem => Ev l D cy g K yX0_learnBehind cX0_learnBehind 8 (some .int) (rmd 4 0 0) (MX D cy g K (rmd 4 0 0) Φ) 0 0 M x (L s.2.2) 5 [(0, vr g 53), (1, vi stack), (2, vi sum), (3, vi s.1), (4, vi s.2.1)] []) (fun e : Int × Mem => Ev l D cy g K yX0_learnBehind cX0_learnBehind 8 (some .int) (rmd 4 0 0) (MX D cy g K (rmd 4 0 0) Φ) 0 0 M x (L e.2) 121 [(3, vi e.1)] [])) o) : Ev l D cy g K yX0_learnBehind cX0_learnBehind 8 (some .int) (rmd 4 0 0) (MX D cy g K (rmd 4 0 0) Φ) 0 0 M x (L μ) 5 [(0, vr g 53), (1, vi stack), (2, vi sum), (3, vi v1), (4, vi v2)] [] := by
  unfold fX0_learnBehind_b5 at hf
  refine ev_iload dX0_learnBehind_5 4 rfl ?_
  refine ev_aload_n dX0_learnBehind_7 0 rfl ?_
  refine ev_getK 0 dX0_learnBehind_8 (hS.lt (hc 53 rfl)) rfl (hS.K1 (hc 53 rfl) rfl) ciX0 (by decide) rfl flX0_15 ?_
  refine cl_V1 (As := []) (st := [vi v2]) miX7_cakes (tX7_cakes hS (hc.w rfl rfl) μ (o := (μ 25 1)) rfl) dX0_learnBehind_11 lkX0_56 inX7_cakes rfl (hS.lt (hc 25 rfl)) rfl ⟨rfl, rfl⟩ ⟨⟨Nat.le_of_ble_eq_true rfl, Nat.le_of_ble_eq_true rfl⟩, Nat.zero_le _, Nat.zero_le _⟩ (Nat.le_of_ble_eq_true rfl) ?_
  refine ev_icmp_gt 121 dX0_learnBehind_14 (by decide) (fun h3 => ?_) (fun h3 => ?_)
  · rw [if_neg h3] at hf
    obtain rfl := Option.some.inj hf
    refine ev_sub [3] rfl ?_
    exact hr
  · rw [if_pos h3] at hf
    refine ev_aload_n dX0_learnBehind_17 0 rfl ?_
    refine ev_getK 0 dX0_learnBehind_18 (hS.lt (hc 53 rfl)) rfl (hS.K1 (hc 53 rfl) rfl) ciX0 (by decide) rfl flX0_15 ?_
    refine ev_iload_n dX0_learnBehind_21 1 rfl ?_
    refine ev_iload dX0_learnBehind_22 4 rfl ?_
    refine cl_V1 (As := [vi stack, vi v2]) (st := []) miX7_turned (tX7_turned hS (hc.w rfl rfl) stack v2 μ (o := (fX7_turned stack v2 μ)) rfl) dX0_learnBehind_24 lkX0_59 inX7_turned rfl (hS.lt (hc 25 rfl)) rfl ⟨rfl, rfl⟩ ⟨⟨Nat.le_of_ble_eq_true rfl, Nat.le_of_ble_eq_true rfl⟩, Nat.zero_le _, Nat.zero_le _⟩ (Nat.le_of_ble_eq_true rfl) ?_
    obtain ⟨v4, hv4, hf⟩ := lt_elim hf
    refine ev_rni hv4 ?_
    refine ev_istore (al2 := [(5, vi v4), (0, vr g 53), (1, vi stack), (2, vi sum), (3, vi v1), (4, vi v2)]) dX0_learnBehind_27 (by decide) rfl ?_
    refine ev_iload_n dX0_learnBehind_29 3 rfl ?_
    refine ev_aload_n dX0_learnBehind_30 1 rfl ?_
    refine ev_getK 0 dX0_learnBehind_31 (hS.lt (hc 53 rfl)) rfl (hS.K1 (hc 53 rfl) rfl) ciX0 (by decide) rfl flX0_15 ?_
    refine ev_iload dX0_learnBehind_34 0 rfl ?_
    refine ev_iload dX0_learnBehind_36 5 rfl ?_
    refine cl_V1 (As := [vi v4, vi v2]) (st := [vi sum]) miX7_priceOf (tX7_priceOf hS (hc.w rfl rfl) v4 v2 μ (o := (fX7_priceOf v4 v2 μ)) rfl) dX0_learnBehind_38 lkX0_62 inX7_priceOf rfl (hS.lt (hc 25 rfl)) rfl ⟨rfl, rfl⟩ ⟨⟨Nat.le_of_ble_eq_true rfl, Nat.le_of_ble_eq_true rfl⟩, Nat.zero_le _, Nat.zero_le _⟩ (Nat.le_of_ble_eq_true rfl) ?_
    refine ev_iadd dX0_learnBehind_41 ?_
    obtain ⟨v5, hv5, hf⟩ := lt_elim hf
    refine ev_rni hv5 ?_
    refine ev_istore (al2 := [(6, vi v5), (5, vi v4), (0, vr g 53), (1, vi stack), (2, vi sum), (3, vi v1), (4, vi v2)]) dX0_learnBehind_42 (by decide) rfl ?_
    refine ev_aload_n dX0_learnBehind_44 2 rfl ?_
    refine ev_getK 1 dX0_learnBehind_45 (hS.lt (hc 53 rfl)) rfl (hS.K1 (hc 53 rfl) rfl) ciX0 (by decide) rfl flX0_9 ?_
    refine ev_iload dX0_learnBehind_48 1 rfl ?_
    refine cl_N1 (As := [vr g 54, vi v4]) (st := []) (host := "HotCakes") miX11_at (tX11_at hS (hc.w rfl rfl) 54 v4 μ (⟨(hc 54 rfl), rfl⟩) (o := (fX11_at 54 v4 μ)) rfl) dX0_learnBehind_50 (by decide) stX11_at rfl ⟨⟨Nat.le_of_ble_eq_true rfl, Nat.le_of_ble_eq_true rfl⟩, Nat.zero_le _, Nat.zero_le _⟩ (Nat.le_of_ble_eq_true rfl) ?_
    refine ev_iconst dX0_learnBehind_53 ?_
    obtain ⟨v6, hv6, hf⟩ := lt_elim hf
    have hJv6 : Ev l D cy g K yX0_learnBehind cX0_learnBehind 8 (some .int) (rmd 4 0 0) (MX D cy g K (rmd 4 0 0) Φ) 0 0 M x (L μ) 76 [(6, vi v5), (5, vi v4), (0, vr g 53), (1, vi stack), (2, vi sum), (3, vi v1), (4, vi v2)] [vb v6] := by
      refine ev_istore (al2 := [(7, vb v6), (6, vi v5), (5, vi v4), (0, vr g 53), (1, vi stack), (2, vi sum), (3, vi v1), (4, vi v2)]) dX0_learnBehind_76 (by decide) rfl ?_
      refine ev_iload dX0_learnBehind_78 0 rfl ?_
      refine ev_ifb_eq 115 dX0_learnBehind_80 (by decide) (fun h9 => ?_) (fun h9 => ?_)
      · rw [if_neg h9] at hf
        refine ev_iinc (al2 := [(4, vi (v2 + 1)), (7, vb v6), (6, vi v5), (5, vi v4), (0, vr g 53), (1, vi stack), (2, vi sum), (3, vi v1)]) dX0_learnBehind_115 7 rfl (by decide) rfl ?_
        refine ev_goto 5 dX0_learnBehind_118 (by decide) ?_
        obtain rfl := Option.some.inj hf
        refine ev_sub [4, 5, 6, 7, 0] rfl ?_
        exact hr
      · rw [if_pos h9] at hf
        refine ev_aload_n dX0_learnBehind_83 3 rfl ?_
        refine ev_getK 0 dX0_learnBehind_84 (hS.lt (hc 53 rfl)) rfl (hS.K1 (hc 53 rfl) rfl) ciX0 (by decide) rfl flX0_15 ?_
        refine ev_iload dX0_learnBehind_87 2 rfl ?_
        refine ev_iload dX0_learnBehind_89 7 rfl ?_
        refine cl_V1 (As := [vi v4, vi v2]) (st := []) miX7_isOpen (tX7_isOpen hS (hc.w rfl rfl) v4 v2 μ (o := (fX7_isOpen v4 v2 μ)) rfl) dX0_learnBehind_91 lkX0_65 inX7_isOpen rfl (hS.lt (hc 25 rfl)) rfl ⟨rfl, rfl⟩ ⟨⟨Nat.le_of_ble_eq_true rfl, Nat.le_of_ble_eq_true rfl⟩, Nat.zero_le _, Nat.zero_le _⟩ (Nat.le_of_ble_eq_true rfl) ?_
        refine ev_ifb_eq 115 dX0_learnBehind_94 (by decide) (fun h10 => ?_) (fun h10 => ?_)
        · rw [if_neg h10] at hf
          refine ev_iinc (al2 := [(4, vi (v2 + 1)), (7, vb v6), (6, vi v5), (5, vi v4), (0, vr g 53), (1, vi stack), (2, vi sum), (3, vi v1)]) dX0_learnBehind_115 7 rfl (by decide) rfl ?_
          refine ev_goto 5 dX0_learnBehind_118 (by decide) ?_
          obtain rfl := Option.some.inj hf
          refine ev_sub [4, 5, 6, 7, 0] rfl ?_
          exact hr
        · rw [if_pos h10] at hf
          refine ev_aload_n dX0_learnBehind_97 3 rfl ?_
          refine ev_getK 1 dX0_learnBehind_98 (hS.lt (hc 53 rfl)) rfl (hS.K1 (hc 53 rfl) rfl) ciX0 (by decide) rfl flX0_9 ?_
          refine ev_iload dX0_learnBehind_101 2 rfl ?_
          refine ev_iload dX0_learnBehind_103 1 rfl ?_
          obtain ⟨μ11, hμ11, hf⟩ := lt_elim hf
          refine cl_N0 (As := [vr g 54, vi v4, vi v5]) (st := []) (host := "HotCakes") miX11_put (tX11_put hS (hc.w rfl rfl) 54 v4 v5 μ (⟨(hc 54 rfl), rfl⟩) hμ11.symm) dX0_learnBehind_105 (by decide) stX11_put rfl ⟨⟨Nat.le_of_ble_eq_true rfl, Nat.le_of_ble_eq_true rfl⟩, Nat.zero_le _, Nat.zero_le _⟩ (Nat.le_of_ble_eq_true rfl) ?_
          refine ev_iload_n dX0_learnBehind_108 6 rfl ?_
          refine ev_iload dX0_learnBehind_109 1 rfl ?_
          refine ev_mmax dX0_learnBehind_111 lkX0_51 ⟨Nat.le_of_ble_eq_true rfl, Nat.le_of_ble_eq_true rfl, Nat.zero_le _, Nat.zero_le _⟩ ?_
          obtain ⟨v12, hv12, hf⟩ := lt_elim hf
          refine ev_rni hv12 ?_
          refine ev_istore_n (al2 := [(3, vi v12), (7, vb v6), (6, vi v5), (5, vi v4), (0, vr g 53), (1, vi stack), (2, vi sum), (4, vi v2)]) dX0_learnBehind_114 3 rfl (by decide) rfl ?_
          refine ev_iinc (al2 := [(4, vi (v2 + 1)), (3, vi v12), (7, vb v6), (6, vi v5), (5, vi v4), (0, vr g 53), (1, vi stack), (2, vi sum)]) dX0_learnBehind_115 7 rfl (by decide) rfl ?_
          refine ev_goto 5 dX0_learnBehind_118 (by decide) ?_
          obtain rfl := Option.some.inj hf
          refine ev_sub [5, 6, 7, 1, 0] rfl ?_
          exact hr
    refine ev_icmp_eq 71 dX0_learnBehind_54 (by decide) (fun h7 => ?_) (fun h7 => ?_)
    · refine ev_iconst dX0_learnBehind_71 ?_
      refine ev_goto 76 dX0_learnBehind_72 (by decide) ?_
      have e9 : v6 = true := hv6.trans ((if_pos h7))
      subst e9
      exact hJv6
    · refine ev_iload dX0_learnBehind_57 0 rfl ?_
      refine ev_aload_n dX0_learnBehind_59 2 rfl ?_
      refine ev_getK 1 dX0_learnBehind_60 (hS.lt (hc 53 rfl)) rfl (hS.K1 (hc 53 rfl) rfl) ciX0 (by decide) rfl flX0_9 ?_
      refine ev_iload dX0_learnBehind_63 1 rfl ?_
      refine cl_N1 (As := [vr g 54, vi v4]) (st := [vi v5]) (host := "HotCakes") miX11_at (tX11_at hS (hc.w rfl rfl) 54 v4 μ (⟨(hc 54 rfl), rfl⟩) (o := (fX11_at 54 v4 μ)) rfl) dX0_learnBehind_65 (by decide) stX11_at rfl ⟨⟨Nat.le_of_ble_eq_true rfl, Nat.le_of_ble_eq_true rfl⟩, Nat.zero_le _, Nat.zero_le _⟩ (Nat.le_of_ble_eq_true rfl) ?_
      refine ev_icmp_ge 75 dX0_learnBehind_68 (by decide) (fun h8 => ?_) (fun h8 => ?_)
      · refine ev_iconst dX0_learnBehind_75 ?_
        have e9 : v6 = false := hv6.trans (((if_neg h7)).trans (if_neg h8))
        subst e9
        exact hJv6
      · refine ev_iconst dX0_learnBehind_71 ?_
        refine ev_goto 76 dX0_learnBehind_72 (by decide) ?_
        have e9 : v6 = true := hv6.trans (((if_neg h7)).trans (if_pos h8))
        subst e9
        exact hJv6
def fX0_learnBehind (stack : Int) (sum : Int) (μ : Mem) : Option (Int × Mem) :=
  (loopN (fun s => fX0_learnBehind_b5 stack sum s.1 s.2.1 s.2.2) FU (0, 1, μ)).bind fun q13 =>
  some ((q13.1, q13.2))
set_option maxRecDepth 4000 in
theorem eX0_learnBehind (hS : Sd M K P L) (hc : CIn P 1 55) (stack : Int) (sum : Int) (μ : Mem)  {o : Int × Mem} (hf : fX0_learnBehind stack sum μ = some o) (hr : (fun o : Int × Mem => Φ (some (vi o.1)) M x (L o.2)) o) : Ev l D cy g K yX0_learnBehind cX0_learnBehind 8 (some .int) (rmd 4 0 0) (MX D cy g K (rmd 4 0 0) Φ) 0 0 M x (L μ) 0 [(0, vr g 53), (1, vi stack), (2, vi sum)] [] := by
  unfold fX0_learnBehind at hf
  refine ev_iconst dX0_learnBehind_0 ?_
  refine ev_istore_n (al2 := [(3, vi 0), (0, vr g 53), (1, vi stack), (2, vi sum)]) dX0_learnBehind_1 3 rfl (by decide) rfl ?_
  refine ev_iconst dX0_learnBehind_2 ?_
  refine ev_istore (al2 := [(4, vi 1), (3, vi 0), (0, vr g 53), (1, vi stack), (2, vi sum)]) dX0_learnBehind_3 (by decide) rfl ?_
  obtain ⟨q13, hq13, hf⟩ := Option.bind_eq_some_iff.mp hf
  refine ev_sub [2, 3, 4, 1, 0] rfl ?_
  refine loop_ev (H := (fun s : Int × Int × Mem => Ev l D cy g K yX0_learnBehind cX0_learnBehind 8 (some .int) (rmd 4 0 0) (MX D cy g K (rmd 4 0 0) Φ) 0 0 M x (L s.2.2) 5 [(0, vr g 53), (1, vi stack), (2, vi sum), (3, vi s.1), (4, vi s.2.1)] [])) (Hx := (fun e : Int × Mem => Ev l D cy g K yX0_learnBehind cX0_learnBehind 8 (some .int) (rmd 4 0 0) (MX D cy g K (rmd 4 0 0) Φ) 0 0 M x (L e.2) 121 [(3, vi e.1)] [])) (fun s o hb hr => tX0_learnBehind_b5 hS hc stack sum s.1 s.2.1 s.2.2 hb hr) FU _ _ hq13 ?_
  show Ev l D cy g K yX0_learnBehind cX0_learnBehind 8 (some .int) (rmd 4 0 0) (MX D cy g K (rmd 4 0 0) Φ) 0 0 M x (L q13.2) 121 [(3, vi q13.1)] []
  refine ev_iload_n dX0_learnBehind_121 0 rfl ?_
  obtain rfl := Option.some.inj hf
  exact ev_iret dX0_learnBehind_122 rfl ⟨Nat.zero_le _, Nat.zero_le _⟩ hr
theorem tX0_learnBehind (hS : Sd M K P L) (hc : CIn P 1 55) (stack : Int) (sum : Int) (μ : Mem) {o : Int × Mem} (hf : fX0_learnBehind stack sum μ = some o) : Cn l D cy g K K yX0_learnBehind cX0_learnBehind 8 (some .int) (rmd 4 0 0) [vr g 53, vi stack, vi sum] M x (L μ) (PE (some (vi o.1)) M x (L o.2)) :=
 Cn.of (by decide) (Nat.le_of_ble_eq_true rfl) (eX0_learnBehind hS hc stack sum μ hf (PE_i _ _ _ _))
def fX0_learn_b53 (v6 : Int) (v9 : Int) (v10 : Int) (μ : Mem) : Option ((Int × Int × Mem) ⊕ (Int × Mem)) :=
  if w32 v10 < w32 (i_shl (μ 25 3) (μ 25 2)) then
    if w32 (fX11_at 54 v10 μ) = w32 v6 then
      (fX0_learnBehind v10 v6 μ).bind fun q13 =>
      lt (imax v9 q13.1) fun v14 =>
      some (.inl (v14, (v10 + 1), q13.2))
    else
      some (.inl (v9, (v10 + 1), μ))
  else
    some (.inr (v9, μ))
set_option maxRecDepth 4000 in
theorem tX0_learn_b53 (hS : Sd M K P L) (hc : CIn P 1 55) (v6 : Int) (v9 : Int) (v10 : Int) (μ : Mem)  {o : (Int × Int × Mem) ⊕ (Int × Mem)} (hf : fX0_learn_b53 v6 v9 v10 μ = some o) (hr : (Sum.elim (fun s : Int × Int × Mem => Ev l D cy g K yX0_learn cX0_learn 4 none (rmd 5 0 0) (MX D cy g K (rmd 5 0 0) Φ) 0 0 M x (L s.2.2) 53 [(0, vr g 53), (1, vi s.1), (2, vi v6), (3, vi s.2.1)] []) (fun e : Int × Mem => Ev l D cy g K yX0_learn cX0_learn 4 none (rmd 5 0 0) (MX D cy g K (rmd 5 0 0) Φ) 0 0 M x (L e.2) 93 [(0, vr g 53), (1, vi e.1), (2, vi v6)] [])) o) : Ev l D cy g K yX0_learn cX0_learn 4 none (rmd 5 0 0) (MX D cy g K (rmd 5 0 0) Φ) 0 0 M x (L μ) 53 [(0, vr g 53), (1, vi v9), (2, vi v6), (3, vi v10)] [] := by
  unfold fX0_learn_b53 at hf
  refine ev_iload_n dX0_learn_53 3 rfl ?_
  refine ev_aload_n dX0_learn_54 0 rfl ?_
  refine ev_getK 0 dX0_learn_55 (hS.lt (hc 53 rfl)) rfl (hS.K1 (hc 53 rfl) rfl) ciX0 (by decide) rfl flX0_15 ?_
  refine cl_V1 (As := []) (st := [vi v10]) miX7_all (tX7_all hS (hc.w rfl rfl) μ (o := (i_shl (μ 25 3) (μ 25 2))) rfl) dX0_learn_58 lkX0_40 inX7_all rfl (hS.lt (hc 25 rfl)) rfl ⟨rfl, rfl⟩ ⟨⟨Nat.le_of_ble_eq_true rfl, Nat.le_of_ble_eq_true rfl⟩, Nat.zero_le _, Nat.zero_le _⟩ (Nat.le_of_ble_eq_true rfl) ?_
  refine ev_icmp_ge 93 dX0_learn_61 (by decide) (fun h11 => ?_) (fun h11 => ?_)
  · rw [if_neg h11] at hf
    obtain rfl := Option.some.inj hf
    refine ev_sub [0, 1, 2] rfl ?_
    exact hr
  · rw [if_pos h11] at hf
    refine ev_aload_n dX0_learn_64 0 rfl ?_
    refine ev_getK 1 dX0_learn_65 (hS.lt (hc 53 rfl)) rfl (hS.K1 (hc 53 rfl) rfl) ciX0 (by decide) rfl flX0_9 ?_
    refine ev_iload_n dX0_learn_68 3 rfl ?_
    refine cl_N1 (As := [vr g 54, vi v10]) (st := []) (host := "HotCakes") miX11_at (tX11_at hS (hc.w rfl rfl) 54 v10 μ (⟨(hc 54 rfl), rfl⟩) (o := (fX11_at 54 v10 μ)) rfl) dX0_learn_69 (by decide) stX11_at rfl ⟨⟨Nat.le_of_ble_eq_true rfl, Nat.le_of_ble_eq_true rfl⟩, Nat.zero_le _, Nat.zero_le _⟩ (Nat.le_of_ble_eq_true rfl) ?_
    refine ev_iload_n dX0_learn_72 2 rfl ?_
    refine ev_icmp_ne 87 dX0_learn_73 (by decide) (fun h12 => ?_) (fun h12 => ?_)
    · rw [if_neg h12] at hf
      refine ev_iinc (al2 := [(3, vi (v10 + 1)), (0, vr g 53), (1, vi v9), (2, vi v6)]) dX0_learn_87 3 rfl (by decide) rfl ?_
      refine ev_goto 53 dX0_learn_90 (by decide) ?_
      obtain rfl := Option.some.inj hf
      refine ev_sub [1, 2, 3, 0] rfl ?_
      exact hr
    · rw [if_pos h12] at hf
      refine ev_iload_n dX0_learn_76 1 rfl ?_
      refine ev_aload_n dX0_learn_77 0 rfl ?_
      refine ev_iload_n dX0_learn_78 3 rfl ?_
      refine ev_iload_n dX0_learn_79 2 rfl ?_
      obtain ⟨q13, hq13, hf⟩ := Option.bind_eq_some_iff.mp hf
      refine cl_V1 (As := [vi v10, vi v6]) (st := [vi v9]) miX0_learnBehind (tX0_learnBehind hS (hc.w rfl rfl) v10 v6 μ hq13) dX0_learn_80 lkX0_47 inX0_learnBehind rfl (hS.lt (hc 53 rfl)) rfl ⟨rfl, rfl⟩ ⟨⟨Nat.le_of_ble_eq_true rfl, Nat.le_of_ble_eq_true rfl⟩, Nat.zero_le _, Nat.zero_le _⟩ (Nat.le_of_ble_eq_true rfl) ?_
      refine ev_mmax dX0_learn_83 lkX0_51 ⟨Nat.le_of_ble_eq_true rfl, Nat.le_of_ble_eq_true rfl, Nat.zero_le _, Nat.zero_le _⟩ ?_
      obtain ⟨v14, hv14, hf⟩ := lt_elim hf
      refine ev_rni hv14 ?_
      refine ev_istore_n (al2 := [(1, vi v14), (0, vr g 53), (2, vi v6), (3, vi v10)]) dX0_learn_86 1 rfl (by decide) rfl ?_
      refine ev_iinc (al2 := [(3, vi (v10 + 1)), (1, vi v14), (0, vr g 53), (2, vi v6)]) dX0_learn_87 3 rfl (by decide) rfl ?_
      refine ev_goto 53 dX0_learn_90 (by decide) ?_
      obtain rfl := Option.some.inj hf
      refine ev_sub [2, 1, 3, 0] rfl ?_
      exact hr
def fX0_learn_b40 (v5 : Int) (v6 : Int) (μ : Mem) : Option ((Int × Int × Mem) ⊕ (Mem)) :=
  if w32 v6 ≤ w32 v5 then
    if w32 v6 ≤ w32 34560 then
      (loopN (fun s => fX0_learn_b53 v6 s.1 s.2.1 s.2.2) FU (v5, 0, μ)).bind fun q15 =>
      some (.inl (q15.1, (v6 + 1), q15.2))
    else
      some (.inr μ)
  else
    some (.inr μ)
set_option maxRecDepth 4000 in
theorem tX0_learn_b40 (hS : Sd M K P L) (hc : CIn P 1 55) (v5 : Int) (v6 : Int) (μ : Mem)  {o : (Int × Int × Mem) ⊕ (Mem)} (hf : fX0_learn_b40 v5 v6 μ = some o) (hr : (Sum.elim (fun s : Int × Int × Mem => Ev l D cy g K yX0_learn cX0_learn 4 none (rmd 5 0 0) (MX D cy g K (rmd 5 0 0) Φ) 0 0 M x (L s.2.2) 40 [(0, vr g 53), (1, vi s.1), (2, vi s.2.1)] []) (fun e : Mem => Ev l D cy g K yX0_learn cX0_learn 4 none (rmd 5 0 0) (MX D cy g K (rmd 5 0 0) Φ) 0 0 M x (L e) 99 [] [])) o) : Ev l D cy g K yX0_learn cX0_learn 4 none (rmd 5 0 0) (MX D cy g K (rmd 5 0 0) Φ) 0 0 M x (L μ) 40 [(0, vr g 53), (1, vi v5), (2, vi v6)] [] := by
  unfold fX0_learn_b40 at hf
  refine ev_iload_n dX0_learn_40 2 rfl ?_
  refine ev_iload_n dX0_learn_41 1 rfl ?_
  refine ev_icmp_gt 99 dX0_learn_42 (by decide) (fun h7 => ?_) (fun h7 => ?_)
  · rw [if_neg h7] at hf
    obtain rfl := Option.some.inj hf
    refine ev_sub [] rfl ?_
    exact hr
  · rw [if_pos h7] at hf
    refine ev_iload_n dX0_learn_45 2 rfl ?_
    refine ev_ldc 34560 dX0_learn_46 kcX0_39 (by decide) ?_
    refine ev_icmp_gt 99 dX0_learn_48 (by decide) (fun h8 => ?_) (fun h8 => ?_)
    · rw [if_neg h8] at hf
      obtain rfl := Option.some.inj hf
      refine ev_sub [] rfl ?_
      exact hr
    · rw [if_pos h8] at hf
      refine ev_iconst dX0_learn_51 ?_
      refine ev_istore_n (al2 := [(3, vi 0), (0, vr g 53), (1, vi v5), (2, vi v6)]) dX0_learn_52 3 rfl (by decide) rfl ?_
      obtain ⟨q15, hq15, hf⟩ := Option.bind_eq_some_iff.mp hf
      refine ev_sub [1, 2, 3, 0] rfl ?_
      refine loop_ev (H := (fun s : Int × Int × Mem => Ev l D cy g K yX0_learn cX0_learn 4 none (rmd 5 0 0) (MX D cy g K (rmd 5 0 0) Φ) 0 0 M x (L s.2.2) 53 [(0, vr g 53), (1, vi s.1), (2, vi v6), (3, vi s.2.1)] [])) (Hx := (fun e : Int × Mem => Ev l D cy g K yX0_learn cX0_learn 4 none (rmd 5 0 0) (MX D cy g K (rmd 5 0 0) Φ) 0 0 M x (L e.2) 93 [(0, vr g 53), (1, vi e.1), (2, vi v6)] [])) (fun s o hb hr => tX0_learn_b53 hS hc v6 s.1 s.2.1 s.2.2 hb hr) FU _ _ hq15 ?_
      show Ev l D cy g K yX0_learn cX0_learn 4 none (rmd 5 0 0) (MX D cy g K (rmd 5 0 0) Φ) 0 0 M x (L q15.2) 93 [(0, vr g 53), (1, vi q15.1), (2, vi v6)] []
      refine ev_iinc (al2 := [(2, vi (v6 + 1)), (0, vr g 53), (1, vi q15.1)]) dX0_learn_93 2 rfl (by decide) rfl ?_
      refine ev_goto 40 dX0_learn_96 (by decide) ?_
      obtain rfl := Option.some.inj hf
      refine ev_sub [1, 2, 0] rfl ?_
      exact hr
def fX0_learn  (μ : Mem) : Option (Mem) :=
  if ((μ 53 2) != 0) = true then
    some (μ)
  else
    lt (upd2 μ 53 2 1) fun μ2 =>
    lt (fill3 μ2 54 3840 (-1)) fun μ3 =>
    lt (fX11_put 54 (μ3 25 4) 0 μ3) fun μ4 =>
    (loopN (fun s => fX0_learn_b40 s.1 s.2.1 s.2.2) FU (0, 0, μ4)).bind fun q16 =>
    some (q16)
set_option maxRecDepth 4000 in
theorem eX0_learn (hS : Sd M K P L) (hc : CIn P 1 55)  (μ : Mem)  {o : Mem} (hf : fX0_learn  μ = some o) (hr : (fun o : Mem => Φ none M x (L o)) o) : Ev l D cy g K yX0_learn cX0_learn 4 none (rmd 5 0 0) (MX D cy g K (rmd 5 0 0) Φ) 0 0 M x (L μ) 0 [(0, vr g 53)] [] := by
  unfold fX0_learn at hf
  refine ev_aload_n dX0_learn_0 0 rfl ?_
  refine ev_getZ 2 dX0_learn_1 (hS.lt (hc 53 rfl)) rfl (hS.mem _ (hc 53 rfl)) ciX0 (by decide) rfl flX0_19 ?_
  refine ev_ifb_eq 8 dX0_learn_4 (by decide) (fun h1 => ?_) (fun h1 => ?_)
  · rw [if_neg h1] at hf
    refine ev_aload_n dX0_learn_8 0 rfl ?_
    refine ev_iconst dX0_learn_9 ?_
    obtain ⟨μ2, hμ2, hf⟩ := lt_elim hf
    refine ev_putZ (b := true) 2 dX0_learn_10 (hS.lt (hc 53 rfl)) rfl ciX0 (by decide) (Or.inl rfl) rfl rfl flX0_19 (hS.up (hc 53 rfl) hμ2) ?_
    refine ev_aload_n dX0_learn_13 0 rfl ?_
    refine ev_getK 1 dX0_learn_14 (hS.lt (hc 53 rfl)) rfl (hS.K1 (hc 53 rfl) rfl) ciX0 (by decide) rfl flX0_9 ?_
    refine ev_iconst dX0_learn_17 ?_
    obtain ⟨μ3, hμ3, hf⟩ := lt_elim hf
    refine cl_S0 (As := [vr g 54, vi (-1)]) (st := []) miJ7_fill_53178 (tJ7_fill_53178 (o := μ3) hS 54 (-1) μ2 ⟨(hc 54 rfl), rfl⟩ (by decide) (hμ3.symm)) dX0_learn_18 lkX0_23 stJ7_fill_53178 rfl ⟨⟨Nat.le_of_ble_eq_true rfl, Nat.le_of_ble_eq_true rfl⟩, Nat.zero_le _, Nat.zero_le _⟩ (Nat.le_of_ble_eq_true rfl) ?_
    refine ev_aload_n dX0_learn_21 0 rfl ?_
    refine ev_getK 1 dX0_learn_22 (hS.lt (hc 53 rfl)) rfl (hS.K1 (hc 53 rfl) rfl) ciX0 (by decide) rfl flX0_9 ?_
    refine ev_aload_n dX0_learn_25 0 rfl ?_
    refine ev_getK 0 dX0_learn_26 (hS.lt (hc 53 rfl)) rfl (hS.K1 (hc 53 rfl) rfl) ciX0 (by decide) rfl flX0_15 ?_
    refine cl_V1 (As := []) (st := [vr g 54]) miX7_goal (tX7_goal hS (hc.w rfl rfl) μ3 (o := (μ3 25 4)) rfl) dX0_learn_29 lkX0_29 inX7_goal rfl (hS.lt (hc 25 rfl)) rfl ⟨rfl, rfl⟩ ⟨⟨Nat.le_of_ble_eq_true rfl, Nat.le_of_ble_eq_true rfl⟩, Nat.zero_le _, Nat.zero_le _⟩ (Nat.le_of_ble_eq_true rfl) ?_
    refine ev_iconst dX0_learn_32 ?_
    obtain ⟨μ4, hμ4, hf⟩ := lt_elim hf
    refine cl_N0 (As := [vr g 54, vi (μ3 25 4), vi 0]) (st := []) (host := "HotCakes") miX11_put (tX11_put hS (hc.w rfl rfl) 54 (μ3 25 4) 0 μ3 (⟨(hc 54 rfl), rfl⟩) hμ4.symm) dX0_learn_33 (by decide) stX11_put rfl ⟨⟨Nat.le_of_ble_eq_true rfl, Nat.le_of_ble_eq_true rfl⟩, Nat.zero_le _, Nat.zero_le _⟩ (Nat.le_of_ble_eq_true rfl) ?_
    refine ev_iconst dX0_learn_36 ?_
    refine ev_istore_n (al2 := [(1, vi 0), (0, vr g 53)]) dX0_learn_37 1 rfl (by decide) rfl ?_
    refine ev_iconst dX0_learn_38 ?_
    refine ev_istore_n (al2 := [(2, vi 0), (1, vi 0), (0, vr g 53)]) dX0_learn_39 2 rfl (by decide) rfl ?_
    obtain ⟨q16, hq16, hf⟩ := Option.bind_eq_some_iff.mp hf
    refine ev_sub [2, 1, 0] rfl ?_
    refine loop_ev (H := (fun s : Int × Int × Mem => Ev l D cy g K yX0_learn cX0_learn 4 none (rmd 5 0 0) (MX D cy g K (rmd 5 0 0) Φ) 0 0 M x (L s.2.2) 40 [(0, vr g 53), (1, vi s.1), (2, vi s.2.1)] [])) (Hx := (fun e : Mem => Ev l D cy g K yX0_learn cX0_learn 4 none (rmd 5 0 0) (MX D cy g K (rmd 5 0 0) Φ) 0 0 M x (L e) 99 [] [])) (fun s o hb hr => tX0_learn_b40 hS hc s.1 s.2.1 s.2.2 hb hr) FU _ _ hq16 ?_
    show Ev l D cy g K yX0_learn cX0_learn 4 none (rmd 5 0 0) (MX D cy g K (rmd 5 0 0) Φ) 0 0 M x (L q16) 99 [] []
    obtain rfl := Option.some.inj hf
    exact ev_vret dX0_learn_99 rfl ⟨Nat.zero_le _, Nat.zero_le _⟩ hr
  · rw [if_pos h1] at hf
    obtain rfl := Option.some.inj hf
    exact ev_vret dX0_learn_7 rfl ⟨Nat.zero_le _, Nat.zero_le _⟩ hr
theorem tX0_learn (hS : Sd M K P L) (hc : CIn P 1 55) (μ : Mem) {o : Mem} (hf : fX0_learn μ = some o) : Cn l D cy g K K yX0_learn cX0_learn 4 none (rmd 5 0 0) [vr g 53] M x (L μ) (PE none M x (L o)) :=
 Cn.of (by decide) (Nat.le_of_ble_eq_true rfl) (eX0_learn hS hc μ hf (PE_i _ _ _ _))
def fX0_sumOf (stack : Int) (μ : Mem) : Int :=
  (fX11_at 54 stack μ)
set_option maxRecDepth 4000 in
theorem eX0_sumOf (hS : Sd M K P L) (hc : CIn P 1 55) (stack : Int) (μ : Mem)  {o : Int} (hf : fX0_sumOf stack μ = o) (hr : (fun o : Int => Φ (some (vi o)) M x (L μ)) o) : Ev l D cy g K yX0_sumOf cX0_sumOf 2 (some .int) (rmd 2 0 0) (MX D cy g K (rmd 2 0 0) Φ) 0 0 M x (L μ) 0 [(0, vr g 53), (1, vi stack)] [] := by
  unfold fX0_sumOf at hf
  refine ev_aload_n dX0_sumOf_0 0 rfl ?_
  refine ev_getK 1 dX0_sumOf_1 (hS.lt (hc 53 rfl)) rfl (hS.K1 (hc 53 rfl) rfl) ciX0 (by decide) rfl flX0_9 ?_
  refine ev_iload_n dX0_sumOf_4 1 rfl ?_
  refine cl_N1 (As := [vr g 54, vi stack]) (st := []) (host := "HotCakes") miX11_at (tX11_at hS (hc.w rfl rfl) 54 stack μ (⟨(hc 54 rfl), rfl⟩) (o := (fX11_at 54 stack μ)) rfl) dX0_sumOf_5 (by decide) stX11_at rfl ⟨⟨Nat.le_of_ble_eq_true rfl, Nat.le_of_ble_eq_true rfl⟩, Nat.zero_le _, Nat.zero_le _⟩ (Nat.le_of_ble_eq_true rfl) ?_
  obtain rfl := hf
  exact ev_iret dX0_sumOf_8 rfl ⟨Nat.zero_le _, Nat.zero_le _⟩ hr
theorem tX0_sumOf (hS : Sd M K P L) (hc : CIn P 1 55) (stack : Int) (μ : Mem) {o : Int} (hf : fX0_sumOf stack μ = o) : Cn l D cy g K K yX0_sumOf cX0_sumOf 2 (some .int) (rmd 2 0 0) [vr g 53, vi stack] M x (L μ) (PE (some (vi o)) M x (L μ)) :=
 Cn.of (by decide) (Nat.le_of_ble_eq_true rfl) (eX0_sumOf hS hc stack μ hf (PE_i _ _ _ _))
def fX11_cheap  (μ : Mem) : Option (Int × Mem) :=
  (fX0_learn μ).bind fun μ1 =>
  some (((fX11_at 54 (μ1 41 1) μ1), μ1))
set_option maxRecDepth 4000 in
theorem eX11_cheap (hS : Sd M K P L) (hc : CIn P 0 75)  (μ : Mem)  {o : Int × Mem} (hf : fX11_cheap  μ = some o) (hr : (fun o : Int × Mem => Φ (some (vi o.1)) M x (L o.2)) o) : Ev l D cy g K yX11_cheap cX11_cheap 1 (some .int) (rmd 6 0 0) (MX D cy g K (rmd 6 0 0) Φ) 0 0 M x (L μ) 0 [(0, vr g 0)] [] := by
  unfold fX11_cheap at hf
  refine ev_aload_n dX11_cheap_0 0 rfl ?_
  refine ev_getK 16 dX11_cheap_1 (hS.lt (hc 0 rfl)) rfl (hS.K1 (hc 0 rfl) rfl) ciX11 (by decide) rfl flX11_97 ?_
  obtain ⟨μ1, hμ1, hf⟩ := Option.bind_eq_some_iff.mp hf
  refine cl_V0 (As := []) (st := []) miX0_learn (tX0_learn hS (hc.w rfl rfl) μ hμ1) dX11_cheap_4 lkX11_228 inX0_learn rfl (hS.lt (hc 53 rfl)) rfl ⟨rfl, rfl⟩ ⟨⟨Nat.le_of_ble_eq_true rfl, Nat.le_of_ble_eq_true rfl⟩, Nat.zero_le _, Nat.zero_le _⟩ (Nat.le_of_ble_eq_true rfl) ?_
  refine ev_aload_n dX11_cheap_7 0 rfl ?_
  refine ev_getK 16 dX11_cheap_8 (hS.lt (hc 0 rfl)) rfl (hS.K1 (hc 0 rfl) rfl) ciX11 (by decide) rfl flX11_97 ?_
  refine ev_aload_n dX11_cheap_11 0 rfl ?_
  refine ev_getK 7 dX11_cheap_12 (hS.lt (hc 0 rfl)) rfl (hS.K1 (hc 0 rfl) rfl) ciX11 (by decide) rfl flX11_58 ?_
  refine cl_V1 (As := []) (st := [vr g 53]) miX5_stack (tX5_stack hS (hc.w rfl rfl) 41 μ1 (by simp [isMo]) (o := (μ1 41 1)) rfl) dX11_cheap_15 lkX11_167 inX5_stack rfl (hS.lt (hc 41 rfl)) rfl ⟨rfl, rfl⟩ ⟨⟨Nat.le_of_ble_eq_true rfl, Nat.le_of_ble_eq_true rfl⟩, Nat.zero_le _, Nat.zero_le _⟩ (Nat.le_of_ble_eq_true rfl) ?_
  refine cl_V1 (As := [vi (μ1 41 1)]) (st := []) miX0_sumOf (tX0_sumOf hS (hc.w rfl rfl) (μ1 41 1) μ1 (o := (fX11_at 54 (μ1 41 1) μ1)) rfl) dX11_cheap_18 lkX11_230 inX0_sumOf rfl (hS.lt (hc 53 rfl)) rfl ⟨rfl, rfl⟩ ⟨⟨Nat.le_of_ble_eq_true rfl, Nat.le_of_ble_eq_true rfl⟩, Nat.zero_le _, Nat.zero_le _⟩ (Nat.le_of_ble_eq_true rfl) ?_
  obtain rfl := Option.some.inj hf
  exact ev_iret dX11_cheap_21 rfl ⟨Nat.zero_le _, Nat.zero_le _⟩ hr
theorem tX11_cheap (hS : Sd M K P L) (hc : CIn P 0 75) (μ : Mem) {o : Int × Mem} (hf : fX11_cheap μ = some o) : Cn l D cy g K K yX11_cheap cX11_cheap 1 (some .int) (rmd 6 0 0) [vr g 0] M x (L μ) (PE (some (vi o.1)) M x (L o.2)) :=
 Cn.of (by decide) (Nat.le_of_ble_eq_true rfl) (eX11_cheap hS hc μ hf (PE_i _ _ _ _))
def fX0_firstTurn_b11 (stack : Int) (v1 : Int) (v2 : Int) (μ : Mem) : Option ((Int) ⊕ (Int)) :=
  if w32 v1 ≤ 0 then
    some (.inr (-1))
  else
    if w32 v2 ≤ w32 (μ 25 1) then
      lt (fX11_at 54 (fX7_turned stack v2 μ) μ) fun v5 =>
      lt (if w32 v5 = w32 (-1) then
          false
        else
          if w32 (v5 + (fX7_priceOf stack v2 μ)) = w32 v1 then
            true
          else
            false) fun v6 =>
      if v6 = true then
        if (fX7_isOpen stack v2 μ) = true then
          some (.inr v2)
        else
          some (.inl (v2 + 1))
      else
        some (.inl (v2 + 1))
    else
      some (.inr (-1))
set_option maxRecDepth 4000 in
theorem tX0_firstTurn_b11 (hS : Sd M K P L) (hc : CIn P 1 55) (stack : Int) (v1 : Int) (v2 : Int) (μ : Mem)  {o : (Int) ⊕ (Int)} (hf : fX0_firstTurn_b11 stack v1 v2 μ = some o) (hr : (Sum.elim (fun s : Int => Ev l D cy g K yX0_firstTurn cX0_firstTurn 6 (some .int) (rmd 4 0 0) (MX D cy g K (rmd 4 0 0) Φ) 0 0 M x (L μ) 11 [(0, vr g 53), (1, vi stack), (2, vi v1), (3, vi s)] []) (fun o : Int => Φ (some (vi o)) M x (L μ))) o) : Ev l D cy g K yX0_firstTurn cX0_firstTurn 6 (some .int) (rmd 4 0 0) (MX D cy g K (rmd 4 0 0) Φ) 0 0 M x (L μ) 11 [(0, vr g 53), (1, vi stack), (2, vi v1), (3, vi v2)] [] := by
  unfold fX0_firstTurn_b11 at hf
  refine ev_iload_n dX0_firstTurn_11 2 rfl ?_
  refine ev_if_le 98 dX0_firstTurn_12 (by decide) (fun h3 => ?_) (fun h3 => ?_)
  · rw [if_pos h3] at hf
    refine ev_iconst dX0_firstTurn_98 ?_
    obtain rfl := Option.some.inj hf
    exact ev_iret dX0_firstTurn_99 rfl ⟨Nat.zero_le _, Nat.zero_le _⟩ hr
  · rw [if_neg h3] at hf
    refine ev_iload_n dX0_firstTurn_15 3 rfl ?_
    refine ev_aload_n dX0_firstTurn_16 0 rfl ?_
    refine ev_getK 0 dX0_firstTurn_17 (hS.lt (hc 53 rfl)) rfl (hS.K1 (hc 53 rfl) rfl) ciX0 (by decide) rfl flX0_15 ?_
    refine cl_V1 (As := []) (st := [vi v2]) miX7_cakes (tX7_cakes hS (hc.w rfl rfl) μ (o := (μ 25 1)) rfl) dX0_firstTurn_20 lkX0_56 inX7_cakes rfl (hS.lt (hc 25 rfl)) rfl ⟨rfl, rfl⟩ ⟨⟨Nat.le_of_ble_eq_true rfl, Nat.le_of_ble_eq_true rfl⟩, Nat.zero_le _, Nat.zero_le _⟩ (Nat.le_of_ble_eq_true rfl) ?_
    refine ev_icmp_gt 98 dX0_firstTurn_23 (by decide) (fun h4 => ?_) (fun h4 => ?_)
    · rw [if_neg h4] at hf
      refine ev_iconst dX0_firstTurn_98 ?_
      obtain rfl := Option.some.inj hf
      exact ev_iret dX0_firstTurn_99 rfl ⟨Nat.zero_le _, Nat.zero_le _⟩ hr
    · rw [if_pos h4] at hf
      refine ev_aload_n dX0_firstTurn_26 0 rfl ?_
      refine ev_getK 1 dX0_firstTurn_27 (hS.lt (hc 53 rfl)) rfl (hS.K1 (hc 53 rfl) rfl) ciX0 (by decide) rfl flX0_9 ?_
      refine ev_aload_n dX0_firstTurn_30 0 rfl ?_
      refine ev_getK 0 dX0_firstTurn_31 (hS.lt (hc 53 rfl)) rfl (hS.K1 (hc 53 rfl) rfl) ciX0 (by decide) rfl flX0_15 ?_
      refine ev_iload_n dX0_firstTurn_34 1 rfl ?_
      refine ev_iload_n dX0_firstTurn_35 3 rfl ?_
      refine cl_V1 (As := [vi stack, vi v2]) (st := [vr g 54]) miX7_turned (tX7_turned hS (hc.w rfl rfl) stack v2 μ (o := (fX7_turned stack v2 μ)) rfl) dX0_firstTurn_36 lkX0_59 inX7_turned rfl (hS.lt (hc 25 rfl)) rfl ⟨rfl, rfl⟩ ⟨⟨Nat.le_of_ble_eq_true rfl, Nat.le_of_ble_eq_true rfl⟩, Nat.zero_le _, Nat.zero_le _⟩ (Nat.le_of_ble_eq_true rfl) ?_
      obtain ⟨v5, hv5, hf⟩ := lt_elim hf
      refine cl_N1 (As := [vr g 54, vi (fX7_turned stack v2 μ)]) (st := []) (host := "HotCakes") miX11_at (tX11_at hS (hc.w rfl rfl) 54 (fX7_turned stack v2 μ) μ (⟨(hc 54 rfl), rfl⟩) hv5.symm) dX0_firstTurn_39 (by decide) stX11_at rfl ⟨⟨Nat.le_of_ble_eq_true rfl, Nat.le_of_ble_eq_true rfl⟩, Nat.zero_le _, Nat.zero_le _⟩ (Nat.le_of_ble_eq_true rfl) ?_
      refine ev_istore (al2 := [(4, vi v5), (0, vr g 53), (1, vi stack), (2, vi v1), (3, vi v2)]) dX0_firstTurn_42 (by decide) rfl ?_
      refine ev_iload dX0_firstTurn_44 0 rfl ?_
      refine ev_iconst dX0_firstTurn_46 ?_
      obtain ⟨v6, hv6, hf⟩ := lt_elim hf
      have hJv6 : Ev l D cy g K yX0_firstTurn cX0_firstTurn 6 (some .int) (rmd 4 0 0) (MX D cy g K (rmd 4 0 0) Φ) 0 0 M x (L μ) 71 [(4, vi v5), (0, vr g 53), (1, vi stack), (2, vi v1), (3, vi v2)] [vb v6] := by
        refine ev_istore (al2 := [(5, vb v6), (4, vi v5), (0, vr g 53), (1, vi stack), (2, vi v1), (3, vi v2)]) dX0_firstTurn_71 (by decide) rfl ?_
        refine ev_iload dX0_firstTurn_73 0 rfl ?_
        refine ev_ifb_eq 92 dX0_firstTurn_75 (by decide) (fun h9 => ?_) (fun h9 => ?_)
        · rw [if_neg h9] at hf
          refine ev_iinc (al2 := [(3, vi (v2 + 1)), (5, vb v6), (4, vi v5), (0, vr g 53), (1, vi stack), (2, vi v1)]) dX0_firstTurn_92 5 rfl (by decide) rfl ?_
          refine ev_goto 11 dX0_firstTurn_95 (by decide) ?_
          obtain rfl := Option.some.inj hf
          refine ev_sub [3, 4, 5, 0] rfl ?_
          exact hr
        · rw [if_pos h9] at hf
          refine ev_aload_n dX0_firstTurn_78 2 rfl ?_
          refine ev_getK 0 dX0_firstTurn_79 (hS.lt (hc 53 rfl)) rfl (hS.K1 (hc 53 rfl) rfl) ciX0 (by decide) rfl flX0_15 ?_
          refine ev_iload_n dX0_firstTurn_82 3 rfl ?_
          refine ev_iload_n dX0_firstTurn_83 5 rfl ?_
          refine cl_V1 (As := [vi stack, vi v2]) (st := []) miX7_isOpen (tX7_isOpen hS (hc.w rfl rfl) stack v2 μ (o := (fX7_isOpen stack v2 μ)) rfl) dX0_firstTurn_84 lkX0_65 inX7_isOpen rfl (hS.lt (hc 25 rfl)) rfl ⟨rfl, rfl⟩ ⟨⟨Nat.le_of_ble_eq_true rfl, Nat.le_of_ble_eq_true rfl⟩, Nat.zero_le _, Nat.zero_le _⟩ (Nat.le_of_ble_eq_true rfl) ?_
          refine ev_ifb_eq 92 dX0_firstTurn_87 (by decide) (fun h10 => ?_) (fun h10 => ?_)
          · rw [if_neg h10] at hf
            refine ev_iinc (al2 := [(3, vi (v2 + 1)), (5, vb v6), (4, vi v5), (0, vr g 53), (1, vi stack), (2, vi v1)]) dX0_firstTurn_92 5 rfl (by decide) rfl ?_
            refine ev_goto 11 dX0_firstTurn_95 (by decide) ?_
            obtain rfl := Option.some.inj hf
            refine ev_sub [3, 4, 5, 0] rfl ?_
            exact hr
          · rw [if_pos h10] at hf
            refine ev_iload_n dX0_firstTurn_90 5 rfl ?_
            obtain rfl := Option.some.inj hf
            exact ev_iret dX0_firstTurn_91 rfl ⟨Nat.zero_le _, Nat.zero_le _⟩ hr
      refine ev_icmp_eq 70 dX0_firstTurn_47 (by decide) (fun h7 => ?_) (fun h7 => ?_)
      · refine ev_iconst dX0_firstTurn_70 ?_
        have e9 : v6 = false := hv6.trans ((if_pos h7))
        subst e9
        exact hJv6
      · refine ev_iload dX0_firstTurn_50 0 rfl ?_
        refine ev_aload_n dX0_firstTurn_52 1 rfl ?_
        refine ev_getK 0 dX0_firstTurn_53 (hS.lt (hc 53 rfl)) rfl (hS.K1 (hc 53 rfl) rfl) ciX0 (by decide) rfl flX0_15 ?_
        refine ev_iload_n dX0_firstTurn_56 2 rfl ?_
        refine ev_iload_n dX0_firstTurn_57 4 rfl ?_
        refine cl_V1 (As := [vi stack, vi v2]) (st := [vi v5]) miX7_priceOf (tX7_priceOf hS (hc.w rfl rfl) stack v2 μ (o := (fX7_priceOf stack v2 μ)) rfl) dX0_firstTurn_58 lkX0_62 inX7_priceOf rfl (hS.lt (hc 25 rfl)) rfl ⟨rfl, rfl⟩ ⟨⟨Nat.le_of_ble_eq_true rfl, Nat.le_of_ble_eq_true rfl⟩, Nat.zero_le _, Nat.zero_le _⟩ (Nat.le_of_ble_eq_true rfl) ?_
        refine ev_iadd dX0_firstTurn_61 ?_
        refine ev_iload_n dX0_firstTurn_62 3 rfl ?_
        refine ev_icmp_ne 70 dX0_firstTurn_63 (by decide) (fun h8 => ?_) (fun h8 => ?_)
        · refine ev_iconst dX0_firstTurn_70 ?_
          have e9 : v6 = false := hv6.trans (((if_neg h7)).trans (if_neg h8))
          subst e9
          exact hJv6
        · refine ev_iconst dX0_firstTurn_66 ?_
          refine ev_goto 71 dX0_firstTurn_67 (by decide) ?_
          have e9 : v6 = true := hv6.trans (((if_neg h7)).trans (if_pos h8))
          subst e9
          exact hJv6
def fX0_firstTurn (stack : Int) (μ : Mem) : Option (Int) :=
  lt (fX11_at 54 stack μ) fun v1 =>
  loopN (fun s => fX0_firstTurn_b11 stack v1 s μ) FU 1
set_option maxRecDepth 4000 in
theorem eX0_firstTurn (hS : Sd M K P L) (hc : CIn P 1 55) (stack : Int) (μ : Mem)  {o : Int} (hf : fX0_firstTurn stack μ = some o) (hr : (fun o : Int => Φ (some (vi o)) M x (L μ)) o) : Ev l D cy g K yX0_firstTurn cX0_firstTurn 6 (some .int) (rmd 4 0 0) (MX D cy g K (rmd 4 0 0) Φ) 0 0 M x (L μ) 0 [(0, vr g 53), (1, vi stack)] [] := by
  unfold fX0_firstTurn at hf
  refine ev_aload_n dX0_firstTurn_0 0 rfl ?_
  refine ev_getK 1 dX0_firstTurn_1 (hS.lt (hc 53 rfl)) rfl (hS.K1 (hc 53 rfl) rfl) ciX0 (by decide) rfl flX0_9 ?_
  refine ev_iload_n dX0_firstTurn_4 1 rfl ?_
  refine cl_N1 (As := [vr g 54, vi stack]) (st := []) (host := "HotCakes") miX11_at (tX11_at hS (hc.w rfl rfl) 54 stack μ (⟨(hc 54 rfl), rfl⟩) (o := (fX11_at 54 stack μ)) rfl) dX0_firstTurn_5 (by decide) stX11_at rfl ⟨⟨Nat.le_of_ble_eq_true rfl, Nat.le_of_ble_eq_true rfl⟩, Nat.zero_le _, Nat.zero_le _⟩ (Nat.le_of_ble_eq_true rfl) ?_
  obtain ⟨v1, hv1, hf⟩ := lt_elim hf
  refine ev_rni hv1 ?_
  refine ev_istore_n (al2 := [(2, vi v1), (0, vr g 53), (1, vi stack)]) dX0_firstTurn_8 2 rfl (by decide) rfl ?_
  refine ev_iconst dX0_firstTurn_9 ?_
  refine ev_istore_n (al2 := [(3, vi 1), (2, vi v1), (0, vr g 53), (1, vi stack)]) dX0_firstTurn_10 3 rfl (by decide) rfl ?_
  refine ev_sub [2, 3, 1, 0] rfl ?_
  exact loop_ev (H := (fun s : Int => Ev l D cy g K yX0_firstTurn cX0_firstTurn 6 (some .int) (rmd 4 0 0) (MX D cy g K (rmd 4 0 0) Φ) 0 0 M x (L μ) 11 [(0, vr g 53), (1, vi stack), (2, vi v1), (3, vi s)] [])) (Hx := (fun o : Int => Φ (some (vi o)) M x (L μ))) (fun s o hb hr => tX0_firstTurn_b11 hS hc stack v1 s μ hb hr) FU _ _ hf hr
theorem tX0_firstTurn (hS : Sd M K P L) (hc : CIn P 1 55) (stack : Int) (μ : Mem) {o : Int} (hf : fX0_firstTurn stack μ = some o) : Cn l D cy g K K yX0_firstTurn cX0_firstTurn 6 (some .int) (rmd 4 0 0) [vr g 53, vi stack] M x (L μ) (PE (some (vi o)) M x (L μ)) :=
 Cn.of (by decide) (Nat.le_of_ble_eq_true rfl) (eX0_firstTurn hS hc stack μ hf (PE_i _ _ _ _))
def fX11_bill_b30 (i0 : Int) (v5 : Int) (v6 : Int) (μ : Mem) : Option ((Int × Int × Mem) ⊕ (Int × Mem)) :=
  if w32 v6 < w32 i0 then
    if w32 (fX11_at 54 v5 μ) ≤ 0 then
      some (.inr (v5, μ))
    else
      (fX0_firstTurn v5 μ).bind fun v9 =>
      lt (fX7_turned v5 v9 μ) fun v10 =>
      some (.inl (v10, (v6 + 1), μ))
  else
    some (.inr (v5, μ))
set_option maxRecDepth 4000 in
theorem tX11_bill_b30 (hS : Sd M K P L) (hc : CIn P 0 75) (i0 : Int) (v5 : Int) (v6 : Int) (μ : Mem)  {o : (Int × Int × Mem) ⊕ (Int × Mem)} (hf : fX11_bill_b30 i0 v5 v6 μ = some o) (hr : (Sum.elim (fun s : Int × Int × Mem => Ev l D cy g K yX11_bill cX11_bill 4 (some .int) (rmd 6 0 0) (MX D cy g K (rmd 6 0 0) Φ) 0 0 M x (L s.2.2) 30 [(0, vr g 0), (1, vi i0), (2, vi s.1), (3, vi s.2.1)] []) (fun e : Int × Mem => Ev l D cy g K yX11_bill cX11_bill 4 (some .int) (rmd 6 0 0) (MX D cy g K (rmd 6 0 0) Φ) 0 0 M x (L e.2) 69 [(0, vr g 0), (2, vi e.1)] [])) o) : Ev l D cy g K yX11_bill cX11_bill 4 (some .int) (rmd 6 0 0) (MX D cy g K (rmd 6 0 0) Φ) 0 0 M x (L μ) 30 [(0, vr g 0), (1, vi i0), (2, vi v5), (3, vi v6)] [] := by
  unfold fX11_bill_b30 at hf
  refine ev_iload_n dX11_bill_30 3 rfl ?_
  refine ev_iload_n dX11_bill_31 1 rfl ?_
  refine ev_icmp_ge 69 dX11_bill_32 (by decide) (fun h7 => ?_) (fun h7 => ?_)
  · rw [if_neg h7] at hf
    obtain rfl := Option.some.inj hf
    refine ev_sub [0, 2] rfl ?_
    exact hr
  · rw [if_pos h7] at hf
    refine ev_aload_n dX11_bill_35 0 rfl ?_
    refine ev_getK 16 dX11_bill_36 (hS.lt (hc 0 rfl)) rfl (hS.K1 (hc 0 rfl) rfl) ciX11 (by decide) rfl flX11_97 ?_
    refine ev_iload_n dX11_bill_39 2 rfl ?_
    refine cl_V1 (As := [vi v5]) (st := []) miX0_sumOf (tX0_sumOf hS (hc.w rfl rfl) v5 μ (o := (fX11_at 54 v5 μ)) rfl) dX11_bill_40 lkX11_230 inX0_sumOf rfl (hS.lt (hc 53 rfl)) rfl ⟨rfl, rfl⟩ ⟨⟨Nat.le_of_ble_eq_true rfl, Nat.le_of_ble_eq_true rfl⟩, Nat.zero_le _, Nat.zero_le _⟩ (Nat.le_of_ble_eq_true rfl) ?_
    refine ev_if_le 69 dX11_bill_43 (by decide) (fun h8 => ?_) (fun h8 => ?_)
    · rw [if_pos h8] at hf
      obtain rfl := Option.some.inj hf
      refine ev_sub [0, 2] rfl ?_
      exact hr
    · rw [if_neg h8] at hf
      refine ev_aload_n dX11_bill_46 0 rfl ?_
      refine ev_getK 4 dX11_bill_47 (hS.lt (hc 0 rfl)) rfl (hS.K1 (hc 0 rfl) rfl) ciX11 (by decide) rfl flX11_40 ?_
      refine ev_iload_n dX11_bill_50 2 rfl ?_
      refine ev_aload_n dX11_bill_51 0 rfl ?_
      refine ev_getK 16 dX11_bill_52 (hS.lt (hc 0 rfl)) rfl (hS.K1 (hc 0 rfl) rfl) ciX11 (by decide) rfl flX11_97 ?_
      refine ev_iload_n dX11_bill_55 2 rfl ?_
      obtain ⟨v9, hv9, hf⟩ := Option.bind_eq_some_iff.mp hf
      refine cl_V1 (As := [vi v5]) (st := [vi v5, vr g 25]) miX0_firstTurn (tX0_firstTurn hS (hc.w rfl rfl) v5 μ hv9) dX11_bill_56 lkX11_233 inX0_firstTurn rfl (hS.lt (hc 53 rfl)) rfl ⟨rfl, rfl⟩ ⟨⟨Nat.le_of_ble_eq_true rfl, Nat.le_of_ble_eq_true rfl⟩, Nat.zero_le _, Nat.zero_le _⟩ (Nat.le_of_ble_eq_true rfl) ?_
      refine cl_V1 (As := [vi v5, vi v9]) (st := []) miX7_turned (tX7_turned hS (hc.w rfl rfl) v5 v9 μ (o := (fX7_turned v5 v9 μ)) rfl) dX11_bill_59 lkX11_187 inX7_turned rfl (hS.lt (hc 25 rfl)) rfl ⟨rfl, rfl⟩ ⟨⟨Nat.le_of_ble_eq_true rfl, Nat.le_of_ble_eq_true rfl⟩, Nat.zero_le _, Nat.zero_le _⟩ (Nat.le_of_ble_eq_true rfl) ?_
      obtain ⟨v10, hv10, hf⟩ := lt_elim hf
      refine ev_rni hv10 ?_
      refine ev_istore_n (al2 := [(2, vi v10), (0, vr g 0), (1, vi i0), (3, vi v6)]) dX11_bill_62 2 rfl (by decide) rfl ?_
      refine ev_iinc (al2 := [(3, vi (v6 + 1)), (2, vi v10), (0, vr g 0), (1, vi i0)]) dX11_bill_63 3 rfl (by decide) rfl ?_
      refine ev_goto 30 dX11_bill_66 (by decide) ?_
      obtain rfl := Option.some.inj hf
      refine ev_sub [2, 3, 1, 0] rfl ?_
      exact hr
def fX11_bill_j69 (i0 : Int) (v12 : Int) (μ : Mem) : Option (Int × Mem) :=
  (fX0_firstTurn v12 μ).bind fun v13 =>
  some ((v13, μ))
set_option maxRecDepth 4000 in
theorem tX11_bill_j69 (hS : Sd M K P L) (hc : CIn P 0 75) (i0 : Int) (v12 : Int) (μ : Mem)  {o : Int × Mem} (hf : fX11_bill_j69 i0 v12 μ = some o) (hr : (fun o : Int × Mem => Φ (some (vi o.1)) M x (L o.2)) o) : Ev l D cy g K yX11_bill cX11_bill 4 (some .int) (rmd 6 0 0) (MX D cy g K (rmd 6 0 0) Φ) 0 0 M x (L μ) 69 [(0, vr g 0), (2, vi v12)] [] := by
  unfold fX11_bill_j69 at hf
  refine ev_aload_n dX11_bill_69 0 rfl ?_
  refine ev_getK 16 dX11_bill_70 (hS.lt (hc 0 rfl)) rfl (hS.K1 (hc 0 rfl) rfl) ciX11 (by decide) rfl flX11_97 ?_
  refine ev_iload_n dX11_bill_73 1 rfl ?_
  obtain ⟨v13, hv13, hf⟩ := Option.bind_eq_some_iff.mp hf
  refine cl_V1 (As := [vi v12]) (st := []) miX0_firstTurn (tX0_firstTurn hS (hc.w rfl rfl) v12 μ hv13) dX11_bill_74 lkX11_233 inX0_firstTurn rfl (hS.lt (hc 53 rfl)) rfl ⟨rfl, rfl⟩ ⟨⟨Nat.le_of_ble_eq_true rfl, Nat.le_of_ble_eq_true rfl⟩, Nat.zero_le _, Nat.zero_le _⟩ (Nat.le_of_ble_eq_true rfl) ?_
  obtain rfl := Option.some.inj hf
  exact ev_iret dX11_bill_77 rfl ⟨Nat.zero_le _, Nat.zero_le _⟩ hr
def fX11_bill (i0 : Int) (μ : Mem) : Option (Int × Mem) :=
  (fX0_learn μ).bind fun μ1 =>
  if w32 i0 < 0 then
    some (((-1), μ1))
  else
    if w32 i0 < w32 3840 then
      lt (μ1 41 1) fun v4 =>
      (loopN (fun s => fX11_bill_b30 i0 s.1 s.2.1 s.2.2) FU (v4, 0, μ1)).bind fun q11 =>
      fX11_bill_j69 i0 q11.1 q11.2
    else
      some (((-1), μ1))
set_option maxRecDepth 4000 in
theorem eX11_bill (hS : Sd M K P L) (hc : CIn P 0 75) (i0 : Int) (μ : Mem)  {o : Int × Mem} (hf : fX11_bill i0 μ = some o) (hr : (fun o : Int × Mem => Φ (some (vi o.1)) M x (L o.2)) o) : Ev l D cy g K yX11_bill cX11_bill 4 (some .int) (rmd 6 0 0) (MX D cy g K (rmd 6 0 0) Φ) 0 0 M x (L μ) 0 [(0, vr g 0), (1, vi i0)] [] := by
  unfold fX11_bill at hf
  refine ev_aload_n dX11_bill_0 0 rfl ?_
  refine ev_getK 16 dX11_bill_1 (hS.lt (hc 0 rfl)) rfl (hS.K1 (hc 0 rfl) rfl) ciX11 (by decide) rfl flX11_97 ?_
  obtain ⟨μ1, hμ1, hf⟩ := Option.bind_eq_some_iff.mp hf
  refine cl_V0 (As := []) (st := []) miX0_learn (tX0_learn hS (hc.w rfl rfl) μ hμ1) dX11_bill_4 lkX11_228 inX0_learn rfl (hS.lt (hc 53 rfl)) rfl ⟨rfl, rfl⟩ ⟨⟨Nat.le_of_ble_eq_true rfl, Nat.le_of_ble_eq_true rfl⟩, Nat.zero_le _, Nat.zero_le _⟩ (Nat.le_of_ble_eq_true rfl) ?_
  refine ev_iload_n dX11_bill_7 1 rfl ?_
  refine ev_if_lt 18 dX11_bill_8 (by decide) (fun h2 => ?_) (fun h2 => ?_)
  · rw [if_pos h2] at hf
    refine ev_iconst dX11_bill_18 ?_
    obtain rfl := Option.some.inj hf
    exact ev_iret dX11_bill_19 rfl ⟨Nat.zero_le _, Nat.zero_le _⟩ hr
  · rw [if_neg h2] at hf
    refine ev_iload_n dX11_bill_11 1 rfl ?_
    refine ev_sipush dX11_bill_12 (by decide) ?_
    refine ev_icmp_lt 20 dX11_bill_15 (by decide) (fun h3 => ?_) (fun h3 => ?_)
    · rw [if_pos h3] at hf
      refine ev_aload_n dX11_bill_20 0 rfl ?_
      refine ev_getK 7 dX11_bill_21 (hS.lt (hc 0 rfl)) rfl (hS.K1 (hc 0 rfl) rfl) ciX11 (by decide) rfl flX11_58 ?_
      refine cl_V1 (As := []) (st := []) miX5_stack (tX5_stack hS (hc.w rfl rfl) 41 μ1 (by simp [isMo]) (o := (μ1 41 1)) rfl) dX11_bill_24 lkX11_167 inX5_stack rfl (hS.lt (hc 41 rfl)) rfl ⟨rfl, rfl⟩ ⟨⟨Nat.le_of_ble_eq_true rfl, Nat.le_of_ble_eq_true rfl⟩, Nat.zero_le _, Nat.zero_le _⟩ (Nat.le_of_ble_eq_true rfl) ?_
      obtain ⟨v4, hv4, hf⟩ := lt_elim hf
      refine ev_rni hv4 ?_
      refine ev_istore_n (al2 := [(2, vi v4), (0, vr g 0), (1, vi i0)]) dX11_bill_27 2 rfl (by decide) rfl ?_
      refine ev_iconst dX11_bill_28 ?_
      refine ev_istore_n (al2 := [(3, vi 0), (2, vi v4), (0, vr g 0), (1, vi i0)]) dX11_bill_29 3 rfl (by decide) rfl ?_
      obtain ⟨q11, hq11, hf⟩ := Option.bind_eq_some_iff.mp hf
      refine ev_sub [2, 3, 1, 0] rfl ?_
      refine loop_ev (H := (fun s : Int × Int × Mem => Ev l D cy g K yX11_bill cX11_bill 4 (some .int) (rmd 6 0 0) (MX D cy g K (rmd 6 0 0) Φ) 0 0 M x (L s.2.2) 30 [(0, vr g 0), (1, vi i0), (2, vi s.1), (3, vi s.2.1)] [])) (Hx := (fun e : Int × Mem => Ev l D cy g K yX11_bill cX11_bill 4 (some .int) (rmd 6 0 0) (MX D cy g K (rmd 6 0 0) Φ) 0 0 M x (L e.2) 69 [(0, vr g 0), (2, vi e.1)] [])) (fun s o hb hr => tX11_bill_b30 hS hc i0 s.1 s.2.1 s.2.2 hb hr) FU _ _ hq11 ?_
      show Ev l D cy g K yX11_bill cX11_bill 4 (some .int) (rmd 6 0 0) (MX D cy g K (rmd 6 0 0) Φ) 0 0 M x (L q11.2) 69 [(0, vr g 0), (2, vi q11.1)] []
      refine ev_sub [0, 1] rfl ?_
      exact tX11_bill_j69 hS hc i0 q11.1 q11.2 hf hr
    · rw [if_neg h3] at hf
      refine ev_iconst dX11_bill_18 ?_
      obtain rfl := Option.some.inj hf
      exact ev_iret dX11_bill_19 rfl ⟨Nat.zero_le _, Nat.zero_le _⟩ hr
theorem tX11_bill (hS : Sd M K P L) (hc : CIn P 0 75) (i0 : Int) (μ : Mem) {o : Int × Mem} (hf : fX11_bill i0 μ = some o) : Cn l D cy g K K yX11_bill cX11_bill 4 (some .int) (rmd 6 0 0) [vr g 0, vi i0] M x (L μ) (PE (some (vi o.1)) M x (L o.2)) :=
 Cn.of (by decide) (Nat.le_of_ble_eq_true rfl) (eX11_bill hS hc i0 μ hf (PE_i _ _ _ _))
def fX11_leastWithout (many : Int) (μ : Mem) : Option (Int × Mem) :=
  lt (many - 1) fun v1 =>
  if w32 v1 < 0 then
    some (((-1), μ))
  else
    if w32 v1 < w32 5 then
      lt (65 + 2 * (w32 v1).toNat) fun r4 =>
      (fX8_learn r4 (μ 25 4) μ).bind fun μ5 =>
      gd (0 ≤ w32 v1 ∧ w32 v1 < 5) <|
      lt (65 + 2 * (w32 v1).toNat) fun r7 =>
      some (((fX11_at (r7 + 1) (μ5 41 1) μ5), μ5))
    else
      some (((-1), μ))
set_option maxRecDepth 4000 in
theorem eX11_leastWithout (hS : Sd M K P L) (hc : CIn P 0 75) (many : Int) (μ : Mem)  {o : Int × Mem} (hf : fX11_leastWithout many μ = some o) (hr : (fun o : Int × Mem => Φ (some (vi o.1)) M x (L o.2)) o) : Ev l D cy g K yX11_leastWithout cX11_leastWithout 3 (some .int) (rmd 6 0 0) (MX D cy g K (rmd 6 0 0) Φ) 0 0 M x (L μ) 0 [(0, vr g 0), (1, vi many)] [] := by
  unfold fX11_leastWithout at hf
  refine ev_iload_n dX11_leastWithout_0 1 rfl ?_
  refine ev_iconst dX11_leastWithout_1 ?_
  refine ev_isub dX11_leastWithout_2 ?_
  obtain ⟨v1, hv1, hf⟩ := lt_elim hf
  refine ev_rni hv1 ?_
  refine ev_istore_n (al2 := [(2, vi v1), (0, vr g 0), (1, vi many)]) dX11_leastWithout_3 2 rfl (by decide) rfl ?_
  refine ev_iload_n dX11_leastWithout_4 0 rfl ?_
  refine ev_if_lt 17 dX11_leastWithout_5 (by decide) (fun h2 => ?_) (fun h2 => ?_)
  · rw [if_pos h2] at hf
    refine ev_iconst dX11_leastWithout_17 ?_
    obtain rfl := Option.some.inj hf
    exact ev_iret dX11_leastWithout_18 rfl ⟨Nat.zero_le _, Nat.zero_le _⟩ hr
  · rw [if_neg h2] at hf
    refine ev_iload_n dX11_leastWithout_8 0 rfl ?_
    refine ev_aload_n dX11_leastWithout_9 1 rfl ?_
    refine ev_getK 13 dX11_leastWithout_10 (hS.lt (hc 0 rfl)) rfl (hS.K1 (hc 0 rfl) rfl) ciX11 (by decide) rfl flX11_82 ?_
    refine ev_alenS dX11_leastWithout_13 (hS.lt (hc 48 rfl)) rfl ?_
    refine ev_rn (w := vi 5) rfl ?_
    refine ev_icmp_lt 19 dX11_leastWithout_14 (by decide) (fun h3 => ?_) (fun h3 => ?_)
    · rw [if_pos h3] at hf
      refine ev_aload_n dX11_leastWithout_19 1 rfl ?_
      refine ev_getK 13 dX11_leastWithout_20 (hS.lt (hc 0 rfl)) rfl (hS.K1 (hc 0 rfl) rfl) ciX11 (by decide) rfl flX11_82 ?_
      refine ev_iload_n dX11_leastWithout_23 0 rfl ?_
      refine ev_aaldS (r := 65 + 2 * (w32 v1).toNat) dX11_leastWithout_24 (hS.lt (hc 48 rfl)) rfl ⟨by omega, by have h9 : w32 5 = 5 := (by decide); omega⟩ (hS.K1 (hc 48 rfl) (st_m ⟨by omega, by have h9 : w32 5 = 5 := (by decide); omega⟩).1) ?_
      obtain ⟨r4, hr4, hf⟩ := lt_elim hf
      refine ev_rn (congrArg (vr g) hr4) ?_
      have kr4 : isSt r4 := by rw [hr4]; exact (st_m ⟨by omega, by have h9 : w32 5 = 5 := (by decide); omega⟩).2
      refine ev_aload_n dX11_leastWithout_25 1 rfl ?_
      refine ev_getK 4 dX11_leastWithout_26 (hS.lt (hc 0 rfl)) rfl (hS.K1 (hc 0 rfl) rfl) ciX11 (by decide) rfl flX11_40 ?_
      refine cl_V1 (As := []) (st := [vr g r4]) miX7_goal (tX7_goal hS (hc.w rfl rfl) μ (o := (μ 25 4)) rfl) dX11_leastWithout_29 lkX11_208 inX7_goal rfl (hS.lt (hc 25 rfl)) rfl ⟨rfl, rfl⟩ ⟨⟨Nat.le_of_ble_eq_true rfl, Nat.le_of_ble_eq_true rfl⟩, Nat.zero_le _, Nat.zero_le _⟩ (Nat.le_of_ble_eq_true rfl) ?_
      obtain ⟨μ5, hμ5, hf⟩ := Option.bind_eq_some_iff.mp hf
      refine cl_V0 (As := [vi (μ 25 4)]) (st := []) miX8_learn (tX8_learn hS (hc.w rfl rfl) r4 (μ 25 4) μ kr4 hμ5) dX11_leastWithout_32 lkX11_372 inX8_learn rfl (hS.lt (hc _ (inR_w (i_St0 kr4) rfl rfl))) (s_St0 kr4) ⟨rfl, rfl⟩ ⟨⟨Nat.le_of_ble_eq_true rfl, Nat.le_of_ble_eq_true rfl⟩, Nat.zero_le _, Nat.zero_le _⟩ (Nat.le_of_ble_eq_true rfl) ?_
      refine ev_aload_n dX11_leastWithout_35 1 rfl ?_
      refine ev_getK 13 dX11_leastWithout_36 (hS.lt (hc 0 rfl)) rfl (hS.K1 (hc 0 rfl) rfl) ciX11 (by decide) rfl flX11_82 ?_
      refine ev_iload_n dX11_leastWithout_39 0 rfl ?_
      obtain ⟨g6, hf⟩ := gd_elim hf
      refine ev_aaldS (r := 65 + 2 * (w32 v1).toNat) dX11_leastWithout_40 (hS.lt (hc 48 rfl)) rfl g6 (hS.K1 (hc 48 rfl) (st_m g6).1) ?_
      obtain ⟨r7, hr7, hf⟩ := lt_elim hf
      refine ev_rn (congrArg (vr g) hr7) ?_
      have kr7 : isSt r7 := by rw [hr7]; exact (st_m g6).2
      refine ev_aload_n dX11_leastWithout_41 1 rfl ?_
      refine ev_getK 7 dX11_leastWithout_42 (hS.lt (hc 0 rfl)) rfl (hS.K1 (hc 0 rfl) rfl) ciX11 (by decide) rfl flX11_58 ?_
      refine cl_V1 (As := []) (st := [vr g r7]) miX5_stack (tX5_stack hS (hc.w rfl rfl) 41 μ5 (by simp [isMo]) (o := (μ5 41 1)) rfl) dX11_leastWithout_45 lkX11_167 inX5_stack rfl (hS.lt (hc 41 rfl)) rfl ⟨rfl, rfl⟩ ⟨⟨Nat.le_of_ble_eq_true rfl, Nat.le_of_ble_eq_true rfl⟩, Nat.zero_le _, Nat.zero_le _⟩ (Nat.le_of_ble_eq_true rfl) ?_
      refine cl_V1 (As := [vi (μ5 41 1)]) (st := []) miX8_turnsOf (tX8_turnsOf hS (hc.w rfl rfl) r7 (μ5 41 1) μ5 kr7 (o := (fX11_at (r7 + 1) (μ5 41 1) μ5)) rfl) dX11_leastWithout_48 lkX11_219 inX8_turnsOf rfl (hS.lt (hc _ (inR_w (i_St0 kr7) rfl rfl))) (s_St0 kr7) ⟨rfl, rfl⟩ ⟨⟨Nat.le_of_ble_eq_true rfl, Nat.le_of_ble_eq_true rfl⟩, Nat.zero_le _, Nat.zero_le _⟩ (Nat.le_of_ble_eq_true rfl) ?_
      obtain rfl := Option.some.inj hf
      exact ev_iret dX11_leastWithout_51 rfl ⟨Nat.zero_le _, Nat.zero_le _⟩ hr
    · rw [if_neg h3] at hf
      refine ev_iconst dX11_leastWithout_17 ?_
      obtain rfl := Option.some.inj hf
      exact ev_iret dX11_leastWithout_18 rfl ⟨Nat.zero_le _, Nat.zero_le _⟩ hr
theorem tX11_leastWithout (hS : Sd M K P L) (hc : CIn P 0 75) (many : Int) (μ : Mem) {o : Int × Mem} (hf : fX11_leastWithout many μ = some o) : Cn l D cy g K K yX11_leastWithout cX11_leastWithout 3 (some .int) (rmd 6 0 0) [vr g 0, vi many] M x (L μ) (PE (some (vi o.1)) M x (L o.2)) :=
 Cn.of (by decide) (Nat.le_of_ble_eq_true rfl) (eX11_leastWithout hS hc many μ hf (PE_i _ _ _ _))
def fX11_without (many : Int) (μ : Mem) : Option (Int × Mem) :=
  if (fX11_isTurn many μ) = true then
    (fX11_leastWithout many μ).bind fun q2 =>
    some ((q2.1, q2.2))
  else
    some (((-1), μ))
set_option maxRecDepth 4000 in
theorem eX11_without (hS : Sd M K P L) (hc : CIn P 0 75) (many : Int) (μ : Mem)  {o : Int × Mem} (hf : fX11_without many μ = some o) (hr : (fun o : Int × Mem => Φ (some (vi o.1)) M x (L o.2)) o) : Ev l D cy g K yX11_without cX11_without 2 (some .int) (rmd 7 0 0) (MX D cy g K (rmd 7 0 0) Φ) 0 0 M x (L μ) 0 [(0, vr g 0), (1, vi many)] [] := by
  unfold fX11_without at hf
  refine ev_aload_n dX11_without_0 0 rfl ?_
  refine ev_iload_n dX11_without_1 1 rfl ?_
  refine cl_V1 (As := [vi many]) (st := []) miX11_isTurn (tX11_isTurn hS (hc.w rfl rfl) many μ (o := (fX11_isTurn many μ)) rfl) dX11_without_2 lkX11_204 inX11_isTurn rfl (hS.lt (hc 0 rfl)) rfl ⟨rfl, rfl⟩ ⟨⟨Nat.le_of_ble_eq_true rfl, Nat.le_of_ble_eq_true rfl⟩, Nat.zero_le _, Nat.zero_le _⟩ (Nat.le_of_ble_eq_true rfl) ?_
  refine ev_ifb_eq 16 dX11_without_5 (by decide) (fun h1 => ?_) (fun h1 => ?_)
  · rw [if_neg h1] at hf
    refine ev_iconst dX11_without_16 ?_
    obtain rfl := Option.some.inj hf
    exact ev_iret dX11_without_17 rfl ⟨Nat.zero_le _, Nat.zero_le _⟩ hr
  · rw [if_pos h1] at hf
    refine ev_aload_n dX11_without_8 0 rfl ?_
    refine ev_iload_n dX11_without_9 1 rfl ?_
    obtain ⟨q2, hq2, hf⟩ := Option.bind_eq_some_iff.mp hf
    refine cl_V1 (As := [vi many]) (st := []) miX11_leastWithout (tX11_leastWithout hS (hc.w rfl rfl) many μ hq2) dX11_without_10 lkX11_234 inX11_leastWithout rfl (hS.lt (hc 0 rfl)) rfl ⟨rfl, rfl⟩ ⟨⟨Nat.le_of_ble_eq_true rfl, Nat.le_of_ble_eq_true rfl⟩, Nat.zero_le _, Nat.zero_le _⟩ (Nat.le_of_ble_eq_true rfl) ?_
    refine ev_goto 17 dX11_without_13 (by decide) ?_
    obtain rfl := Option.some.inj hf
    exact ev_iret dX11_without_17 rfl ⟨Nat.zero_le _, Nat.zero_le _⟩ hr
theorem tX11_without (hS : Sd M K P L) (hc : CIn P 0 75) (many : Int) (μ : Mem) {o : Int × Mem} (hf : fX11_without many μ = some o) : Cn l D cy g K K yX11_without cX11_without 2 (some .int) (rmd 7 0 0) [vr g 0, vi many] M x (L μ) (PE (some (vi o.1)) M x (L o.2)) :=
 Cn.of (by decide) (Nat.le_of_ble_eq_true rfl) (eX11_without hS hc many μ hf (PE_i _ _ _ _))
def fX11_needed_b24 (v3 : Int) (v4 : Int) (μ : Mem) : Option ((Int × Int × Mem) ⊕ (Int × Mem)) :=
  if w32 v4 ≤ w32 (μ 25 1) then
    (fX11_leastWithout v4 μ).bind fun q6 =>
    if w32 q6.1 = w32 (-1) then
      lt (i_or v3 (i_shl 1 (v4 - 1))) fun v8 =>
      some (.inl (v8, (v4 + 1), q6.2))
    else
      some (.inl (v3, (v4 + 1), q6.2))
  else
    some (.inr (v3, μ))
set_option maxRecDepth 4000 in
theorem tX11_needed_b24 (hS : Sd M K P L) (hc : CIn P 0 75) (v3 : Int) (v4 : Int) (μ : Mem)  {o : (Int × Int × Mem) ⊕ (Int × Mem)} (hf : fX11_needed_b24 v3 v4 μ = some o) (hr : (Sum.elim (fun s : Int × Int × Mem => Ev l D cy g K yX11_needed cX11_needed 3 (some .int) (rmd 7 0 0) (MX D cy g K (rmd 7 0 0) Φ) 0 0 M x (L s.2.2) 24 [(0, vr g 0), (1, vi s.1), (2, vi s.2.1)] []) (fun e : Int × Mem => Ev l D cy g K yX11_needed cX11_needed 3 (some .int) (rmd 7 0 0) (MX D cy g K (rmd 7 0 0) Φ) 0 0 M x (L e.2) 58 [(1, vi e.1)] [])) o) : Ev l D cy g K yX11_needed cX11_needed 3 (some .int) (rmd 7 0 0) (MX D cy g K (rmd 7 0 0) Φ) 0 0 M x (L μ) 24 [(0, vr g 0), (1, vi v3), (2, vi v4)] [] := by
  unfold fX11_needed_b24 at hf
  refine ev_iload_n dX11_needed_24 2 rfl ?_
  refine ev_aload_n dX11_needed_25 0 rfl ?_
  refine ev_getK 4 dX11_needed_26 (hS.lt (hc 0 rfl)) rfl (hS.K1 (hc 0 rfl) rfl) ciX11 (by decide) rfl flX11_40 ?_
  refine cl_V1 (As := []) (st := [vi v4]) miX7_cakes (tX7_cakes hS (hc.w rfl rfl) μ (o := (μ 25 1)) rfl) dX11_needed_29 lkX11_133 inX7_cakes rfl (hS.lt (hc 25 rfl)) rfl ⟨rfl, rfl⟩ ⟨⟨Nat.le_of_ble_eq_true rfl, Nat.le_of_ble_eq_true rfl⟩, Nat.zero_le _, Nat.zero_le _⟩ (Nat.le_of_ble_eq_true rfl) ?_
  refine ev_icmp_gt 58 dX11_needed_32 (by decide) (fun h5 => ?_) (fun h5 => ?_)
  · rw [if_neg h5] at hf
    obtain rfl := Option.some.inj hf
    refine ev_sub [1] rfl ?_
    exact hr
  · rw [if_pos h5] at hf
    refine ev_aload_n dX11_needed_35 0 rfl ?_
    refine ev_iload_n dX11_needed_36 2 rfl ?_
    obtain ⟨q6, hq6, hf⟩ := Option.bind_eq_some_iff.mp hf
    refine cl_V1 (As := [vi v4]) (st := []) miX11_leastWithout (tX11_leastWithout hS (hc.w rfl rfl) v4 μ hq6) dX11_needed_37 lkX11_234 inX11_leastWithout rfl (hS.lt (hc 0 rfl)) rfl ⟨rfl, rfl⟩ ⟨⟨Nat.le_of_ble_eq_true rfl, Nat.le_of_ble_eq_true rfl⟩, Nat.zero_le _, Nat.zero_le _⟩ (Nat.le_of_ble_eq_true rfl) ?_
    refine ev_iconst dX11_needed_40 ?_
    refine ev_icmp_ne 52 dX11_needed_41 (by decide) (fun h7 => ?_) (fun h7 => ?_)
    · rw [if_neg h7] at hf
      refine ev_iinc (al2 := [(2, vi (v4 + 1)), (0, vr g 0), (1, vi v3)]) dX11_needed_52 2 rfl (by decide) rfl ?_
      refine ev_goto 24 dX11_needed_55 (by decide) ?_
      obtain rfl := Option.some.inj hf
      refine ev_sub [1, 2, 0] rfl ?_
      exact hr
    · rw [if_pos h7] at hf
      refine ev_iload_n dX11_needed_44 1 rfl ?_
      refine ev_iconst dX11_needed_45 ?_
      refine ev_iload_n dX11_needed_46 2 rfl ?_
      refine ev_iconst dX11_needed_47 ?_
      refine ev_isub dX11_needed_48 ?_
      refine ev_ishl dX11_needed_49 ?_
      refine ev_ior dX11_needed_50 ?_
      obtain ⟨v8, hv8, hf⟩ := lt_elim hf
      refine ev_rni hv8 ?_
      refine ev_istore_n (al2 := [(1, vi v8), (0, vr g 0), (2, vi v4)]) dX11_needed_51 1 rfl (by decide) rfl ?_
      refine ev_iinc (al2 := [(2, vi (v4 + 1)), (1, vi v8), (0, vr g 0)]) dX11_needed_52 2 rfl (by decide) rfl ?_
      refine ev_goto 24 dX11_needed_55 (by decide) ?_
      obtain rfl := Option.some.inj hf
      refine ev_sub [2, 1, 0] rfl ?_
      exact hr
def fX11_needed  (μ : Mem) : Option (Int × Mem) :=
  (fX11_servedSteps μ).bind fun μ1 =>
  if w32 (fX11_at (46 + 1) (μ1 41 1) μ1) = w32 (-1) then
    some (((-1), μ1))
  else
    (loopN (fun s => fX11_needed_b24 s.1 s.2.1 s.2.2) FU (0, 1, μ1)).bind fun q9 =>
    some ((q9.1, q9.2))
set_option maxRecDepth 4000 in
theorem eX11_needed (hS : Sd M K P L) (hc : CIn P 0 75)  (μ : Mem)  {o : Int × Mem} (hf : fX11_needed  μ = some o) (hr : (fun o : Int × Mem => Φ (some (vi o.1)) M x (L o.2)) o) : Ev l D cy g K yX11_needed cX11_needed 3 (some .int) (rmd 7 0 0) (MX D cy g K (rmd 7 0 0) Φ) 0 0 M x (L μ) 0 [(0, vr g 0)] [] := by
  unfold fX11_needed at hf
  refine ev_aload_n dX11_needed_0 0 rfl ?_
  obtain ⟨μ1, hμ1, hf⟩ := Option.bind_eq_some_iff.mp hf
  refine cl_V1 (As := []) (st := []) miX11_servedSteps (tX11_servedSteps hS (hc.w rfl rfl) μ hμ1) dX11_needed_1 lkX11_215 inX11_servedSteps rfl (hS.lt (hc 0 rfl)) rfl ⟨rfl, rfl⟩ ⟨⟨Nat.le_of_ble_eq_true rfl, Nat.le_of_ble_eq_true rfl⟩, Nat.zero_le _, Nat.zero_le _⟩ (Nat.le_of_ble_eq_true rfl) ?_
  refine ev_aload_n dX11_needed_4 0 rfl ?_
  refine ev_getK 7 dX11_needed_5 (hS.lt (hc 0 rfl)) rfl (hS.K1 (hc 0 rfl) rfl) ciX11 (by decide) rfl flX11_58 ?_
  refine cl_V1 (As := []) (st := [vr g 46]) miX5_stack (tX5_stack hS (hc.w rfl rfl) 41 μ1 (by simp [isMo]) (o := (μ1 41 1)) rfl) dX11_needed_8 lkX11_167 inX5_stack rfl (hS.lt (hc 41 rfl)) rfl ⟨rfl, rfl⟩ ⟨⟨Nat.le_of_ble_eq_true rfl, Nat.le_of_ble_eq_true rfl⟩, Nat.zero_le _, Nat.zero_le _⟩ (Nat.le_of_ble_eq_true rfl) ?_
  refine cl_V1 (As := [vi (μ1 41 1)]) (st := []) miX8_turnsOf (tX8_turnsOf hS (hc.w rfl rfl) 46 (μ1 41 1) μ1 (by simp [isSt]) (o := (fX11_at (46 + 1) (μ1 41 1) μ1)) rfl) dX11_needed_11 lkX11_219 inX8_turnsOf rfl (hS.lt (hc 46 rfl)) rfl ⟨rfl, rfl⟩ ⟨⟨Nat.le_of_ble_eq_true rfl, Nat.le_of_ble_eq_true rfl⟩, Nat.zero_le _, Nat.zero_le _⟩ (Nat.le_of_ble_eq_true rfl) ?_
  refine ev_iconst dX11_needed_14 ?_
  refine ev_icmp_ne 20 dX11_needed_15 (by decide) (fun h2 => ?_) (fun h2 => ?_)
  · rw [if_neg h2] at hf
    refine ev_iconst dX11_needed_20 ?_
    refine ev_istore_n (al2 := [(1, vi 0), (0, vr g 0)]) dX11_needed_21 1 rfl (by decide) rfl ?_
    refine ev_iconst dX11_needed_22 ?_
    refine ev_istore_n (al2 := [(2, vi 1), (1, vi 0), (0, vr g 0)]) dX11_needed_23 2 rfl (by decide) rfl ?_
    obtain ⟨q9, hq9, hf⟩ := Option.bind_eq_some_iff.mp hf
    refine ev_sub [2, 1, 0] rfl ?_
    refine loop_ev (H := (fun s : Int × Int × Mem => Ev l D cy g K yX11_needed cX11_needed 3 (some .int) (rmd 7 0 0) (MX D cy g K (rmd 7 0 0) Φ) 0 0 M x (L s.2.2) 24 [(0, vr g 0), (1, vi s.1), (2, vi s.2.1)] [])) (Hx := (fun e : Int × Mem => Ev l D cy g K yX11_needed cX11_needed 3 (some .int) (rmd 7 0 0) (MX D cy g K (rmd 7 0 0) Φ) 0 0 M x (L e.2) 58 [(1, vi e.1)] [])) (fun s o hb hr => tX11_needed_b24 hS hc s.1 s.2.1 s.2.2 hb hr) FU _ _ hq9 ?_
    show Ev l D cy g K yX11_needed cX11_needed 3 (some .int) (rmd 7 0 0) (MX D cy g K (rmd 7 0 0) Φ) 0 0 M x (L q9.2) 58 [(1, vi q9.1)] []
    refine ev_iload_n dX11_needed_58 0 rfl ?_
    obtain rfl := Option.some.inj hf
    exact ev_iret dX11_needed_59 rfl ⟨Nat.zero_le _, Nat.zero_le _⟩ hr
  · rw [if_pos h2] at hf
    refine ev_iconst dX11_needed_18 ?_
    obtain rfl := Option.some.inj hf
    exact ev_iret dX11_needed_19 rfl ⟨Nat.zero_le _, Nat.zero_le _⟩ hr
theorem tX11_needed (hS : Sd M K P L) (hc : CIn P 0 75) (μ : Mem) {o : Int × Mem} (hf : fX11_needed μ = some o) : Cn l D cy g K K yX11_needed cX11_needed 3 (some .int) (rmd 7 0 0) [vr g 0] M x (L μ) (PE (some (vi o.1)) M x (L o.2)) :=
 Cn.of (by decide) (Nat.le_of_ble_eq_true rfl) (eX11_needed hS hc μ hf (PE_i _ _ _ _))
def fX11_wishSteps  (μ : Mem) : Option (Mem) :=
  (fX8_learn 49 (μ 0 6) μ).bind fun μ1 =>
  some (μ1)
set_option maxRecDepth 4000 in
theorem eX11_wishSteps (hS : Sd M K P L) (hc : CIn P 0 75)  (μ : Mem)  {o : Mem} (hf : fX11_wishSteps  μ = some o) (hr : (fun o : Mem => Φ (some (vr g 49)) M x (L o)) o) : Ev l D cy g K yX11_wishSteps cX11_wishSteps 1 (some (.object "HotCakes$Steps")) (rmd 6 0 0) (MX D cy g K (rmd 6 0 0) Φ) 0 0 M x (L μ) 0 [(0, vr g 0)] [] := by
  unfold fX11_wishSteps at hf
  refine ev_aload_n dX11_wishSteps_0 0 rfl ?_
  refine ev_getK 14 dX11_wishSteps_1 (hS.lt (hc 0 rfl)) rfl (hS.K1 (hc 0 rfl) rfl) ciX11 (by decide) rfl flX11_86 ?_
  refine ev_aload_n dX11_wishSteps_4 0 rfl ?_
  refine ev_getI 6 dX11_wishSteps_5 (hS.lt (hc 0 rfl)) rfl (hS.mem _ (hc 0 rfl)) ciX11 (by decide) rfl flX11_51 ?_
  obtain ⟨μ1, hμ1, hf⟩ := Option.bind_eq_some_iff.mp hf
  refine cl_V0 (As := [vi (μ 0 6)]) (st := []) miX8_learn (tX8_learn hS (hc.w rfl rfl) 49 (μ 0 6) μ (by simp [isSt]) hμ1) dX11_wishSteps_8 lkX11_372 inX8_learn rfl (hS.lt (hc 49 rfl)) rfl ⟨rfl, rfl⟩ ⟨⟨Nat.le_of_ble_eq_true rfl, Nat.le_of_ble_eq_true rfl⟩, Nat.zero_le _, Nat.zero_le _⟩ (Nat.le_of_ble_eq_true rfl) ?_
  refine ev_aload_n dX11_wishSteps_11 0 rfl ?_
  refine ev_getK 14 dX11_wishSteps_12 (hS.lt (hc 0 rfl)) rfl (hS.K1 (hc 0 rfl) rfl) ciX11 (by decide) rfl flX11_86 ?_
  obtain rfl := Option.some.inj hf
  exact ev_aret dX11_wishSteps_15 rfl (by first | exact Or.inl ⟨_, rfl⟩ | exact Or.inr ⟨_, rfl⟩) ⟨Nat.zero_le _, Nat.zero_le _⟩ hr
theorem tX11_wishSteps (hS : Sd M K P L) (hc : CIn P 0 75) (μ : Mem) {o : Mem} (hf : fX11_wishSteps μ = some o) : Cn l D cy g K K yX11_wishSteps cX11_wishSteps 1 (some (.object "HotCakes$Steps")) (rmd 6 0 0) [vr g 0] M x (L μ) (PE (some (vr g 49)) M x (L o)) :=
 Cn.of (by decide) (Nat.le_of_ble_eq_true rfl) (eX11_wishSteps hS hc μ hf (PE_i _ _ _ _))
def fX11_far  (μ : Mem) : Option (Int × Mem) :=
  (fX11_wishSteps μ).bind fun μ1 =>
  some (((fX11_at (49 + 1) (μ1 41 1) μ1), μ1))
set_option maxRecDepth 4000 in
theorem eX11_far (hS : Sd M K P L) (hc : CIn P 0 75)  (μ : Mem)  {o : Int × Mem} (hf : fX11_far  μ = some o) (hr : (fun o : Int × Mem => Φ (some (vi o.1)) M x (L o.2)) o) : Ev l D cy g K yX11_far cX11_far 1 (some .int) (rmd 7 0 0) (MX D cy g K (rmd 7 0 0) Φ) 0 0 M x (L μ) 0 [(0, vr g 0)] [] := by
  unfold fX11_far at hf
  refine ev_aload_n dX11_far_0 0 rfl ?_
  obtain ⟨μ1, hμ1, hf⟩ := Option.bind_eq_some_iff.mp hf
  refine cl_V1 (As := []) (st := []) miX11_wishSteps (tX11_wishSteps hS (hc.w rfl rfl) μ hμ1) dX11_far_1 lkX11_237 inX11_wishSteps rfl (hS.lt (hc 0 rfl)) rfl ⟨rfl, rfl⟩ ⟨⟨Nat.le_of_ble_eq_true rfl, Nat.le_of_ble_eq_true rfl⟩, Nat.zero_le _, Nat.zero_le _⟩ (Nat.le_of_ble_eq_true rfl) ?_
  refine ev_aload_n dX11_far_4 0 rfl ?_
  refine ev_getK 7 dX11_far_5 (hS.lt (hc 0 rfl)) rfl (hS.K1 (hc 0 rfl) rfl) ciX11 (by decide) rfl flX11_58 ?_
  refine cl_V1 (As := []) (st := [vr g 49]) miX5_stack (tX5_stack hS (hc.w rfl rfl) 41 μ1 (by simp [isMo]) (o := (μ1 41 1)) rfl) dX11_far_8 lkX11_167 inX5_stack rfl (hS.lt (hc 41 rfl)) rfl ⟨rfl, rfl⟩ ⟨⟨Nat.le_of_ble_eq_true rfl, Nat.le_of_ble_eq_true rfl⟩, Nat.zero_le _, Nat.zero_le _⟩ (Nat.le_of_ble_eq_true rfl) ?_
  refine cl_V1 (As := [vi (μ1 41 1)]) (st := []) miX8_turnsOf (tX8_turnsOf hS (hc.w rfl rfl) 49 (μ1 41 1) μ1 (by simp [isSt]) (o := (fX11_at (49 + 1) (μ1 41 1) μ1)) rfl) dX11_far_11 lkX11_219 inX8_turnsOf rfl (hS.lt (hc 49 rfl)) rfl ⟨rfl, rfl⟩ ⟨⟨Nat.le_of_ble_eq_true rfl, Nat.le_of_ble_eq_true rfl⟩, Nat.zero_le _, Nat.zero_le _⟩ (Nat.le_of_ble_eq_true rfl) ?_
  obtain rfl := Option.some.inj hf
  exact ev_iret dX11_far_14 rfl ⟨Nat.zero_le _, Nat.zero_le _⟩ hr
theorem tX11_far (hS : Sd M K P L) (hc : CIn P 0 75) (μ : Mem) {o : Int × Mem} (hf : fX11_far μ = some o) : Cn l D cy g K K yX11_far cX11_far 1 (some .int) (rmd 7 0 0) [vr g 0] M x (L μ) (PE (some (vi o.1)) M x (L o.2)) :=
 Cn.of (by decide) (Nat.le_of_ble_eq_true rfl) (eX11_far hS hc μ hf (PE_i _ _ _ _))
def fX11_toward  (μ : Mem) : Option (Int × Mem) :=
  (fX11_wishSteps μ).bind fun μ1 =>
  (fX8_firstTurn 49 (μ1 41 1) μ1).bind fun v2 =>
  some ((v2, μ1))
set_option maxRecDepth 4000 in
theorem eX11_toward (hS : Sd M K P L) (hc : CIn P 0 75)  (μ : Mem)  {o : Int × Mem} (hf : fX11_toward  μ = some o) (hr : (fun o : Int × Mem => Φ (some (vi o.1)) M x (L o.2)) o) : Ev l D cy g K yX11_toward cX11_toward 1 (some .int) (rmd 7 0 0) (MX D cy g K (rmd 7 0 0) Φ) 0 0 M x (L μ) 0 [(0, vr g 0)] [] := by
  unfold fX11_toward at hf
  refine ev_aload_n dX11_toward_0 0 rfl ?_
  obtain ⟨μ1, hμ1, hf⟩ := Option.bind_eq_some_iff.mp hf
  refine cl_V1 (As := []) (st := []) miX11_wishSteps (tX11_wishSteps hS (hc.w rfl rfl) μ hμ1) dX11_toward_1 lkX11_237 inX11_wishSteps rfl (hS.lt (hc 0 rfl)) rfl ⟨rfl, rfl⟩ ⟨⟨Nat.le_of_ble_eq_true rfl, Nat.le_of_ble_eq_true rfl⟩, Nat.zero_le _, Nat.zero_le _⟩ (Nat.le_of_ble_eq_true rfl) ?_
  refine ev_aload_n dX11_toward_4 0 rfl ?_
  refine ev_getK 7 dX11_toward_5 (hS.lt (hc 0 rfl)) rfl (hS.K1 (hc 0 rfl) rfl) ciX11 (by decide) rfl flX11_58 ?_
  refine cl_V1 (As := []) (st := [vr g 49]) miX5_stack (tX5_stack hS (hc.w rfl rfl) 41 μ1 (by simp [isMo]) (o := (μ1 41 1)) rfl) dX11_toward_8 lkX11_167 inX5_stack rfl (hS.lt (hc 41 rfl)) rfl ⟨rfl, rfl⟩ ⟨⟨Nat.le_of_ble_eq_true rfl, Nat.le_of_ble_eq_true rfl⟩, Nat.zero_le _, Nat.zero_le _⟩ (Nat.le_of_ble_eq_true rfl) ?_
  obtain ⟨v2, hv2, hf⟩ := Option.bind_eq_some_iff.mp hf
  refine cl_V1 (As := [vi (μ1 41 1)]) (st := []) miX8_firstTurn (tX8_firstTurn hS (hc.w rfl rfl) 49 (μ1 41 1) μ1 (by simp [isSt]) hv2) dX11_toward_11 lkX11_222 inX8_firstTurn rfl (hS.lt (hc 49 rfl)) rfl ⟨rfl, rfl⟩ ⟨⟨Nat.le_of_ble_eq_true rfl, Nat.le_of_ble_eq_true rfl⟩, Nat.zero_le _, Nat.zero_le _⟩ (Nat.le_of_ble_eq_true rfl) ?_
  obtain rfl := Option.some.inj hf
  exact ev_iret dX11_toward_14 rfl ⟨Nat.zero_le _, Nat.zero_le _⟩ hr
theorem tX11_toward (hS : Sd M K P L) (hc : CIn P 0 75) (μ : Mem) {o : Int × Mem} (hf : fX11_toward μ = some o) : Cn l D cy g K K yX11_toward cX11_toward 1 (some .int) (rmd 7 0 0) [vr g 0] M x (L μ) (PE (some (vi o.1)) M x (L o.2)) :=
 Cn.of (by decide) (Nat.le_of_ble_eq_true rfl) (eX11_toward hS hc μ hf (PE_i _ _ _ _))
def fX8_stacksAt_b4 (k : Nat) (asked : Int) (v1 : Int) (v2 : Int) (μ : Mem) : Option ((Int × Int) ⊕ (Int)) :=
  if w32 v2 < w32 (i_shl (μ 25 3) (μ 25 2)) then
    lt (if w32 (fX11_at (k + 1) v2 μ) = w32 asked then
        1
      else
        0) fun v4 =>
    lt (v1 + v4) fun v6 =>
    some (.inl (v6, (v2 + 1)))
  else
    some (.inr v1)
set_option maxRecDepth 4000 in
theorem tX8_stacksAt_b4 (hS : Sd M K P L) (hc : CIn P 1 75) (k : Nat) (asked : Int) (v1 : Int) (v2 : Int) (μ : Mem) (hk : isSt k) {o : (Int × Int) ⊕ (Int)} (hf : fX8_stacksAt_b4 k asked v1 v2 μ = some o) (hr : (Sum.elim (fun s : Int × Int => Ev l D cy g K yX8_stacksAt cX8_stacksAt 4 (some .int) (rmd 2 0 0) (MX D cy g K (rmd 2 0 0) Φ) 0 0 M x (L μ) 4 [(0, vr g k), (1, vi asked), (2, vi s.1), (3, vi s.2)] []) (fun e : Int => Ev l D cy g K yX8_stacksAt cX8_stacksAt 4 (some .int) (rmd 2 0 0) (MX D cy g K (rmd 2 0 0) Φ) 0 0 M x (L μ) 41 [(2, vi e)] [])) o) : Ev l D cy g K yX8_stacksAt cX8_stacksAt 4 (some .int) (rmd 2 0 0) (MX D cy g K (rmd 2 0 0) Φ) 0 0 M x (L μ) 4 [(0, vr g k), (1, vi asked), (2, vi v1), (3, vi v2)] [] := by
  unfold fX8_stacksAt_b4 at hf
  refine ev_iload_n dX8_stacksAt_4 3 rfl ?_
  refine ev_aload_n dX8_stacksAt_5 0 rfl ?_
  refine ev_getK 0 dX8_stacksAt_6 (hS.lt (hc _ (inR_w (i_St0 hk) rfl rfl))) (s_St0 hk) (hS.K1 (hc _ (inR_w (i_St0 hk) rfl rfl)) (K_St0 hk)) ciX8 (by decide) rfl flX8_19 ?_
  refine cl_V1 (As := []) (st := [vi v2]) miX7_all (tX7_all hS (hc.w rfl rfl) μ (o := (i_shl (μ 25 3) (μ 25 2))) rfl) dX8_stacksAt_9 lkX8_39 inX7_all rfl (hS.lt (hc 25 rfl)) rfl ⟨rfl, rfl⟩ ⟨⟨Nat.le_of_ble_eq_true rfl, Nat.le_of_ble_eq_true rfl⟩, Nat.zero_le _, Nat.zero_le _⟩ (Nat.le_of_ble_eq_true rfl) ?_
  refine ev_icmp_ge 41 dX8_stacksAt_12 (by decide) (fun h3 => ?_) (fun h3 => ?_)
  · rw [if_neg h3] at hf
    obtain rfl := Option.some.inj hf
    refine ev_sub [2] rfl ?_
    exact hr
  · rw [if_pos h3] at hf
    refine ev_iload_n dX8_stacksAt_15 2 rfl ?_
    refine ev_aload_n dX8_stacksAt_16 0 rfl ?_
    refine ev_getK 3 dX8_stacksAt_17 (hS.lt (hc _ (inR_w (i_St0 hk) rfl rfl))) (s_St0 hk) (hS.K1 (hc _ (inR_w (i_St0 hk) rfl rfl)) (K_St3 hk)) ciX8 (by decide) rfl flX8_9 ?_
    refine ev_iload_n dX8_stacksAt_20 3 rfl ?_
    refine cl_N1 (As := [vr g (k + 1), vi v2]) (st := [vi v1]) (host := "HotCakes") miX11_at (tX11_at hS (hc.w rfl rfl) (k + 1) v2 μ (⟨(hc _ (inR_w (i_St1 hk) rfl rfl)), (ia_of (s_St1 hk))⟩) (o := (fX11_at (k + 1) v2 μ)) rfl) dX8_stacksAt_21 (by decide) stX11_at rfl ⟨⟨Nat.le_of_ble_eq_true rfl, Nat.le_of_ble_eq_true rfl⟩, Nat.zero_le _, Nat.zero_le _⟩ (Nat.le_of_ble_eq_true rfl) ?_
    refine ev_iload_n dX8_stacksAt_24 1 rfl ?_
    obtain ⟨v4, hv4, hf⟩ := lt_elim hf
    have hJv4 : Ev l D cy g K yX8_stacksAt cX8_stacksAt 4 (some .int) (rmd 2 0 0) (MX D cy g K (rmd 2 0 0) Φ) 0 0 M x (L μ) 33 [(0, vr g k), (1, vi asked), (2, vi v1), (3, vi v2)] [vi v4, vi v1] := by
      refine ev_iadd dX8_stacksAt_33 ?_
      obtain ⟨v6, hv6, hf⟩ := lt_elim hf
      refine ev_rni hv6 ?_
      refine ev_istore_n (al2 := [(2, vi v6), (0, vr g k), (1, vi asked), (3, vi v2)]) dX8_stacksAt_34 2 rfl (by decide) rfl ?_
      refine ev_iinc (al2 := [(3, vi (v2 + 1)), (2, vi v6), (0, vr g k), (1, vi asked)]) dX8_stacksAt_35 3 rfl (by decide) rfl ?_
      refine ev_goto 4 dX8_stacksAt_38 (by decide) ?_
      obtain rfl := Option.some.inj hf
      refine ev_sub [2, 3, 1, 0] rfl ?_
      exact hr
    refine ev_icmp_ne 32 dX8_stacksAt_25 (by decide) (fun h5 => ?_) (fun h5 => ?_)
    · refine ev_iconst dX8_stacksAt_32 ?_
      have e9 : v4 = 0 := hv4.trans ((if_neg h5))
      subst e9
      exact hJv4
    · refine ev_iconst dX8_stacksAt_28 ?_
      refine ev_goto 33 dX8_stacksAt_29 (by decide) ?_
      have e9 : v4 = 1 := hv4.trans ((if_pos h5))
      subst e9
      exact hJv4
def fX8_stacksAt (k : Nat) (asked : Int) (μ : Mem) : Option (Int) :=
  (loopN (fun s => fX8_stacksAt_b4 k asked s.1 s.2 μ) FU (0, 0)).bind fun q7 =>
  some (q7)
set_option maxRecDepth 4000 in
theorem eX8_stacksAt (hS : Sd M K P L) (hc : CIn P 1 75) (k : Nat) (asked : Int) (μ : Mem) (hk : isSt k) {o : Int} (hf : fX8_stacksAt k asked μ = some o) (hr : (fun o : Int => Φ (some (vi o)) M x (L μ)) o) : Ev l D cy g K yX8_stacksAt cX8_stacksAt 4 (some .int) (rmd 2 0 0) (MX D cy g K (rmd 2 0 0) Φ) 0 0 M x (L μ) 0 [(0, vr g k), (1, vi asked)] [] := by
  unfold fX8_stacksAt at hf
  refine ev_iconst dX8_stacksAt_0 ?_
  refine ev_istore_n (al2 := [(2, vi 0), (0, vr g k), (1, vi asked)]) dX8_stacksAt_1 2 rfl (by decide) rfl ?_
  refine ev_iconst dX8_stacksAt_2 ?_
  refine ev_istore_n (al2 := [(3, vi 0), (2, vi 0), (0, vr g k), (1, vi asked)]) dX8_stacksAt_3 3 rfl (by decide) rfl ?_
  obtain ⟨q7, hq7, hf⟩ := Option.bind_eq_some_iff.mp hf
  refine ev_sub [2, 3, 1, 0] rfl ?_
  refine loop_ev (H := (fun s : Int × Int => Ev l D cy g K yX8_stacksAt cX8_stacksAt 4 (some .int) (rmd 2 0 0) (MX D cy g K (rmd 2 0 0) Φ) 0 0 M x (L μ) 4 [(0, vr g k), (1, vi asked), (2, vi s.1), (3, vi s.2)] [])) (Hx := (fun e : Int => Ev l D cy g K yX8_stacksAt cX8_stacksAt 4 (some .int) (rmd 2 0 0) (MX D cy g K (rmd 2 0 0) Φ) 0 0 M x (L μ) 41 [(2, vi e)] [])) (fun s o hb hr => tX8_stacksAt_b4 hS hc k asked s.1 s.2 μ hk hb hr) FU _ _ hq7 ?_
  show Ev l D cy g K yX8_stacksAt cX8_stacksAt 4 (some .int) (rmd 2 0 0) (MX D cy g K (rmd 2 0 0) Φ) 0 0 M x (L μ) 41 [(2, vi q7)] []
  refine ev_iload_n dX8_stacksAt_41 0 rfl ?_
  obtain rfl := Option.some.inj hf
  exact ev_iret dX8_stacksAt_42 rfl ⟨Nat.zero_le _, Nat.zero_le _⟩ hr
theorem tX8_stacksAt (hS : Sd M K P L) (hc : CIn P 1 75) (k : Nat) (asked : Int) (μ : Mem) (hk : isSt k) {o : Int} (hf : fX8_stacksAt k asked μ = some o) : Cn l D cy g K K yX8_stacksAt cX8_stacksAt 4 (some .int) (rmd 2 0 0) [vr g k, vi asked] M x (L μ) (PE (some (vi o)) M x (L μ)) :=
 Cn.of (by decide) (Nat.le_of_ble_eq_true rfl) (eX8_stacksAt hS hc k asked μ hk hf (PE_i _ _ _ _))
def fX11_never  (μ : Mem) : Option (Int × Mem) :=
  (fX11_servedSteps μ).bind fun μ1 =>
  (fX8_stacksAt 46 (-1) μ1).bind fun v2 =>
  some ((v2, μ1))
set_option maxRecDepth 4000 in
theorem eX11_never (hS : Sd M K P L) (hc : CIn P 0 75)  (μ : Mem)  {o : Int × Mem} (hf : fX11_never  μ = some o) (hr : (fun o : Int × Mem => Φ (some (vi o.1)) M x (L o.2)) o) : Ev l D cy g K yX11_never cX11_never 1 (some .int) (rmd 7 0 0) (MX D cy g K (rmd 7 0 0) Φ) 0 0 M x (L μ) 0 [(0, vr g 0)] [] := by
  unfold fX11_never at hf
  refine ev_aload_n dX11_never_0 0 rfl ?_
  obtain ⟨μ1, hμ1, hf⟩ := Option.bind_eq_some_iff.mp hf
  refine cl_V1 (As := []) (st := []) miX11_servedSteps (tX11_servedSteps hS (hc.w rfl rfl) μ hμ1) dX11_never_1 lkX11_215 inX11_servedSteps rfl (hS.lt (hc 0 rfl)) rfl ⟨rfl, rfl⟩ ⟨⟨Nat.le_of_ble_eq_true rfl, Nat.le_of_ble_eq_true rfl⟩, Nat.zero_le _, Nat.zero_le _⟩ (Nat.le_of_ble_eq_true rfl) ?_
  refine ev_iconst dX11_never_4 ?_
  obtain ⟨v2, hv2, hf⟩ := Option.bind_eq_some_iff.mp hf
  refine cl_V1 (As := [vi (-1)]) (st := []) miX8_stacksAt (tX8_stacksAt hS (hc.w rfl rfl) 46 (-1) μ1 (by simp [isSt]) hv2) dX11_never_5 lkX11_240 inX8_stacksAt rfl (hS.lt (hc 46 rfl)) rfl ⟨rfl, rfl⟩ ⟨⟨Nat.le_of_ble_eq_true rfl, Nat.le_of_ble_eq_true rfl⟩, Nat.zero_le _, Nat.zero_le _⟩ (Nat.le_of_ble_eq_true rfl) ?_
  obtain rfl := Option.some.inj hf
  exact ev_iret dX11_never_8 rfl ⟨Nat.zero_le _, Nat.zero_le _⟩ hr
theorem tX11_never (hS : Sd M K P L) (hc : CIn P 0 75) (μ : Mem) {o : Int × Mem} (hf : fX11_never μ = some o) : Cn l D cy g K K yX11_never cX11_never 1 (some .int) (rmd 7 0 0) [vr g 0] M x (L μ) (PE (some (vi o.1)) M x (L o.2)) :=
 Cn.of (by decide) (Nat.le_of_ble_eq_true rfl) (eX11_never hS hc μ hf (PE_i _ _ _ _))
def fX8_most_b4 (k : Nat) (v1 : Int) (v2 : Int) (μ : Mem) : Option ((Int × Int) ⊕ (Int)) :=
  if w32 v2 < w32 (i_shl (μ 25 3) (μ 25 2)) then
    lt (imax v1 (fX11_at (k + 1) v2 μ)) fun v4 =>
    some (.inl (v4, (v2 + 1)))
  else
    some (.inr v1)
set_option maxRecDepth 4000 in
theorem tX8_most_b4 (hS : Sd M K P L) (hc : CIn P 1 75) (k : Nat) (v1 : Int) (v2 : Int) (μ : Mem) (hk : isSt k) {o : (Int × Int) ⊕ (Int)} (hf : fX8_most_b4 k v1 v2 μ = some o) (hr : (Sum.elim (fun s : Int × Int => Ev l D cy g K yX8_most cX8_most 3 (some .int) (rmd 2 0 0) (MX D cy g K (rmd 2 0 0) Φ) 0 0 M x (L μ) 4 [(0, vr g k), (1, vi s.1), (2, vi s.2)] []) (fun e : Int => Ev l D cy g K yX8_most cX8_most 3 (some .int) (rmd 2 0 0) (MX D cy g K (rmd 2 0 0) Φ) 0 0 M x (L μ) 34 [(1, vi e)] [])) o) : Ev l D cy g K yX8_most cX8_most 3 (some .int) (rmd 2 0 0) (MX D cy g K (rmd 2 0 0) Φ) 0 0 M x (L μ) 4 [(0, vr g k), (1, vi v1), (2, vi v2)] [] := by
  unfold fX8_most_b4 at hf
  refine ev_iload_n dX8_most_4 2 rfl ?_
  refine ev_aload_n dX8_most_5 0 rfl ?_
  refine ev_getK 0 dX8_most_6 (hS.lt (hc _ (inR_w (i_St0 hk) rfl rfl))) (s_St0 hk) (hS.K1 (hc _ (inR_w (i_St0 hk) rfl rfl)) (K_St0 hk)) ciX8 (by decide) rfl flX8_19 ?_
  refine cl_V1 (As := []) (st := [vi v2]) miX7_all (tX7_all hS (hc.w rfl rfl) μ (o := (i_shl (μ 25 3) (μ 25 2))) rfl) dX8_most_9 lkX8_39 inX7_all rfl (hS.lt (hc 25 rfl)) rfl ⟨rfl, rfl⟩ ⟨⟨Nat.le_of_ble_eq_true rfl, Nat.le_of_ble_eq_true rfl⟩, Nat.zero_le _, Nat.zero_le _⟩ (Nat.le_of_ble_eq_true rfl) ?_
  refine ev_icmp_ge 34 dX8_most_12 (by decide) (fun h3 => ?_) (fun h3 => ?_)
  · rw [if_neg h3] at hf
    obtain rfl := Option.some.inj hf
    refine ev_sub [1] rfl ?_
    exact hr
  · rw [if_pos h3] at hf
    refine ev_iload_n dX8_most_15 1 rfl ?_
    refine ev_aload_n dX8_most_16 0 rfl ?_
    refine ev_getK 3 dX8_most_17 (hS.lt (hc _ (inR_w (i_St0 hk) rfl rfl))) (s_St0 hk) (hS.K1 (hc _ (inR_w (i_St0 hk) rfl rfl)) (K_St3 hk)) ciX8 (by decide) rfl flX8_9 ?_
    refine ev_iload_n dX8_most_20 2 rfl ?_
    refine cl_N1 (As := [vr g (k + 1), vi v2]) (st := [vi v1]) (host := "HotCakes") miX11_at (tX11_at hS (hc.w rfl rfl) (k + 1) v2 μ (⟨(hc _ (inR_w (i_St1 hk) rfl rfl)), (ia_of (s_St1 hk))⟩) (o := (fX11_at (k + 1) v2 μ)) rfl) dX8_most_21 (by decide) stX11_at rfl ⟨⟨Nat.le_of_ble_eq_true rfl, Nat.le_of_ble_eq_true rfl⟩, Nat.zero_le _, Nat.zero_le _⟩ (Nat.le_of_ble_eq_true rfl) ?_
    refine ev_mmax dX8_most_24 lkX8_88 ⟨Nat.le_of_ble_eq_true rfl, Nat.le_of_ble_eq_true rfl, Nat.zero_le _, Nat.zero_le _⟩ ?_
    obtain ⟨v4, hv4, hf⟩ := lt_elim hf
    refine ev_rni hv4 ?_
    refine ev_istore_n (al2 := [(1, vi v4), (0, vr g k), (2, vi v2)]) dX8_most_27 1 rfl (by decide) rfl ?_
    refine ev_iinc (al2 := [(2, vi (v2 + 1)), (1, vi v4), (0, vr g k)]) dX8_most_28 2 rfl (by decide) rfl ?_
    refine ev_goto 4 dX8_most_31 (by decide) ?_
    obtain rfl := Option.some.inj hf
    refine ev_sub [2, 1, 0] rfl ?_
    exact hr
def fX8_most (k : Nat) (μ : Mem) : Option (Int) :=
  (loopN (fun s => fX8_most_b4 k s.1 s.2 μ) FU (0, 0)).bind fun q5 =>
  some (q5)
set_option maxRecDepth 4000 in
theorem eX8_most (hS : Sd M K P L) (hc : CIn P 1 75) (k : Nat) (μ : Mem) (hk : isSt k) {o : Int} (hf : fX8_most k μ = some o) (hr : (fun o : Int => Φ (some (vi o)) M x (L μ)) o) : Ev l D cy g K yX8_most cX8_most 3 (some .int) (rmd 2 0 0) (MX D cy g K (rmd 2 0 0) Φ) 0 0 M x (L μ) 0 [(0, vr g k)] [] := by
  unfold fX8_most at hf
  refine ev_iconst dX8_most_0 ?_
  refine ev_istore_n (al2 := [(1, vi 0), (0, vr g k)]) dX8_most_1 1 rfl (by decide) rfl ?_
  refine ev_iconst dX8_most_2 ?_
  refine ev_istore_n (al2 := [(2, vi 0), (1, vi 0), (0, vr g k)]) dX8_most_3 2 rfl (by decide) rfl ?_
  obtain ⟨q5, hq5, hf⟩ := Option.bind_eq_some_iff.mp hf
  refine ev_sub [2, 1, 0] rfl ?_
  refine loop_ev (H := (fun s : Int × Int => Ev l D cy g K yX8_most cX8_most 3 (some .int) (rmd 2 0 0) (MX D cy g K (rmd 2 0 0) Φ) 0 0 M x (L μ) 4 [(0, vr g k), (1, vi s.1), (2, vi s.2)] [])) (Hx := (fun e : Int => Ev l D cy g K yX8_most cX8_most 3 (some .int) (rmd 2 0 0) (MX D cy g K (rmd 2 0 0) Φ) 0 0 M x (L μ) 34 [(1, vi e)] [])) (fun s o hb hr => tX8_most_b4 hS hc k s.1 s.2 μ hk hb hr) FU _ _ hq5 ?_
  show Ev l D cy g K yX8_most cX8_most 3 (some .int) (rmd 2 0 0) (MX D cy g K (rmd 2 0 0) Φ) 0 0 M x (L μ) 34 [(1, vi q5)] []
  refine ev_iload_n dX8_most_34 0 rfl ?_
  obtain rfl := Option.some.inj hf
  exact ev_iret dX8_most_35 rfl ⟨Nat.zero_le _, Nat.zero_le _⟩ hr
theorem tX8_most (hS : Sd M K P L) (hc : CIn P 1 75) (k : Nat) (μ : Mem) (hk : isSt k) {o : Int} (hf : fX8_most k μ = some o) : Cn l D cy g K K yX8_most cX8_most 3 (some .int) (rmd 2 0 0) [vr g k] M x (L μ) (PE (some (vi o)) M x (L μ)) :=
 Cn.of (by decide) (Nat.le_of_ble_eq_true rfl) (eX8_most hS hc k μ hk hf (PE_i _ _ _ _))
def fX11_hard (what : Int) (μ : Mem) : Option (Int × Mem) :=
  (fX11_servedSteps μ).bind fun μ1 =>
  if w32 what = 0 then
    (fX8_most 46 μ1).bind fun v3 =>
    some ((v3, μ1))
  else
    if w32 what = 1 then
      (fX8_most 46 μ1).bind fun v5 =>
      (fX8_stacksAt 46 v5 μ1).bind fun v6 =>
      some ((v6, μ1))
    else
      some (((-1), μ1))
set_option maxRecDepth 4000 in
theorem eX11_hard (hS : Sd M K P L) (hc : CIn P 0 75) (what : Int) (μ : Mem)  {o : Int × Mem} (hf : fX11_hard what μ = some o) (hr : (fun o : Int × Mem => Φ (some (vi o.1)) M x (L o.2)) o) : Ev l D cy g K yX11_hard cX11_hard 3 (some .int) (rmd 7 0 0) (MX D cy g K (rmd 7 0 0) Φ) 0 0 M x (L μ) 0 [(0, vr g 0), (1, vi what)] [] := by
  unfold fX11_hard at hf
  refine ev_aload_n dX11_hard_0 0 rfl ?_
  obtain ⟨μ1, hμ1, hf⟩ := Option.bind_eq_some_iff.mp hf
  refine cl_V1 (As := []) (st := []) miX11_servedSteps (tX11_servedSteps hS (hc.w rfl rfl) μ hμ1) dX11_hard_1 lkX11_215 inX11_servedSteps rfl (hS.lt (hc 0 rfl)) rfl ⟨rfl, rfl⟩ ⟨⟨Nat.le_of_ble_eq_true rfl, Nat.le_of_ble_eq_true rfl⟩, Nat.zero_le _, Nat.zero_le _⟩ (Nat.le_of_ble_eq_true rfl) ?_
  refine ev_astore_n (al2 := [(2, vr g 46), (0, vr g 0), (1, vi what)]) dX11_hard_4 2 rfl (by decide) rfl ?_
  refine ev_iload_n dX11_hard_5 2 rfl ?_
  by_cases h2 : w32 what = 0
  · rw [if_pos h2] at hf
    refine ev_lookup (off := 26) 32 dX11_hard_6 (by decide) (by rw [h2] <;> rfl) (by decide) ?_
    refine ev_aload_n dX11_hard_32 0 rfl ?_
    obtain ⟨v3, hv3, hf⟩ := Option.bind_eq_some_iff.mp hf
    refine cl_V1 (As := []) (st := []) miX8_most (tX8_most hS (hc.w rfl rfl) 46 μ1 (by simp [isSt]) hv3) dX11_hard_33 lkX11_243 inX8_most rfl (hS.lt (hc 46 rfl)) rfl ⟨rfl, rfl⟩ ⟨⟨Nat.le_of_ble_eq_true rfl, Nat.le_of_ble_eq_true rfl⟩, Nat.zero_le _, Nat.zero_le _⟩ (Nat.le_of_ble_eq_true rfl) ?_
    obtain rfl := Option.some.inj hf
    exact ev_iret dX11_hard_36 rfl ⟨Nat.zero_le _, Nat.zero_le _⟩ hr
  · rw [if_neg h2] at hf
    by_cases h4 : w32 what = 1
    · rw [if_pos h4] at hf
      refine ev_lookup (off := 31) 37 dX11_hard_6 (by decide) (by rw [h4] <;> rfl) (by decide) ?_
      refine ev_aload_n dX11_hard_37 0 rfl ?_
      refine ev_aload_n dX11_hard_38 0 rfl ?_
      obtain ⟨v5, hv5, hf⟩ := Option.bind_eq_some_iff.mp hf
      refine cl_V1 (As := []) (st := [vr g 46]) miX8_most (tX8_most hS (hc.w rfl rfl) 46 μ1 (by simp [isSt]) hv5) dX11_hard_39 lkX11_243 inX8_most rfl (hS.lt (hc 46 rfl)) rfl ⟨rfl, rfl⟩ ⟨⟨Nat.le_of_ble_eq_true rfl, Nat.le_of_ble_eq_true rfl⟩, Nat.zero_le _, Nat.zero_le _⟩ (Nat.le_of_ble_eq_true rfl) ?_
      obtain ⟨v6, hv6, hf⟩ := Option.bind_eq_some_iff.mp hf
      refine cl_V1 (As := [vi v5]) (st := []) miX8_stacksAt (tX8_stacksAt hS (hc.w rfl rfl) 46 v5 μ1 (by simp [isSt]) hv6) dX11_hard_42 lkX11_240 inX8_stacksAt rfl (hS.lt (hc 46 rfl)) rfl ⟨rfl, rfl⟩ ⟨⟨Nat.le_of_ble_eq_true rfl, Nat.le_of_ble_eq_true rfl⟩, Nat.zero_le _, Nat.zero_le _⟩ (Nat.le_of_ble_eq_true rfl) ?_
      obtain rfl := Option.some.inj hf
      exact ev_iret dX11_hard_45 rfl ⟨Nat.zero_le _, Nat.zero_le _⟩ hr
    · rw [if_neg h4] at hf
      refine ev_lookup (off := 40) 46 dX11_hard_6 (by decide) (by simp [Op.lookupswitch.offset_cons, Op.lookupswitch.offset_nil, h2, h4, Ne.symm h2, Ne.symm h4]) (by decide) ?_
      refine ev_iconst dX11_hard_46 ?_
      obtain rfl := Option.some.inj hf
      exact ev_iret dX11_hard_47 rfl ⟨Nat.zero_le _, Nat.zero_le _⟩ hr
theorem tX11_hard (hS : Sd M K P L) (hc : CIn P 0 75) (what : Int) (μ : Mem) {o : Int × Mem} (hf : fX11_hard what μ = some o) : Cn l D cy g K K yX11_hard cX11_hard 3 (some .int) (rmd 7 0 0) [vr g 0, vi what] M x (L μ) (PE (some (vi o.1)) M x (L o.2)) :=
 Cn.of (by decide) (Nat.le_of_ble_eq_true rfl) (eX11_hard hS hc what μ hf (PE_i _ _ _ _))
def fX11_spread (turns : Int) (μ : Mem) : Option (Int × Mem) :=
  if w32 turns < 0 then
    some (((-1), μ))
  else
    if w32 turns ≤ w32 60 then
      (fX11_servedSteps μ).bind fun μ3 =>
      (fX8_stacksAt 46 turns μ3).bind fun v4 =>
      some ((v4, μ3))
    else
      some (((-1), μ))
set_option maxRecDepth 4000 in
theorem eX11_spread (hS : Sd M K P L) (hc : CIn P 0 75) (turns : Int) (μ : Mem)  {o : Int × Mem} (hf : fX11_spread turns μ = some o) (hr : (fun o : Int × Mem => Φ (some (vi o.1)) M x (L o.2)) o) : Ev l D cy g K yX11_spread cX11_spread 2 (some .int) (rmd 7 0 0) (MX D cy g K (rmd 7 0 0) Φ) 0 0 M x (L μ) 0 [(0, vr g 0), (1, vi turns)] [] := by
  unfold fX11_spread at hf
  refine ev_iload_n dX11_spread_0 1 rfl ?_
  refine ev_if_lt 10 dX11_spread_1 (by decide) (fun h1 => ?_) (fun h1 => ?_)
  · rw [if_pos h1] at hf
    refine ev_iconst dX11_spread_10 ?_
    refine ev_goto 22 dX11_spread_11 (by decide) ?_
    obtain rfl := Option.some.inj hf
    exact ev_iret dX11_spread_22 rfl ⟨Nat.zero_le _, Nat.zero_le _⟩ hr
  · rw [if_neg h1] at hf
    refine ev_iload_n dX11_spread_4 1 rfl ?_
    refine ev_bipush dX11_spread_5 (by decide) ?_
    refine ev_icmp_le 14 dX11_spread_7 (by decide) (fun h2 => ?_) (fun h2 => ?_)
    · rw [if_pos h2] at hf
      refine ev_aload_n dX11_spread_14 0 rfl ?_
      obtain ⟨μ3, hμ3, hf⟩ := Option.bind_eq_some_iff.mp hf
      refine cl_V1 (As := []) (st := []) miX11_servedSteps (tX11_servedSteps hS (hc.w rfl rfl) μ hμ3) dX11_spread_15 lkX11_215 inX11_servedSteps rfl (hS.lt (hc 0 rfl)) rfl ⟨rfl, rfl⟩ ⟨⟨Nat.le_of_ble_eq_true rfl, Nat.le_of_ble_eq_true rfl⟩, Nat.zero_le _, Nat.zero_le _⟩ (Nat.le_of_ble_eq_true rfl) ?_
      refine ev_iload_n dX11_spread_18 1 rfl ?_
      obtain ⟨v4, hv4, hf⟩ := Option.bind_eq_some_iff.mp hf
      refine cl_V1 (As := [vi turns]) (st := []) miX8_stacksAt (tX8_stacksAt hS (hc.w rfl rfl) 46 turns μ3 (by simp [isSt]) hv4) dX11_spread_19 lkX11_240 inX8_stacksAt rfl (hS.lt (hc 46 rfl)) rfl ⟨rfl, rfl⟩ ⟨⟨Nat.le_of_ble_eq_true rfl, Nat.le_of_ble_eq_true rfl⟩, Nat.zero_le _, Nat.zero_le _⟩ (Nat.le_of_ble_eq_true rfl) ?_
      obtain rfl := Option.some.inj hf
      exact ev_iret dX11_spread_22 rfl ⟨Nat.zero_le _, Nat.zero_le _⟩ hr
    · rw [if_neg h2] at hf
      refine ev_iconst dX11_spread_10 ?_
      refine ev_goto 22 dX11_spread_11 (by decide) ?_
      obtain rfl := Option.some.inj hf
      exact ev_iret dX11_spread_22 rfl ⟨Nat.zero_le _, Nat.zero_le _⟩ hr
theorem tX11_spread (hS : Sd M K P L) (hc : CIn P 0 75) (turns : Int) (μ : Mem) {o : Int × Mem} (hf : fX11_spread turns μ = some o) : Cn l D cy g K K yX11_spread cX11_spread 2 (some .int) (rmd 7 0 0) [vr g 0, vi turns] M x (L μ) (PE (some (vi o.1)) M x (L o.2)) :=
 Cn.of (by decide) (Nat.le_of_ble_eq_true rfl) (eX11_spread hS hc turns μ hf (PE_i _ _ _ _))
def fX0_mostSum_b4 (v1 : Int) (v2 : Int) (μ : Mem) : Option ((Int × Int) ⊕ (Int)) :=
  if w32 v2 < w32 (i_shl (μ 25 3) (μ 25 2)) then
    lt (imax v1 (fX11_at 54 v2 μ)) fun v4 =>
    some (.inl (v4, (v2 + 1)))
  else
    some (.inr v1)
set_option maxRecDepth 4000 in
theorem tX0_mostSum_b4 (hS : Sd M K P L) (hc : CIn P 1 55) (v1 : Int) (v2 : Int) (μ : Mem)  {o : (Int × Int) ⊕ (Int)} (hf : fX0_mostSum_b4 v1 v2 μ = some o) (hr : (Sum.elim (fun s : Int × Int => Ev l D cy g K yX0_mostSum cX0_mostSum 3 (some .int) (rmd 2 0 0) (MX D cy g K (rmd 2 0 0) Φ) 0 0 M x (L μ) 4 [(0, vr g 53), (1, vi s.1), (2, vi s.2)] []) (fun e : Int => Ev l D cy g K yX0_mostSum cX0_mostSum 3 (some .int) (rmd 2 0 0) (MX D cy g K (rmd 2 0 0) Φ) 0 0 M x (L μ) 34 [(1, vi e)] [])) o) : Ev l D cy g K yX0_mostSum cX0_mostSum 3 (some .int) (rmd 2 0 0) (MX D cy g K (rmd 2 0 0) Φ) 0 0 M x (L μ) 4 [(0, vr g 53), (1, vi v1), (2, vi v2)] [] := by
  unfold fX0_mostSum_b4 at hf
  refine ev_iload_n dX0_mostSum_4 2 rfl ?_
  refine ev_aload_n dX0_mostSum_5 0 rfl ?_
  refine ev_getK 0 dX0_mostSum_6 (hS.lt (hc 53 rfl)) rfl (hS.K1 (hc 53 rfl) rfl) ciX0 (by decide) rfl flX0_15 ?_
  refine cl_V1 (As := []) (st := [vi v2]) miX7_all (tX7_all hS (hc.w rfl rfl) μ (o := (i_shl (μ 25 3) (μ 25 2))) rfl) dX0_mostSum_9 lkX0_40 inX7_all rfl (hS.lt (hc 25 rfl)) rfl ⟨rfl, rfl⟩ ⟨⟨Nat.le_of_ble_eq_true rfl, Nat.le_of_ble_eq_true rfl⟩, Nat.zero_le _, Nat.zero_le _⟩ (Nat.le_of_ble_eq_true rfl) ?_
  refine ev_icmp_ge 34 dX0_mostSum_12 (by decide) (fun h3 => ?_) (fun h3 => ?_)
  · rw [if_neg h3] at hf
    obtain rfl := Option.some.inj hf
    refine ev_sub [1] rfl ?_
    exact hr
  · rw [if_pos h3] at hf
    refine ev_iload_n dX0_mostSum_15 1 rfl ?_
    refine ev_aload_n dX0_mostSum_16 0 rfl ?_
    refine ev_getK 1 dX0_mostSum_17 (hS.lt (hc 53 rfl)) rfl (hS.K1 (hc 53 rfl) rfl) ciX0 (by decide) rfl flX0_9 ?_
    refine ev_iload_n dX0_mostSum_20 2 rfl ?_
    refine cl_N1 (As := [vr g 54, vi v2]) (st := [vi v1]) (host := "HotCakes") miX11_at (tX11_at hS (hc.w rfl rfl) 54 v2 μ (⟨(hc 54 rfl), rfl⟩) (o := (fX11_at 54 v2 μ)) rfl) dX0_mostSum_21 (by decide) stX11_at rfl ⟨⟨Nat.le_of_ble_eq_true rfl, Nat.le_of_ble_eq_true rfl⟩, Nat.zero_le _, Nat.zero_le _⟩ (Nat.le_of_ble_eq_true rfl) ?_
    refine ev_mmax dX0_mostSum_24 lkX0_51 ⟨Nat.le_of_ble_eq_true rfl, Nat.le_of_ble_eq_true rfl, Nat.zero_le _, Nat.zero_le _⟩ ?_
    obtain ⟨v4, hv4, hf⟩ := lt_elim hf
    refine ev_rni hv4 ?_
    refine ev_istore_n (al2 := [(1, vi v4), (0, vr g 53), (2, vi v2)]) dX0_mostSum_27 1 rfl (by decide) rfl ?_
    refine ev_iinc (al2 := [(2, vi (v2 + 1)), (1, vi v4), (0, vr g 53)]) dX0_mostSum_28 2 rfl (by decide) rfl ?_
    refine ev_goto 4 dX0_mostSum_31 (by decide) ?_
    obtain rfl := Option.some.inj hf
    refine ev_sub [2, 1, 0] rfl ?_
    exact hr
def fX0_mostSum  (μ : Mem) : Option (Int) :=
  (loopN (fun s => fX0_mostSum_b4 s.1 s.2 μ) FU (0, 0)).bind fun q5 =>
  some (q5)
set_option maxRecDepth 4000 in
theorem eX0_mostSum (hS : Sd M K P L) (hc : CIn P 1 55)  (μ : Mem)  {o : Int} (hf : fX0_mostSum  μ = some o) (hr : (fun o : Int => Φ (some (vi o)) M x (L μ)) o) : Ev l D cy g K yX0_mostSum cX0_mostSum 3 (some .int) (rmd 2 0 0) (MX D cy g K (rmd 2 0 0) Φ) 0 0 M x (L μ) 0 [(0, vr g 53)] [] := by
  unfold fX0_mostSum at hf
  refine ev_iconst dX0_mostSum_0 ?_
  refine ev_istore_n (al2 := [(1, vi 0), (0, vr g 53)]) dX0_mostSum_1 1 rfl (by decide) rfl ?_
  refine ev_iconst dX0_mostSum_2 ?_
  refine ev_istore_n (al2 := [(2, vi 0), (1, vi 0), (0, vr g 53)]) dX0_mostSum_3 2 rfl (by decide) rfl ?_
  obtain ⟨q5, hq5, hf⟩ := Option.bind_eq_some_iff.mp hf
  refine ev_sub [2, 1, 0] rfl ?_
  refine loop_ev (H := (fun s : Int × Int => Ev l D cy g K yX0_mostSum cX0_mostSum 3 (some .int) (rmd 2 0 0) (MX D cy g K (rmd 2 0 0) Φ) 0 0 M x (L μ) 4 [(0, vr g 53), (1, vi s.1), (2, vi s.2)] [])) (Hx := (fun e : Int => Ev l D cy g K yX0_mostSum cX0_mostSum 3 (some .int) (rmd 2 0 0) (MX D cy g K (rmd 2 0 0) Φ) 0 0 M x (L μ) 34 [(1, vi e)] [])) (fun s o hb hr => tX0_mostSum_b4 hS hc s.1 s.2 μ hb hr) FU _ _ hq5 ?_
  show Ev l D cy g K yX0_mostSum cX0_mostSum 3 (some .int) (rmd 2 0 0) (MX D cy g K (rmd 2 0 0) Φ) 0 0 M x (L μ) 34 [(1, vi q5)] []
  refine ev_iload_n dX0_mostSum_34 0 rfl ?_
  obtain rfl := Option.some.inj hf
  exact ev_iret dX0_mostSum_35 rfl ⟨Nat.zero_le _, Nat.zero_le _⟩ hr
theorem tX0_mostSum (hS : Sd M K P L) (hc : CIn P 1 55) (μ : Mem) {o : Int} (hf : fX0_mostSum μ = some o) : Cn l D cy g K K yX0_mostSum cX0_mostSum 3 (some .int) (rmd 2 0 0) [vr g 53] M x (L μ) (PE (some (vi o)) M x (L μ)) :=
 Cn.of (by decide) (Nat.le_of_ble_eq_true rfl) (eX0_mostSum hS hc μ hf (PE_i _ _ _ _))
def fX11_dear  (μ : Mem) : Option (Int × Mem) :=
  (fX0_learn μ).bind fun μ1 =>
  (fX0_mostSum μ1).bind fun v2 =>
  some ((v2, μ1))
set_option maxRecDepth 4000 in
theorem eX11_dear (hS : Sd M K P L) (hc : CIn P 0 55)  (μ : Mem)  {o : Int × Mem} (hf : fX11_dear  μ = some o) (hr : (fun o : Int × Mem => Φ (some (vi o.1)) M x (L o.2)) o) : Ev l D cy g K yX11_dear cX11_dear 1 (some .int) (rmd 6 0 0) (MX D cy g K (rmd 6 0 0) Φ) 0 0 M x (L μ) 0 [(0, vr g 0)] [] := by
  unfold fX11_dear at hf
  refine ev_aload_n dX11_dear_0 0 rfl ?_
  refine ev_getK 16 dX11_dear_1 (hS.lt (hc 0 rfl)) rfl (hS.K1 (hc 0 rfl) rfl) ciX11 (by decide) rfl flX11_97 ?_
  obtain ⟨μ1, hμ1, hf⟩ := Option.bind_eq_some_iff.mp hf
  refine cl_V0 (As := []) (st := []) miX0_learn (tX0_learn hS (hc.w rfl rfl) μ hμ1) dX11_dear_4 lkX11_228 inX0_learn rfl (hS.lt (hc 53 rfl)) rfl ⟨rfl, rfl⟩ ⟨⟨Nat.le_of_ble_eq_true rfl, Nat.le_of_ble_eq_true rfl⟩, Nat.zero_le _, Nat.zero_le _⟩ (Nat.le_of_ble_eq_true rfl) ?_
  refine ev_aload_n dX11_dear_7 0 rfl ?_
  refine ev_getK 16 dX11_dear_8 (hS.lt (hc 0 rfl)) rfl (hS.K1 (hc 0 rfl) rfl) ciX11 (by decide) rfl flX11_97 ?_
  obtain ⟨v2, hv2, hf⟩ := Option.bind_eq_some_iff.mp hf
  refine cl_V1 (As := []) (st := []) miX0_mostSum (tX0_mostSum hS (hc.w rfl rfl) μ1 hv2) dX11_dear_11 lkX11_246 inX0_mostSum rfl (hS.lt (hc 53 rfl)) rfl ⟨rfl, rfl⟩ ⟨⟨Nat.le_of_ble_eq_true rfl, Nat.le_of_ble_eq_true rfl⟩, Nat.zero_le _, Nat.zero_le _⟩ (Nat.le_of_ble_eq_true rfl) ?_
  obtain rfl := Option.some.inj hf
  exact ev_iret dX11_dear_14 rfl ⟨Nat.zero_le _, Nat.zero_le _⟩ hr
theorem tX11_dear (hS : Sd M K P L) (hc : CIn P 0 55) (μ : Mem) {o : Int × Mem} (hf : fX11_dear μ = some o) : Cn l D cy g K K yX11_dear cX11_dear 1 (some .int) (rmd 6 0 0) [vr g 0] M x (L μ) (PE (some (vi o.1)) M x (L o.2)) :=
 Cn.of (by decide) (Nat.le_of_ble_eq_true rfl) (eX11_dear hS hc μ hf (PE_i _ _ _ _))
def fX11_nowSteps  (μ : Mem) : Option (Mem) :=
  (fX8_learn 51 (μ 41 1) μ).bind fun μ1 =>
  some (μ1)
set_option maxRecDepth 4000 in
theorem eX11_nowSteps (hS : Sd M K P L) (hc : CIn P 0 75)  (μ : Mem)  {o : Mem} (hf : fX11_nowSteps  μ = some o) (hr : (fun o : Mem => Φ (some (vr g 51)) M x (L o)) o) : Ev l D cy g K yX11_nowSteps cX11_nowSteps 1 (some (.object "HotCakes$Steps")) (rmd 6 0 0) (MX D cy g K (rmd 6 0 0) Φ) 0 0 M x (L μ) 0 [(0, vr g 0)] [] := by
  unfold fX11_nowSteps at hf
  refine ev_aload_n dX11_nowSteps_0 0 rfl ?_
  refine ev_getK 15 dX11_nowSteps_1 (hS.lt (hc 0 rfl)) rfl (hS.K1 (hc 0 rfl) rfl) ciX11 (by decide) rfl flX11_89 ?_
  refine ev_aload_n dX11_nowSteps_4 0 rfl ?_
  refine ev_getK 7 dX11_nowSteps_5 (hS.lt (hc 0 rfl)) rfl (hS.K1 (hc 0 rfl) rfl) ciX11 (by decide) rfl flX11_58 ?_
  refine cl_V1 (As := []) (st := [vr g 51]) miX5_stack (tX5_stack hS (hc.w rfl rfl) 41 μ (by simp [isMo]) (o := (μ 41 1)) rfl) dX11_nowSteps_8 lkX11_167 inX5_stack rfl (hS.lt (hc 41 rfl)) rfl ⟨rfl, rfl⟩ ⟨⟨Nat.le_of_ble_eq_true rfl, Nat.le_of_ble_eq_true rfl⟩, Nat.zero_le _, Nat.zero_le _⟩ (Nat.le_of_ble_eq_true rfl) ?_
  obtain ⟨μ1, hμ1, hf⟩ := Option.bind_eq_some_iff.mp hf
  refine cl_V0 (As := [vi (μ 41 1)]) (st := []) miX8_learn (tX8_learn hS (hc.w rfl rfl) 51 (μ 41 1) μ (by simp [isSt]) hμ1) dX11_nowSteps_11 lkX11_372 inX8_learn rfl (hS.lt (hc 51 rfl)) rfl ⟨rfl, rfl⟩ ⟨⟨Nat.le_of_ble_eq_true rfl, Nat.le_of_ble_eq_true rfl⟩, Nat.zero_le _, Nat.zero_le _⟩ (Nat.le_of_ble_eq_true rfl) ?_
  refine ev_aload_n dX11_nowSteps_14 0 rfl ?_
  refine ev_getK 15 dX11_nowSteps_15 (hS.lt (hc 0 rfl)) rfl (hS.K1 (hc 0 rfl) rfl) ciX11 (by decide) rfl flX11_89 ?_
  obtain rfl := Option.some.inj hf
  exact ev_aret dX11_nowSteps_18 rfl (by first | exact Or.inl ⟨_, rfl⟩ | exact Or.inr ⟨_, rfl⟩) ⟨Nat.zero_le _, Nat.zero_le _⟩ hr
theorem tX11_nowSteps (hS : Sd M K P L) (hc : CIn P 0 75) (μ : Mem) {o : Mem} (hf : fX11_nowSteps μ = some o) : Cn l D cy g K K yX11_nowSteps cX11_nowSteps 1 (some (.object "HotCakes$Steps")) (rmd 6 0 0) [vr g 0] M x (L μ) (PE (some (vr g 51)) M x (L o)) :=
 Cn.of (by decide) (Nat.le_of_ble_eq_true rfl) (eX11_nowSteps hS hc μ hf (PE_i _ _ _ _))
def fX11_rim  (μ : Mem) : Option (Int × Mem) :=
  (fX11_nowSteps μ).bind fun μ1 =>
  (fX8_most 51 μ1).bind fun v2 =>
  some ((v2, μ1))
set_option maxRecDepth 4000 in
theorem eX11_rim (hS : Sd M K P L) (hc : CIn P 0 75)  (μ : Mem)  {o : Int × Mem} (hf : fX11_rim  μ = some o) (hr : (fun o : Int × Mem => Φ (some (vi o.1)) M x (L o.2)) o) : Ev l D cy g K yX11_rim cX11_rim 1 (some .int) (rmd 7 0 0) (MX D cy g K (rmd 7 0 0) Φ) 0 0 M x (L μ) 0 [(0, vr g 0)] [] := by
  unfold fX11_rim at hf
  refine ev_aload_n dX11_rim_0 0 rfl ?_
  obtain ⟨μ1, hμ1, hf⟩ := Option.bind_eq_some_iff.mp hf
  refine cl_V1 (As := []) (st := []) miX11_nowSteps (tX11_nowSteps hS (hc.w rfl rfl) μ hμ1) dX11_rim_1 lkX11_249 inX11_nowSteps rfl (hS.lt (hc 0 rfl)) rfl ⟨rfl, rfl⟩ ⟨⟨Nat.le_of_ble_eq_true rfl, Nat.le_of_ble_eq_true rfl⟩, Nat.zero_le _, Nat.zero_le _⟩ (Nat.le_of_ble_eq_true rfl) ?_
  obtain ⟨v2, hv2, hf⟩ := Option.bind_eq_some_iff.mp hf
  refine cl_V1 (As := []) (st := []) miX8_most (tX8_most hS (hc.w rfl rfl) 51 μ1 (by simp [isSt]) hv2) dX11_rim_4 lkX11_243 inX8_most rfl (hS.lt (hc 51 rfl)) rfl ⟨rfl, rfl⟩ ⟨⟨Nat.le_of_ble_eq_true rfl, Nat.le_of_ble_eq_true rfl⟩, Nat.zero_le _, Nat.zero_le _⟩ (Nat.le_of_ble_eq_true rfl) ?_
  obtain rfl := Option.some.inj hf
  exact ev_iret dX11_rim_7 rfl ⟨Nat.zero_le _, Nat.zero_le _⟩ hr
theorem tX11_rim (hS : Sd M K P L) (hc : CIn P 0 75) (μ : Mem) {o : Int × Mem} (hf : fX11_rim μ = some o) : Cn l D cy g K K yX11_rim cX11_rim 1 (some .int) (rmd 7 0 0) [vr g 0] M x (L μ) (PE (some (vi o.1)) M x (L o.2)) :=
 Cn.of (by decide) (Nat.le_of_ble_eq_true rfl) (eX11_rim hS hc μ hf (PE_i _ _ _ _))
def fX7_numberOf_b9 (stack : Int) (v2 : Int) (v3 : Int) (μ : Mem) : Option ((Int × Int) ⊕ (Int)) :=
  if w32 v3 < w32 (μ 25 1) then
    lt (fX7_cakeIn stack v3 μ) fun v5 =>
    gd (((μ 25 0) = 5 ∨ (μ 25 0) = 15)) <|
    lt (μ 25 0).toNat fun r7 =>
    if (fX2_hasSide r7 v5 μ) = true then
      lt (if (fX7_isUp stack v5 μ) = true then
          1
        else
          0) fun v9 =>
      lt ((v2 * 2) + v9) fun v11 =>
      some (.inl (v11, (v3 + 1)))
    else
      some (.inl (v2, (v3 + 1)))
  else
    some (.inr v2)
set_option maxRecDepth 4000 in
theorem tX7_numberOf_b9 (hS : Sd M K P L) (hc : CIn P 1 39) (stack : Int) (v2 : Int) (v3 : Int) (μ : Mem)  {o : (Int × Int) ⊕ (Int)} (hf : fX7_numberOf_b9 stack v2 v3 μ = some o) (hr : (Sum.elim (fun s : Int × Int => Ev l D cy g K yX7_numberOf cX7_numberOf 5 (some .int) (rmd 4 0 0) (MX D cy g K (rmd 4 0 0) Φ) 0 0 M x (L μ) 9 [(0, vr g 25), (1, vi stack), (2, vi s.1), (3, vi s.2)] []) (fun e : Int => Ev l D cy g K yX7_numberOf cX7_numberOf 5 (some .int) (rmd 4 0 0) (MX D cy g K (rmd 4 0 0) Φ) 0 0 M x (L μ) 63 [(2, vi e)] [])) o) : Ev l D cy g K yX7_numberOf cX7_numberOf 5 (some .int) (rmd 4 0 0) (MX D cy g K (rmd 4 0 0) Φ) 0 0 M x (L μ) 9 [(0, vr g 25), (1, vi stack), (2, vi v2), (3, vi v3)] [] := by
  unfold fX7_numberOf_b9 at hf
  refine ev_iload_n dX7_numberOf_9 3 rfl ?_
  refine ev_aload_n dX7_numberOf_10 0 rfl ?_
  refine ev_getI 1 dX7_numberOf_11 (hS.lt (hc 25 rfl)) rfl (hS.mem _ (hc 25 rfl)) ciX7 (by decide) rfl flX7_65 ?_
  refine ev_icmp_ge 63 dX7_numberOf_14 (by decide) (fun h4 => ?_) (fun h4 => ?_)
  · rw [if_neg h4] at hf
    obtain rfl := Option.some.inj hf
    refine ev_sub [2] rfl ?_
    exact hr
  · rw [if_pos h4] at hf
    refine ev_aload_n dX7_numberOf_17 0 rfl ?_
    refine ev_iload_n dX7_numberOf_18 1 rfl ?_
    refine ev_iload_n dX7_numberOf_19 3 rfl ?_
    refine cl_V1 (As := [vi stack, vi v3]) (st := []) miX7_cakeIn (tX7_cakeIn hS (hc.w rfl rfl) stack v3 μ (o := (fX7_cakeIn stack v3 μ)) rfl) dX7_numberOf_20 lkX7_154 inX7_cakeIn rfl (hS.lt (hc 25 rfl)) rfl ⟨rfl, rfl⟩ ⟨⟨Nat.le_of_ble_eq_true rfl, Nat.le_of_ble_eq_true rfl⟩, Nat.zero_le _, Nat.zero_le _⟩ (Nat.le_of_ble_eq_true rfl) ?_
    obtain ⟨v5, hv5, hf⟩ := lt_elim hf
    refine ev_rni hv5 ?_
    refine ev_istore (al2 := [(4, vi v5), (0, vr g 25), (1, vi stack), (2, vi v2), (3, vi v3)]) dX7_numberOf_23 (by decide) rfl ?_
    refine ev_aload_n dX7_numberOf_25 1 rfl ?_
    obtain ⟨g6, hf⟩ := gd_elim hf
    refine ev_getR 0 dX7_numberOf_26 (hS.lt (hc 25 rfl)) rfl (hS.mem _ (hc 25 rfl)) (hS.K0 (hc 25 rfl) rfl) (dy_Gr g6).2 ciX7 (by decide) rfl flX7_55 ?_
    obtain ⟨r7, hr7, hf⟩ := lt_elim hf
    refine ev_rn (congrArg (vr g) hr7) ?_
    have kr7 : isGr r7 := by rw [hr7]; exact (dy_Gr g6).1
    refine ev_iload dX7_numberOf_29 0 rfl ?_
    refine cl_V1 (As := [vi v5]) (st := []) miX2_hasSide (tX2_hasSide hS (hc.w rfl rfl) r7 v5 μ kr7 (o := (fX2_hasSide r7 v5 μ)) rfl) dX7_numberOf_31 lkX7_72 inX2_hasSide rfl (hS.lt (hc _ (inR_w (i_Gr0 kr7) rfl rfl))) (s_Gr0 kr7) ⟨rfl, rfl⟩ ⟨⟨Nat.le_of_ble_eq_true rfl, Nat.le_of_ble_eq_true rfl⟩, Nat.zero_le _, Nat.zero_le _⟩ (Nat.le_of_ble_eq_true rfl) ?_
    refine ev_ifb_eq 57 dX7_numberOf_34 (by decide) (fun h8 => ?_) (fun h8 => ?_)
    · rw [if_neg h8] at hf
      refine ev_iinc (al2 := [(3, vi (v3 + 1)), (4, vi v5), (0, vr g 25), (1, vi stack), (2, vi v2)]) dX7_numberOf_57 4 rfl (by decide) rfl ?_
      refine ev_goto 9 dX7_numberOf_60 (by decide) ?_
      obtain rfl := Option.some.inj hf
      refine ev_sub [2, 3, 4, 0] rfl ?_
      exact hr
    · rw [if_pos h8] at hf
      refine ev_iload_n dX7_numberOf_37 3 rfl ?_
      refine ev_iconst dX7_numberOf_38 ?_
      refine ev_imul dX7_numberOf_39 ?_
      refine ev_aload_n dX7_numberOf_40 1 rfl ?_
      refine ev_iload_n dX7_numberOf_41 2 rfl ?_
      refine ev_iload dX7_numberOf_42 0 rfl ?_
      refine cl_V1 (As := [vi stack, vi v5]) (st := [vi (v2 * 2)]) miX7_isUp (tX7_isUp hS (hc.w rfl rfl) stack v5 μ (o := (fX7_isUp stack v5 μ)) rfl) dX7_numberOf_44 lkX7_166 inX7_isUp rfl (hS.lt (hc 25 rfl)) rfl ⟨rfl, rfl⟩ ⟨⟨Nat.le_of_ble_eq_true rfl, Nat.le_of_ble_eq_true rfl⟩, Nat.zero_le _, Nat.zero_le _⟩ (Nat.le_of_ble_eq_true rfl) ?_
      obtain ⟨v9, hv9, hf⟩ := lt_elim hf
      have hJv9 : Ev l D cy g K yX7_numberOf cX7_numberOf 5 (some .int) (rmd 4 0 0) (MX D cy g K (rmd 4 0 0) Φ) 0 0 M x (L μ) 55 [(4, vi v5), (0, vr g 25), (1, vi stack), (2, vi v2), (3, vi v3)] [vi v9, vi (v2 * 2)] := by
        refine ev_iadd dX7_numberOf_55 ?_
        obtain ⟨v11, hv11, hf⟩ := lt_elim hf
        refine ev_rni hv11 ?_
        refine ev_istore_n (al2 := [(2, vi v11), (4, vi v5), (0, vr g 25), (1, vi stack), (3, vi v3)]) dX7_numberOf_56 2 rfl (by decide) rfl ?_
        refine ev_iinc (al2 := [(3, vi (v3 + 1)), (2, vi v11), (4, vi v5), (0, vr g 25), (1, vi stack)]) dX7_numberOf_57 4 rfl (by decide) rfl ?_
        refine ev_goto 9 dX7_numberOf_60 (by decide) ?_
        obtain rfl := Option.some.inj hf
        refine ev_sub [3, 4, 1, 0] rfl ?_
        exact hr
      refine ev_ifb_eq 54 dX7_numberOf_47 (by decide) (fun h10 => ?_) (fun h10 => ?_)
      · refine ev_iconst dX7_numberOf_54 ?_
        have e9 : v9 = 0 := hv9.trans ((if_neg h10))
        subst e9
        exact hJv9
      · refine ev_iconst dX7_numberOf_50 ?_
        refine ev_goto 55 dX7_numberOf_51 (by decide) ?_
        have e9 : v9 = 1 := hv9.trans ((if_pos h10))
        subst e9
        exact hJv9
def fX7_numberOf (stack : Int) (μ : Mem) : Option (Int) :=
  lt (i_shr stack (μ 25 2)) fun v1 =>
  (loopN (fun s => fX7_numberOf_b9 stack s.1 s.2 μ) FU (v1, 0)).bind fun q12 =>
  some (q12)
set_option maxRecDepth 4000 in
theorem eX7_numberOf (hS : Sd M K P L) (hc : CIn P 1 39) (stack : Int) (μ : Mem)  {o : Int} (hf : fX7_numberOf stack μ = some o) (hr : (fun o : Int => Φ (some (vi o)) M x (L μ)) o) : Ev l D cy g K yX7_numberOf cX7_numberOf 5 (some .int) (rmd 4 0 0) (MX D cy g K (rmd 4 0 0) Φ) 0 0 M x (L μ) 0 [(0, vr g 25), (1, vi stack)] [] := by
  unfold fX7_numberOf at hf
  refine ev_iload_n dX7_numberOf_0 1 rfl ?_
  refine ev_aload_n dX7_numberOf_1 0 rfl ?_
  refine ev_getI 2 dX7_numberOf_2 (hS.lt (hc 25 rfl)) rfl (hS.mem _ (hc 25 rfl)) ciX7 (by decide) rfl flX7_69 ?_
  refine ev_ishr dX7_numberOf_5 ?_
  obtain ⟨v1, hv1, hf⟩ := lt_elim hf
  refine ev_rni hv1 ?_
  refine ev_istore_n (al2 := [(2, vi v1), (0, vr g 25), (1, vi stack)]) dX7_numberOf_6 2 rfl (by decide) rfl ?_
  refine ev_iconst dX7_numberOf_7 ?_
  refine ev_istore_n (al2 := [(3, vi 0), (2, vi v1), (0, vr g 25), (1, vi stack)]) dX7_numberOf_8 3 rfl (by decide) rfl ?_
  obtain ⟨q12, hq12, hf⟩ := Option.bind_eq_some_iff.mp hf
  refine ev_sub [2, 3, 1, 0] rfl ?_
  refine loop_ev (H := (fun s : Int × Int => Ev l D cy g K yX7_numberOf cX7_numberOf 5 (some .int) (rmd 4 0 0) (MX D cy g K (rmd 4 0 0) Φ) 0 0 M x (L μ) 9 [(0, vr g 25), (1, vi stack), (2, vi s.1), (3, vi s.2)] [])) (Hx := (fun e : Int => Ev l D cy g K yX7_numberOf cX7_numberOf 5 (some .int) (rmd 4 0 0) (MX D cy g K (rmd 4 0 0) Φ) 0 0 M x (L μ) 63 [(2, vi e)] [])) (fun s o hb hr => tX7_numberOf_b9 hS hc stack s.1 s.2 μ hb hr) FU _ _ hq12 ?_
  show Ev l D cy g K yX7_numberOf cX7_numberOf 5 (some .int) (rmd 4 0 0) (MX D cy g K (rmd 4 0 0) Φ) 0 0 M x (L μ) 63 [(2, vi q12)] []
  refine ev_iload_n dX7_numberOf_63 0 rfl ?_
  obtain rfl := Option.some.inj hf
  exact ev_iret dX7_numberOf_64 rfl ⟨Nat.zero_le _, Nat.zero_le _⟩ hr
theorem tX7_numberOf (hS : Sd M K P L) (hc : CIn P 1 39) (stack : Int) (μ : Mem) {o : Int} (hf : fX7_numberOf stack μ = some o) : Cn l D cy g K K yX7_numberOf cX7_numberOf 5 (some .int) (rmd 4 0 0) [vr g 25, vi stack] M x (L μ) (PE (some (vi o)) M x (L μ)) :=
 Cn.of (by decide) (Nat.le_of_ble_eq_true rfl) (eX7_numberOf hS hc stack μ hf (PE_i _ _ _ _))
def fX11_nth  (μ : Mem) : Option (Int) :=
  (fX7_numberOf (μ 41 1) μ).bind fun v1 =>
  some (v1)
set_option maxRecDepth 4000 in
theorem eX11_nth (hS : Sd M K P L) (hc : CIn P 0 75)  (μ : Mem)  {o : Int} (hf : fX11_nth  μ = some o) (hr : (fun o : Int => Φ (some (vi o)) M x (L μ)) o) : Ev l D cy g K yX11_nth cX11_nth 1 (some .int) (rmd 5 0 0) (MX D cy g K (rmd 5 0 0) Φ) 0 0 M x (L μ) 0 [(0, vr g 0)] [] := by
  unfold fX11_nth at hf
  refine ev_aload_n dX11_nth_0 0 rfl ?_
  refine ev_getK 4 dX11_nth_1 (hS.lt (hc 0 rfl)) rfl (hS.K1 (hc 0 rfl) rfl) ciX11 (by decide) rfl flX11_40 ?_
  refine ev_aload_n dX11_nth_4 0 rfl ?_
  refine ev_getK 7 dX11_nth_5 (hS.lt (hc 0 rfl)) rfl (hS.K1 (hc 0 rfl) rfl) ciX11 (by decide) rfl flX11_58 ?_
  refine cl_V1 (As := []) (st := [vr g 25]) miX5_stack (tX5_stack hS (hc.w rfl rfl) 41 μ (by simp [isMo]) (o := (μ 41 1)) rfl) dX11_nth_8 lkX11_167 inX5_stack rfl (hS.lt (hc 41 rfl)) rfl ⟨rfl, rfl⟩ ⟨⟨Nat.le_of_ble_eq_true rfl, Nat.le_of_ble_eq_true rfl⟩, Nat.zero_le _, Nat.zero_le _⟩ (Nat.le_of_ble_eq_true rfl) ?_
  obtain ⟨v1, hv1, hf⟩ := Option.bind_eq_some_iff.mp hf
  refine cl_V1 (As := [vi (μ 41 1)]) (st := []) miX7_numberOf (tX7_numberOf hS (hc.w rfl rfl) (μ 41 1) μ hv1) dX11_nth_11 lkX11_252 inX7_numberOf rfl (hS.lt (hc 25 rfl)) rfl ⟨rfl, rfl⟩ ⟨⟨Nat.le_of_ble_eq_true rfl, Nat.le_of_ble_eq_true rfl⟩, Nat.zero_le _, Nat.zero_le _⟩ (Nat.le_of_ble_eq_true rfl) ?_
  obtain rfl := Option.some.inj hf
  exact ev_iret dX11_nth_14 rfl ⟨Nat.zero_le _, Nat.zero_le _⟩ hr
theorem tX11_nth (hS : Sd M K P L) (hc : CIn P 0 75) (μ : Mem) {o : Int} (hf : fX11_nth μ = some o) : Cn l D cy g K K yX11_nth cX11_nth 1 (some .int) (rmd 5 0 0) [vr g 0] M x (L μ) (PE (some (vi o)) M x (L μ)) :=
 Cn.of (by decide) (Nat.le_of_ble_eq_true rfl) (eX11_nth hS hc μ hf (PE_i _ _ _ _))
def fX11_ring_b29 (many : Int) (other : Int) (v4 : Int) (v5 : Int) (μ : Mem) : Option ((Int × Int) ⊕ (Int)) :=
  if w32 v5 ≤ w32 120 then
    lt (if w32 (i_rem v5 2) = w32 1 then
        many
      else
        other) fun v7 =>
    if (fX7_isOpen v4 v7 μ) = true then
      lt (fX7_turned v4 v7 μ) fun v10 =>
      if w32 (i_rem v5 2) = 0 then
        if w32 v10 = w32 (μ 41 1) then
          some (.inr v5)
        else
          some (.inl (v10, (v5 + 1)))
      else
        some (.inl (v10, (v5 + 1)))
    else
      some (.inr (-1))
  else
    some (.inr (-1))
set_option maxRecDepth 4000 in
theorem tX11_ring_b29 (hS : Sd M K P L) (hc : CIn P 0 75) (many : Int) (other : Int) (v4 : Int) (v5 : Int) (μ : Mem)  {o : (Int × Int) ⊕ (Int)} (hf : fX11_ring_b29 many other v4 v5 μ = some o) (hr : (Sum.elim (fun s : Int × Int => Ev l D cy g K yX11_ring cX11_ring 6 (some .int) (rmd 4 0 0) (MX D cy g K (rmd 4 0 0) Φ) 0 0 M x (L μ) 29 [(0, vr g 0), (1, vi many), (2, vi other), (3, vi s.1), (4, vi s.2)] []) (fun o : Int => Φ (some (vi o)) M x (L μ))) o) : Ev l D cy g K yX11_ring cX11_ring 6 (some .int) (rmd 4 0 0) (MX D cy g K (rmd 4 0 0) Φ) 0 0 M x (L μ) 29 [(0, vr g 0), (1, vi many), (2, vi other), (3, vi v4), (4, vi v5)] [] := by
  unfold fX11_ring_b29 at hf
  refine ev_iload dX11_ring_29 4 rfl ?_
  refine ev_bipush dX11_ring_31 (by decide) ?_
  refine ev_icmp_gt 104 dX11_ring_33 (by decide) (fun h6 => ?_) (fun h6 => ?_)
  · rw [if_neg h6] at hf
    refine ev_iconst dX11_ring_104 ?_
    obtain rfl := Option.some.inj hf
    exact ev_iret dX11_ring_105 rfl ⟨Nat.zero_le _, Nat.zero_le _⟩ hr
  · rw [if_pos h6] at hf
    refine ev_iload dX11_ring_36 4 rfl ?_
    refine ev_iconst dX11_ring_38 ?_
    refine ev_irem dX11_ring_39 (by decide) ?_
    refine ev_iconst dX11_ring_40 ?_
    obtain ⟨v7, hv7, hf⟩ := lt_elim hf
    have hJv7 : Ev l D cy g K yX11_ring cX11_ring 6 (some .int) (rmd 4 0 0) (MX D cy g K (rmd 4 0 0) Φ) 0 0 M x (L μ) 49 [(0, vr g 0), (1, vi many), (2, vi other), (3, vi v4), (4, vi v5)] [vi v7] := by
      refine ev_istore (al2 := [(5, vi v7), (0, vr g 0), (1, vi many), (2, vi other), (3, vi v4), (4, vi v5)]) dX11_ring_49 (by decide) rfl ?_
      refine ev_aload_n dX11_ring_51 1 rfl ?_
      refine ev_getK 4 dX11_ring_52 (hS.lt (hc 0 rfl)) rfl (hS.K1 (hc 0 rfl) rfl) ciX11 (by decide) rfl flX11_40 ?_
      refine ev_iload_n dX11_ring_55 4 rfl ?_
      refine ev_iload dX11_ring_56 0 rfl ?_
      refine cl_V1 (As := [vi v4, vi v7]) (st := []) miX7_isOpen (tX7_isOpen hS (hc.w rfl rfl) v4 v7 μ (o := (fX7_isOpen v4 v7 μ)) rfl) dX11_ring_58 lkX11_181 inX7_isOpen rfl (hS.lt (hc 25 rfl)) rfl ⟨rfl, rfl⟩ ⟨⟨Nat.le_of_ble_eq_true rfl, Nat.le_of_ble_eq_true rfl⟩, Nat.zero_le _, Nat.zero_le _⟩ (Nat.le_of_ble_eq_true rfl) ?_
      refine ev_ifb_ne 66 dX11_ring_61 (by decide) (fun h9 => ?_) (fun h9 => ?_)
      · rw [if_pos h9] at hf
        refine ev_aload_n dX11_ring_66 1 rfl ?_
        refine ev_getK 4 dX11_ring_67 (hS.lt (hc 0 rfl)) rfl (hS.K1 (hc 0 rfl) rfl) ciX11 (by decide) rfl flX11_40 ?_
        refine ev_iload_n dX11_ring_70 4 rfl ?_
        refine ev_iload dX11_ring_71 0 rfl ?_
        refine cl_V1 (As := [vi v4, vi v7]) (st := []) miX7_turned (tX7_turned hS (hc.w rfl rfl) v4 v7 μ (o := (fX7_turned v4 v7 μ)) rfl) dX11_ring_73 lkX11_187 inX7_turned rfl (hS.lt (hc 25 rfl)) rfl ⟨rfl, rfl⟩ ⟨⟨Nat.le_of_ble_eq_true rfl, Nat.le_of_ble_eq_true rfl⟩, Nat.zero_le _, Nat.zero_le _⟩ (Nat.le_of_ble_eq_true rfl) ?_
        obtain ⟨v10, hv10, hf⟩ := lt_elim hf
        refine ev_rni hv10 ?_
        refine ev_istore_n (al2 := [(3, vi v10), (5, vi v7), (0, vr g 0), (1, vi many), (2, vi other), (4, vi v5)]) dX11_ring_76 3 rfl (by decide) rfl ?_
        refine ev_iload dX11_ring_77 5 rfl ?_
        refine ev_iconst dX11_ring_79 ?_
        refine ev_irem dX11_ring_80 (by decide) ?_
        refine ev_if_ne 98 dX11_ring_81 (by decide) (fun h11 => ?_) (fun h11 => ?_)
        · rw [if_neg h11] at hf
          refine ev_iinc (al2 := [(4, vi (v5 + 1)), (3, vi v10), (5, vi v7), (0, vr g 0), (1, vi many), (2, vi other)]) dX11_ring_98 5 rfl (by decide) rfl ?_
          refine ev_goto 29 dX11_ring_101 (by decide) ?_
          obtain rfl := Option.some.inj hf
          refine ev_sub [3, 4, 5, 1, 0] rfl ?_
          exact hr
        · rw [if_pos h11] at hf
          refine ev_iload_n dX11_ring_84 0 rfl ?_
          refine ev_aload_n dX11_ring_85 2 rfl ?_
          refine ev_getK 7 dX11_ring_86 (hS.lt (hc 0 rfl)) rfl (hS.K1 (hc 0 rfl) rfl) ciX11 (by decide) rfl flX11_58 ?_
          refine cl_V1 (As := []) (st := [vi v10]) miX5_stack (tX5_stack hS (hc.w rfl rfl) 41 μ (by simp [isMo]) (o := (μ 41 1)) rfl) dX11_ring_89 lkX11_167 inX5_stack rfl (hS.lt (hc 41 rfl)) rfl ⟨rfl, rfl⟩ ⟨⟨Nat.le_of_ble_eq_true rfl, Nat.le_of_ble_eq_true rfl⟩, Nat.zero_le _, Nat.zero_le _⟩ (Nat.le_of_ble_eq_true rfl) ?_
          refine ev_icmp_ne 98 dX11_ring_92 (by decide) (fun h12 => ?_) (fun h12 => ?_)
          · rw [if_neg h12] at hf
            refine ev_iinc (al2 := [(4, vi (v5 + 1)), (3, vi v10), (5, vi v7), (0, vr g 0), (1, vi many), (2, vi other)]) dX11_ring_98 5 rfl (by decide) rfl ?_
            refine ev_goto 29 dX11_ring_101 (by decide) ?_
            obtain rfl := Option.some.inj hf
            refine ev_sub [3, 4, 5, 1, 0] rfl ?_
            exact hr
          · rw [if_pos h12] at hf
            refine ev_iload dX11_ring_95 5 rfl ?_
            obtain rfl := Option.some.inj hf
            exact ev_iret dX11_ring_97 rfl ⟨Nat.zero_le _, Nat.zero_le _⟩ hr
      · rw [if_neg h9] at hf
        refine ev_iconst dX11_ring_64 ?_
        obtain rfl := Option.some.inj hf
        exact ev_iret dX11_ring_65 rfl ⟨Nat.zero_le _, Nat.zero_le _⟩ hr
    refine ev_icmp_ne 48 dX11_ring_41 (by decide) (fun h8 => ?_) (fun h8 => ?_)
    · refine ev_iload_n dX11_ring_48 2 rfl ?_
      have e9 : v7 = other := hv7.trans ((if_neg h8))
      subst e9
      exact hJv7
    · refine ev_iload_n dX11_ring_44 1 rfl ?_
      refine ev_goto 49 dX11_ring_45 (by decide) ?_
      have e9 : v7 = many := hv7.trans ((if_pos h8))
      subst e9
      exact hJv7
def fX11_ring (many : Int) (other : Int) (μ : Mem) : Option (Int) :=
  if (fX11_isTurn many μ) = true then
    if (fX11_isTurn other μ) = true then
      lt (μ 41 1) fun v3 =>
      loopN (fun s => fX11_ring_b29 many other s.1 s.2 μ) FU (v3, 1)
    else
      some ((-1))
  else
    some ((-1))
set_option maxRecDepth 4000 in
theorem eX11_ring (hS : Sd M K P L) (hc : CIn P 0 75) (many : Int) (other : Int) (μ : Mem)  {o : Int} (hf : fX11_ring many other μ = some o) (hr : (fun o : Int => Φ (some (vi o)) M x (L μ)) o) : Ev l D cy g K yX11_ring cX11_ring 6 (some .int) (rmd 4 0 0) (MX D cy g K (rmd 4 0 0) Φ) 0 0 M x (L μ) 0 [(0, vr g 0), (1, vi many), (2, vi other)] [] := by
  unfold fX11_ring at hf
  refine ev_aload_n dX11_ring_0 0 rfl ?_
  refine ev_iload_n dX11_ring_1 1 rfl ?_
  refine cl_V1 (As := [vi many]) (st := []) miX11_isTurn (tX11_isTurn hS (hc.w rfl rfl) many μ (o := (fX11_isTurn many μ)) rfl) dX11_ring_2 lkX11_204 inX11_isTurn rfl (hS.lt (hc 0 rfl)) rfl ⟨rfl, rfl⟩ ⟨⟨Nat.le_of_ble_eq_true rfl, Nat.le_of_ble_eq_true rfl⟩, Nat.zero_le _, Nat.zero_le _⟩ (Nat.le_of_ble_eq_true rfl) ?_
  refine ev_ifb_eq 16 dX11_ring_5 (by decide) (fun h1 => ?_) (fun h1 => ?_)
  · rw [if_neg h1] at hf
    refine ev_iconst dX11_ring_16 ?_
    obtain rfl := Option.some.inj hf
    exact ev_iret dX11_ring_17 rfl ⟨Nat.zero_le _, Nat.zero_le _⟩ hr
  · rw [if_pos h1] at hf
    refine ev_aload_n dX11_ring_8 0 rfl ?_
    refine ev_iload_n dX11_ring_9 2 rfl ?_
    refine cl_V1 (As := [vi other]) (st := []) miX11_isTurn (tX11_isTurn hS (hc.w rfl rfl) other μ (o := (fX11_isTurn other μ)) rfl) dX11_ring_10 lkX11_204 inX11_isTurn rfl (hS.lt (hc 0 rfl)) rfl ⟨rfl, rfl⟩ ⟨⟨Nat.le_of_ble_eq_true rfl, Nat.le_of_ble_eq_true rfl⟩, Nat.zero_le _, Nat.zero_le _⟩ (Nat.le_of_ble_eq_true rfl) ?_
    refine ev_ifb_ne 18 dX11_ring_13 (by decide) (fun h2 => ?_) (fun h2 => ?_)
    · rw [if_pos h2] at hf
      refine ev_aload_n dX11_ring_18 0 rfl ?_
      refine ev_getK 7 dX11_ring_19 (hS.lt (hc 0 rfl)) rfl (hS.K1 (hc 0 rfl) rfl) ciX11 (by decide) rfl flX11_58 ?_
      refine cl_V1 (As := []) (st := []) miX5_stack (tX5_stack hS (hc.w rfl rfl) 41 μ (by simp [isMo]) (o := (μ 41 1)) rfl) dX11_ring_22 lkX11_167 inX5_stack rfl (hS.lt (hc 41 rfl)) rfl ⟨rfl, rfl⟩ ⟨⟨Nat.le_of_ble_eq_true rfl, Nat.le_of_ble_eq_true rfl⟩, Nat.zero_le _, Nat.zero_le _⟩ (Nat.le_of_ble_eq_true rfl) ?_
      obtain ⟨v3, hv3, hf⟩ := lt_elim hf
      refine ev_rni hv3 ?_
      refine ev_istore_n (al2 := [(3, vi v3), (0, vr g 0), (1, vi many), (2, vi other)]) dX11_ring_25 3 rfl (by decide) rfl ?_
      refine ev_iconst dX11_ring_26 ?_
      refine ev_istore (al2 := [(4, vi 1), (3, vi v3), (0, vr g 0), (1, vi many), (2, vi other)]) dX11_ring_27 (by decide) rfl ?_
      refine ev_sub [2, 3, 4, 1, 0] rfl ?_
      exact loop_ev (H := (fun s : Int × Int => Ev l D cy g K yX11_ring cX11_ring 6 (some .int) (rmd 4 0 0) (MX D cy g K (rmd 4 0 0) Φ) 0 0 M x (L μ) 29 [(0, vr g 0), (1, vi many), (2, vi other), (3, vi s.1), (4, vi s.2)] [])) (Hx := (fun o : Int => Φ (some (vi o)) M x (L μ))) (fun s o hb hr => tX11_ring_b29 hS hc many other s.1 s.2 μ hb hr) FU _ _ hf hr
    · rw [if_neg h2] at hf
      refine ev_iconst dX11_ring_16 ?_
      obtain rfl := Option.some.inj hf
      exact ev_iret dX11_ring_17 rfl ⟨Nat.zero_le _, Nat.zero_le _⟩ hr
theorem tX11_ring (hS : Sd M K P L) (hc : CIn P 0 75) (many : Int) (other : Int) (μ : Mem) {o : Int} (hf : fX11_ring many other μ = some o) : Cn l D cy g K K yX11_ring cX11_ring 6 (some .int) (rmd 4 0 0) [vr g 0, vi many, vi other] M x (L μ) (PE (some (vi o)) M x (L μ)) :=
 Cn.of (by decide) (Nat.le_of_ble_eq_true rfl) (eX11_ring hS hc many other μ hf (PE_i _ _ _ _))
def fX7_pairsIn_b17 (stack : Int) (v2 : Int) (v5 : Int) (v6 : Int) (μ : Mem) : Option ((Int × Int) ⊕ (Int)) :=
  if w32 v6 < w32 (μ 25 1) then
    gd (((μ 25 0) = 5 ∨ (μ 25 0) = 15)) <|
    lt (μ 25 0).toNat fun r9 =>
    lt (fX11_at (r9 + 3) (fX7_cakeIn stack v2 μ) μ) fun v10 =>
    gd (((μ 25 0) = 5 ∨ (μ 25 0) = 15)) <|
    lt (μ 25 0).toNat fun r12 =>
    lt (if w32 (fX11_at (r12 + 3) (fX7_cakeIn stack v6 μ) μ) < w32 v10 then
        1
      else
        0) fun v13 =>
    lt (v5 + v13) fun v15 =>
    some (.inl (v15, (v6 + 1)))
  else
    some (.inr v5)
set_option maxRecDepth 4000 in
theorem tX7_pairsIn_b17 (hS : Sd M K P L) (hc : CIn P 1 39) (stack : Int) (v2 : Int) (v5 : Int) (v6 : Int) (μ : Mem)  {o : (Int × Int) ⊕ (Int)} (hf : fX7_pairsIn_b17 stack v2 v5 v6 μ = some o) (hr : (Sum.elim (fun s : Int × Int => Ev l D cy g K yX7_pairsIn cX7_pairsIn 6 (some .int) (rmd 3 0 0) (MX D cy g K (rmd 3 0 0) Φ) 0 0 M x (L μ) 17 [(0, vr g 25), (1, vi stack), (2, vi s.1), (3, vi v2), (4, vi s.2)] []) (fun e : Int => Ev l D cy g K yX7_pairsIn cX7_pairsIn 6 (some .int) (rmd 3 0 0) (MX D cy g K (rmd 3 0 0) Φ) 0 0 M x (L μ) 74 [(0, vr g 25), (1, vi stack), (2, vi e), (3, vi v2)] [])) o) : Ev l D cy g K yX7_pairsIn cX7_pairsIn 6 (some .int) (rmd 3 0 0) (MX D cy g K (rmd 3 0 0) Φ) 0 0 M x (L μ) 17 [(0, vr g 25), (1, vi stack), (2, vi v5), (3, vi v2), (4, vi v6)] [] := by
  unfold fX7_pairsIn_b17 at hf
  refine ev_iload dX7_pairsIn_17 4 rfl ?_
  refine ev_aload_n dX7_pairsIn_19 0 rfl ?_
  refine ev_getI 1 dX7_pairsIn_20 (hS.lt (hc 25 rfl)) rfl (hS.mem _ (hc 25 rfl)) ciX7 (by decide) rfl flX7_65 ?_
  refine ev_icmp_ge 74 dX7_pairsIn_23 (by decide) (fun h7 => ?_) (fun h7 => ?_)
  · rw [if_neg h7] at hf
    obtain rfl := Option.some.inj hf
    refine ev_sub [0, 1, 2, 3] rfl ?_
    exact hr
  · rw [if_pos h7] at hf
    refine ev_aload_n dX7_pairsIn_26 0 rfl ?_
    obtain ⟨g8, hf⟩ := gd_elim hf
    refine ev_getR 0 dX7_pairsIn_27 (hS.lt (hc 25 rfl)) rfl (hS.mem _ (hc 25 rfl)) (hS.K0 (hc 25 rfl) rfl) (dy_Gr g8).2 ciX7 (by decide) rfl flX7_55 ?_
    obtain ⟨r9, hr9, hf⟩ := lt_elim hf
    refine ev_rn (congrArg (vr g) hr9) ?_
    have kr9 : isGr r9 := by rw [hr9]; exact (dy_Gr g8).1
    refine ev_aload_n dX7_pairsIn_30 0 rfl ?_
    refine ev_iload_n dX7_pairsIn_31 1 rfl ?_
    refine ev_iload_n dX7_pairsIn_32 3 rfl ?_
    refine cl_V1 (As := [vi stack, vi v2]) (st := [vr g r9]) miX7_cakeIn (tX7_cakeIn hS (hc.w rfl rfl) stack v2 μ (o := (fX7_cakeIn stack v2 μ)) rfl) dX7_pairsIn_33 lkX7_154 inX7_cakeIn rfl (hS.lt (hc 25 rfl)) rfl ⟨rfl, rfl⟩ ⟨⟨Nat.le_of_ble_eq_true rfl, Nat.le_of_ble_eq_true rfl⟩, Nat.zero_le _, Nat.zero_le _⟩ (Nat.le_of_ble_eq_true rfl) ?_
    refine cl_V1 (As := [vi (fX7_cakeIn stack v2 μ)]) (st := []) miX2_widthOf (tX2_widthOf hS (hc.w rfl rfl) r9 (fX7_cakeIn stack v2 μ) μ kr9 (o := (fX11_at (r9 + 3) (fX7_cakeIn stack v2 μ) μ)) rfl) dX7_pairsIn_36 lkX7_170 inX2_widthOf rfl (hS.lt (hc _ (inR_w (i_Gr0 kr9) rfl rfl))) (s_Gr0 kr9) ⟨rfl, rfl⟩ ⟨⟨Nat.le_of_ble_eq_true rfl, Nat.le_of_ble_eq_true rfl⟩, Nat.zero_le _, Nat.zero_le _⟩ (Nat.le_of_ble_eq_true rfl) ?_
    obtain ⟨v10, hv10, hf⟩ := lt_elim hf
    refine ev_rni hv10 ?_
    refine ev_istore (al2 := [(5, vi v10), (0, vr g 25), (1, vi stack), (2, vi v5), (3, vi v2), (4, vi v6)]) dX7_pairsIn_39 (by decide) rfl ?_
    refine ev_iload_n dX7_pairsIn_41 3 rfl ?_
    refine ev_aload_n dX7_pairsIn_42 1 rfl ?_
    obtain ⟨g11, hf⟩ := gd_elim hf
    refine ev_getR 0 dX7_pairsIn_43 (hS.lt (hc 25 rfl)) rfl (hS.mem _ (hc 25 rfl)) (hS.K0 (hc 25 rfl) rfl) (dy_Gr g11).2 ciX7 (by decide) rfl flX7_55 ?_
    obtain ⟨r12, hr12, hf⟩ := lt_elim hf
    refine ev_rn (congrArg (vr g) hr12) ?_
    have kr12 : isGr r12 := by rw [hr12]; exact (dy_Gr g11).1
    refine ev_aload_n dX7_pairsIn_46 1 rfl ?_
    refine ev_iload_n dX7_pairsIn_47 2 rfl ?_
    refine ev_iload dX7_pairsIn_48 5 rfl ?_
    refine cl_V1 (As := [vi stack, vi v6]) (st := [vr g r12, vi v5]) miX7_cakeIn (tX7_cakeIn hS (hc.w rfl rfl) stack v6 μ (o := (fX7_cakeIn stack v6 μ)) rfl) dX7_pairsIn_50 lkX7_154 inX7_cakeIn rfl (hS.lt (hc 25 rfl)) rfl ⟨rfl, rfl⟩ ⟨⟨Nat.le_of_ble_eq_true rfl, Nat.le_of_ble_eq_true rfl⟩, Nat.zero_le _, Nat.zero_le _⟩ (Nat.le_of_ble_eq_true rfl) ?_
    refine cl_V1 (As := [vi (fX7_cakeIn stack v6 μ)]) (st := [vi v5]) miX2_widthOf (tX2_widthOf hS (hc.w rfl rfl) r12 (fX7_cakeIn stack v6 μ) μ kr12 (o := (fX11_at (r12 + 3) (fX7_cakeIn stack v6 μ) μ)) rfl) dX7_pairsIn_53 lkX7_170 inX2_widthOf rfl (hS.lt (hc _ (inR_w (i_Gr0 kr12) rfl rfl))) (s_Gr0 kr12) ⟨rfl, rfl⟩ ⟨⟨Nat.le_of_ble_eq_true rfl, Nat.le_of_ble_eq_true rfl⟩, Nat.zero_le _, Nat.zero_le _⟩ (Nat.le_of_ble_eq_true rfl) ?_
    refine ev_iload dX7_pairsIn_56 0 rfl ?_
    obtain ⟨v13, hv13, hf⟩ := lt_elim hf
    have hJv13 : Ev l D cy g K yX7_pairsIn cX7_pairsIn 6 (some .int) (rmd 3 0 0) (MX D cy g K (rmd 3 0 0) Φ) 0 0 M x (L μ) 66 [(5, vi v10), (0, vr g 25), (1, vi stack), (2, vi v5), (3, vi v2), (4, vi v6)] [vi v13, vi v5] := by
      refine ev_iadd dX7_pairsIn_66 ?_
      obtain ⟨v15, hv15, hf⟩ := lt_elim hf
      refine ev_rni hv15 ?_
      refine ev_istore_n (al2 := [(2, vi v15), (5, vi v10), (0, vr g 25), (1, vi stack), (3, vi v2), (4, vi v6)]) dX7_pairsIn_67 2 rfl (by decide) rfl ?_
      refine ev_iinc (al2 := [(4, vi (v6 + 1)), (2, vi v15), (5, vi v10), (0, vr g 25), (1, vi stack), (3, vi v2)]) dX7_pairsIn_68 5 rfl (by decide) rfl ?_
      refine ev_goto 17 dX7_pairsIn_71 (by decide) ?_
      obtain rfl := Option.some.inj hf
      refine ev_sub [3, 4, 1, 5, 0] rfl ?_
      exact hr
    refine ev_icmp_ge 65 dX7_pairsIn_58 (by decide) (fun h14 => ?_) (fun h14 => ?_)
    · refine ev_iconst dX7_pairsIn_65 ?_
      have e9 : v13 = 0 := hv13.trans ((if_neg h14))
      subst e9
      exact hJv13
    · refine ev_iconst dX7_pairsIn_61 ?_
      refine ev_goto 66 dX7_pairsIn_62 (by decide) ?_
      have e9 : v13 = 1 := hv13.trans ((if_pos h14))
      subst e9
      exact hJv13
def fX7_pairsIn_b4 (stack : Int) (v1 : Int) (v2 : Int) (μ : Mem) : Option ((Int × Int) ⊕ (Int)) :=
  if w32 v2 < w32 (μ 25 1) then
    lt (v2 + 1) fun v4 =>
    (loopN (fun s => fX7_pairsIn_b17 stack v2 s.1 s.2 μ) FU (v1, v4)).bind fun q16 =>
    some (.inl (q16, (v2 + 1)))
  else
    some (.inr v1)
set_option maxRecDepth 4000 in
theorem tX7_pairsIn_b4 (hS : Sd M K P L) (hc : CIn P 1 39) (stack : Int) (v1 : Int) (v2 : Int) (μ : Mem)  {o : (Int × Int) ⊕ (Int)} (hf : fX7_pairsIn_b4 stack v1 v2 μ = some o) (hr : (Sum.elim (fun s : Int × Int => Ev l D cy g K yX7_pairsIn cX7_pairsIn 6 (some .int) (rmd 3 0 0) (MX D cy g K (rmd 3 0 0) Φ) 0 0 M x (L μ) 4 [(0, vr g 25), (1, vi stack), (2, vi s.1), (3, vi s.2)] []) (fun e : Int => Ev l D cy g K yX7_pairsIn cX7_pairsIn 6 (some .int) (rmd 3 0 0) (MX D cy g K (rmd 3 0 0) Φ) 0 0 M x (L μ) 80 [(2, vi e)] [])) o) : Ev l D cy g K yX7_pairsIn cX7_pairsIn 6 (some .int) (rmd 3 0 0) (MX D cy g K (rmd 3 0 0) Φ) 0 0 M x (L μ) 4 [(0, vr g 25), (1, vi stack), (2, vi v1), (3, vi v2)] [] := by
  unfold fX7_pairsIn_b4 at hf
  refine ev_iload_n dX7_pairsIn_4 3 rfl ?_
  refine ev_aload_n dX7_pairsIn_5 0 rfl ?_
  refine ev_getI 1 dX7_pairsIn_6 (hS.lt (hc 25 rfl)) rfl (hS.mem _ (hc 25 rfl)) ciX7 (by decide) rfl flX7_65 ?_
  refine ev_icmp_ge 80 dX7_pairsIn_9 (by decide) (fun h3 => ?_) (fun h3 => ?_)
  · rw [if_neg h3] at hf
    obtain rfl := Option.some.inj hf
    refine ev_sub [2] rfl ?_
    exact hr
  · rw [if_pos h3] at hf
    refine ev_iload_n dX7_pairsIn_12 3 rfl ?_
    refine ev_iconst dX7_pairsIn_13 ?_
    refine ev_iadd dX7_pairsIn_14 ?_
    obtain ⟨v4, hv4, hf⟩ := lt_elim hf
    refine ev_rni hv4 ?_
    refine ev_istore (al2 := [(4, vi v4), (0, vr g 25), (1, vi stack), (2, vi v1), (3, vi v2)]) dX7_pairsIn_15 (by decide) rfl ?_
    obtain ⟨q16, hq16, hf⟩ := Option.bind_eq_some_iff.mp hf
    refine ev_sub [1, 2, 3, 4, 0] rfl ?_
    refine loop_ev (H := (fun s : Int × Int => Ev l D cy g K yX7_pairsIn cX7_pairsIn 6 (some .int) (rmd 3 0 0) (MX D cy g K (rmd 3 0 0) Φ) 0 0 M x (L μ) 17 [(0, vr g 25), (1, vi stack), (2, vi s.1), (3, vi v2), (4, vi s.2)] [])) (Hx := (fun e : Int => Ev l D cy g K yX7_pairsIn cX7_pairsIn 6 (some .int) (rmd 3 0 0) (MX D cy g K (rmd 3 0 0) Φ) 0 0 M x (L μ) 74 [(0, vr g 25), (1, vi stack), (2, vi e), (3, vi v2)] [])) (fun s o hb hr => tX7_pairsIn_b17 hS hc stack v2 s.1 s.2 μ hb hr) FU _ _ hq16 ?_
    show Ev l D cy g K yX7_pairsIn cX7_pairsIn 6 (some .int) (rmd 3 0 0) (MX D cy g K (rmd 3 0 0) Φ) 0 0 M x (L μ) 74 [(0, vr g 25), (1, vi stack), (2, vi q16), (3, vi v2)] []
    refine ev_iinc (al2 := [(3, vi (v2 + 1)), (0, vr g 25), (1, vi stack), (2, vi q16)]) dX7_pairsIn_74 3 rfl (by decide) rfl ?_
    refine ev_goto 4 dX7_pairsIn_77 (by decide) ?_
    obtain rfl := Option.some.inj hf
    refine ev_sub [1, 2, 3, 0] rfl ?_
    exact hr
def fX7_pairsIn (stack : Int) (μ : Mem) : Option (Int) :=
  (loopN (fun s => fX7_pairsIn_b4 stack s.1 s.2 μ) FU (0, 0)).bind fun q17 =>
  some (q17)
set_option maxRecDepth 4000 in
theorem eX7_pairsIn (hS : Sd M K P L) (hc : CIn P 1 39) (stack : Int) (μ : Mem)  {o : Int} (hf : fX7_pairsIn stack μ = some o) (hr : (fun o : Int => Φ (some (vi o)) M x (L μ)) o) : Ev l D cy g K yX7_pairsIn cX7_pairsIn 6 (some .int) (rmd 3 0 0) (MX D cy g K (rmd 3 0 0) Φ) 0 0 M x (L μ) 0 [(0, vr g 25), (1, vi stack)] [] := by
  unfold fX7_pairsIn at hf
  refine ev_iconst dX7_pairsIn_0 ?_
  refine ev_istore_n (al2 := [(2, vi 0), (0, vr g 25), (1, vi stack)]) dX7_pairsIn_1 2 rfl (by decide) rfl ?_
  refine ev_iconst dX7_pairsIn_2 ?_
  refine ev_istore_n (al2 := [(3, vi 0), (2, vi 0), (0, vr g 25), (1, vi stack)]) dX7_pairsIn_3 3 rfl (by decide) rfl ?_
  obtain ⟨q17, hq17, hf⟩ := Option.bind_eq_some_iff.mp hf
  refine ev_sub [2, 3, 1, 0] rfl ?_
  refine loop_ev (H := (fun s : Int × Int => Ev l D cy g K yX7_pairsIn cX7_pairsIn 6 (some .int) (rmd 3 0 0) (MX D cy g K (rmd 3 0 0) Φ) 0 0 M x (L μ) 4 [(0, vr g 25), (1, vi stack), (2, vi s.1), (3, vi s.2)] [])) (Hx := (fun e : Int => Ev l D cy g K yX7_pairsIn cX7_pairsIn 6 (some .int) (rmd 3 0 0) (MX D cy g K (rmd 3 0 0) Φ) 0 0 M x (L μ) 80 [(2, vi e)] [])) (fun s o hb hr => tX7_pairsIn_b4 hS hc stack s.1 s.2 μ hb hr) FU _ _ hq17 ?_
  show Ev l D cy g K yX7_pairsIn cX7_pairsIn 6 (some .int) (rmd 3 0 0) (MX D cy g K (rmd 3 0 0) Φ) 0 0 M x (L μ) 80 [(2, vi q17)] []
  refine ev_iload_n dX7_pairsIn_80 0 rfl ?_
  obtain rfl := Option.some.inj hf
  exact ev_iret dX7_pairsIn_81 rfl ⟨Nat.zero_le _, Nat.zero_le _⟩ hr
theorem tX7_pairsIn (hS : Sd M K P L) (hc : CIn P 1 39) (stack : Int) (μ : Mem) {o : Int} (hf : fX7_pairsIn stack μ = some o) : Cn l D cy g K K yX7_pairsIn cX7_pairsIn 6 (some .int) (rmd 3 0 0) [vr g 25, vi stack] M x (L μ) (PE (some (vi o)) M x (L μ)) :=
 Cn.of (by decide) (Nat.le_of_ble_eq_true rfl) (eX7_pairsIn hS hc stack μ hf (PE_i _ _ _ _))
def fX11_pairs  (μ : Mem) : Option (Int) :=
  (fX7_pairsIn (μ 41 1) μ).bind fun v1 =>
  some (v1)
set_option maxRecDepth 4000 in
theorem eX11_pairs (hS : Sd M K P L) (hc : CIn P 0 75)  (μ : Mem)  {o : Int} (hf : fX11_pairs  μ = some o) (hr : (fun o : Int => Φ (some (vi o)) M x (L μ)) o) : Ev l D cy g K yX11_pairs cX11_pairs 1 (some .int) (rmd 4 0 0) (MX D cy g K (rmd 4 0 0) Φ) 0 0 M x (L μ) 0 [(0, vr g 0)] [] := by
  unfold fX11_pairs at hf
  refine ev_aload_n dX11_pairs_0 0 rfl ?_
  refine ev_getK 4 dX11_pairs_1 (hS.lt (hc 0 rfl)) rfl (hS.K1 (hc 0 rfl) rfl) ciX11 (by decide) rfl flX11_40 ?_
  refine ev_aload_n dX11_pairs_4 0 rfl ?_
  refine ev_getK 7 dX11_pairs_5 (hS.lt (hc 0 rfl)) rfl (hS.K1 (hc 0 rfl) rfl) ciX11 (by decide) rfl flX11_58 ?_
  refine cl_V1 (As := []) (st := [vr g 25]) miX5_stack (tX5_stack hS (hc.w rfl rfl) 41 μ (by simp [isMo]) (o := (μ 41 1)) rfl) dX11_pairs_8 lkX11_167 inX5_stack rfl (hS.lt (hc 41 rfl)) rfl ⟨rfl, rfl⟩ ⟨⟨Nat.le_of_ble_eq_true rfl, Nat.le_of_ble_eq_true rfl⟩, Nat.zero_le _, Nat.zero_le _⟩ (Nat.le_of_ble_eq_true rfl) ?_
  obtain ⟨v1, hv1, hf⟩ := Option.bind_eq_some_iff.mp hf
  refine cl_V1 (As := [vi (μ 41 1)]) (st := []) miX7_pairsIn (tX7_pairsIn hS (hc.w rfl rfl) (μ 41 1) μ hv1) dX11_pairs_11 lkX11_255 inX7_pairsIn rfl (hS.lt (hc 25 rfl)) rfl ⟨rfl, rfl⟩ ⟨⟨Nat.le_of_ble_eq_true rfl, Nat.le_of_ble_eq_true rfl⟩, Nat.zero_le _, Nat.zero_le _⟩ (Nat.le_of_ble_eq_true rfl) ?_
  obtain rfl := Option.some.inj hf
  exact ev_iret dX11_pairs_14 rfl ⟨Nat.zero_le _, Nat.zero_le _⟩ hr
theorem tX11_pairs (hS : Sd M K P L) (hc : CIn P 0 75) (μ : Mem) {o : Int} (hf : fX11_pairs μ = some o) : Cn l D cy g K K yX11_pairs cX11_pairs 1 (some .int) (rmd 4 0 0) [vr g 0] M x (L μ) (PE (some (vi o)) M x (L μ)) :=
 Cn.of (by decide) (Nat.le_of_ble_eq_true rfl) (eX11_pairs hS hc μ hf (PE_i _ _ _ _))
def fX8_stacksWithin_b4 (k : Nat) (asked : Int) (v1 : Int) (v2 : Int) (μ : Mem) : Option ((Int × Int) ⊕ (Int)) :=
  if w32 v2 < w32 (i_shl (μ 25 3) (μ 25 2)) then
    lt (if w32 (fX11_at (k + 1) v2 μ) < 0 then
        0
      else
        if w32 (fX11_at (k + 1) v2 μ) ≤ w32 asked then
          1
        else
          0) fun v4 =>
    lt (v1 + v4) fun v7 =>
    some (.inl (v7, (v2 + 1)))
  else
    some (.inr v1)
set_option maxRecDepth 4000 in
theorem tX8_stacksWithin_b4 (hS : Sd M K P L) (hc : CIn P 1 75) (k : Nat) (asked : Int) (v1 : Int) (v2 : Int) (μ : Mem) (hk : isSt k) {o : (Int × Int) ⊕ (Int)} (hf : fX8_stacksWithin_b4 k asked v1 v2 μ = some o) (hr : (Sum.elim (fun s : Int × Int => Ev l D cy g K yX8_stacksWithin cX8_stacksWithin 4 (some .int) (rmd 2 0 0) (MX D cy g K (rmd 2 0 0) Φ) 0 0 M x (L μ) 4 [(0, vr g k), (1, vi asked), (2, vi s.1), (3, vi s.2)] []) (fun e : Int => Ev l D cy g K yX8_stacksWithin cX8_stacksWithin 4 (some .int) (rmd 2 0 0) (MX D cy g K (rmd 2 0 0) Φ) 0 0 M x (L μ) 52 [(2, vi e)] [])) o) : Ev l D cy g K yX8_stacksWithin cX8_stacksWithin 4 (some .int) (rmd 2 0 0) (MX D cy g K (rmd 2 0 0) Φ) 0 0 M x (L μ) 4 [(0, vr g k), (1, vi asked), (2, vi v1), (3, vi v2)] [] := by
  unfold fX8_stacksWithin_b4 at hf
  refine ev_iload_n dX8_stacksWithin_4 3 rfl ?_
  refine ev_aload_n dX8_stacksWithin_5 0 rfl ?_
  refine ev_getK 0 dX8_stacksWithin_6 (hS.lt (hc _ (inR_w (i_St0 hk) rfl rfl))) (s_St0 hk) (hS.K1 (hc _ (inR_w (i_St0 hk) rfl rfl)) (K_St0 hk)) ciX8 (by decide) rfl flX8_19 ?_
  refine cl_V1 (As := []) (st := [vi v2]) miX7_all (tX7_all hS (hc.w rfl rfl) μ (o := (i_shl (μ 25 3) (μ 25 2))) rfl) dX8_stacksWithin_9 lkX8_39 inX7_all rfl (hS.lt (hc 25 rfl)) rfl ⟨rfl, rfl⟩ ⟨⟨Nat.le_of_ble_eq_true rfl, Nat.le_of_ble_eq_true rfl⟩, Nat.zero_le _, Nat.zero_le _⟩ (Nat.le_of_ble_eq_true rfl) ?_
  refine ev_icmp_ge 52 dX8_stacksWithin_12 (by decide) (fun h3 => ?_) (fun h3 => ?_)
  · rw [if_neg h3] at hf
    obtain rfl := Option.some.inj hf
    refine ev_sub [2] rfl ?_
    exact hr
  · rw [if_pos h3] at hf
    refine ev_iload_n dX8_stacksWithin_15 2 rfl ?_
    refine ev_aload_n dX8_stacksWithin_16 0 rfl ?_
    refine ev_getK 3 dX8_stacksWithin_17 (hS.lt (hc _ (inR_w (i_St0 hk) rfl rfl))) (s_St0 hk) (hS.K1 (hc _ (inR_w (i_St0 hk) rfl rfl)) (K_St3 hk)) ciX8 (by decide) rfl flX8_9 ?_
    refine ev_iload_n dX8_stacksWithin_20 3 rfl ?_
    refine cl_N1 (As := [vr g (k + 1), vi v2]) (st := [vi v1]) (host := "HotCakes") miX11_at (tX11_at hS (hc.w rfl rfl) (k + 1) v2 μ (⟨(hc _ (inR_w (i_St1 hk) rfl rfl)), (ia_of (s_St1 hk))⟩) (o := (fX11_at (k + 1) v2 μ)) rfl) dX8_stacksWithin_21 (by decide) stX11_at rfl ⟨⟨Nat.le_of_ble_eq_true rfl, Nat.le_of_ble_eq_true rfl⟩, Nat.zero_le _, Nat.zero_le _⟩ (Nat.le_of_ble_eq_true rfl) ?_
    obtain ⟨v4, hv4, hf⟩ := lt_elim hf
    have hJv4 : Ev l D cy g K yX8_stacksWithin cX8_stacksWithin 4 (some .int) (rmd 2 0 0) (MX D cy g K (rmd 2 0 0) Φ) 0 0 M x (L μ) 44 [(0, vr g k), (1, vi asked), (2, vi v1), (3, vi v2)] [vi v4, vi v1] := by
      refine ev_iadd dX8_stacksWithin_44 ?_
      obtain ⟨v7, hv7, hf⟩ := lt_elim hf
      refine ev_rni hv7 ?_
      refine ev_istore_n (al2 := [(2, vi v7), (0, vr g k), (1, vi asked), (3, vi v2)]) dX8_stacksWithin_45 2 rfl (by decide) rfl ?_
      refine ev_iinc (al2 := [(3, vi (v2 + 1)), (2, vi v7), (0, vr g k), (1, vi asked)]) dX8_stacksWithin_46 3 rfl (by decide) rfl ?_
      refine ev_goto 4 dX8_stacksWithin_49 (by decide) ?_
      obtain rfl := Option.some.inj hf
      refine ev_sub [2, 3, 1, 0] rfl ?_
      exact hr
    refine ev_if_lt 43 dX8_stacksWithin_24 (by decide) (fun h5 => ?_) (fun h5 => ?_)
    · refine ev_iconst dX8_stacksWithin_43 ?_
      have e9 : v4 = 0 := hv4.trans ((if_pos h5))
      subst e9
      exact hJv4
    · refine ev_aload_n dX8_stacksWithin_27 0 rfl ?_
      refine ev_getK 3 dX8_stacksWithin_28 (hS.lt (hc _ (inR_w (i_St0 hk) rfl rfl))) (s_St0 hk) (hS.K1 (hc _ (inR_w (i_St0 hk) rfl rfl)) (K_St3 hk)) ciX8 (by decide) rfl flX8_9 ?_
      refine ev_iload_n dX8_stacksWithin_31 3 rfl ?_
      refine cl_N1 (As := [vr g (k + 1), vi v2]) (st := [vi v1]) (host := "HotCakes") miX11_at (tX11_at hS (hc.w rfl rfl) (k + 1) v2 μ (⟨(hc _ (inR_w (i_St1 hk) rfl rfl)), (ia_of (s_St1 hk))⟩) (o := (fX11_at (k + 1) v2 μ)) rfl) dX8_stacksWithin_32 (by decide) stX11_at rfl ⟨⟨Nat.le_of_ble_eq_true rfl, Nat.le_of_ble_eq_true rfl⟩, Nat.zero_le _, Nat.zero_le _⟩ (Nat.le_of_ble_eq_true rfl) ?_
      refine ev_iload_n dX8_stacksWithin_35 1 rfl ?_
      refine ev_icmp_gt 43 dX8_stacksWithin_36 (by decide) (fun h6 => ?_) (fun h6 => ?_)
      · refine ev_iconst dX8_stacksWithin_43 ?_
        have e9 : v4 = 0 := hv4.trans (((if_neg h5)).trans (if_neg h6))
        subst e9
        exact hJv4
      · refine ev_iconst dX8_stacksWithin_39 ?_
        refine ev_goto 44 dX8_stacksWithin_40 (by decide) ?_
        have e9 : v4 = 1 := hv4.trans (((if_neg h5)).trans (if_pos h6))
        subst e9
        exact hJv4
def fX8_stacksWithin (k : Nat) (asked : Int) (μ : Mem) : Option (Int) :=
  (loopN (fun s => fX8_stacksWithin_b4 k asked s.1 s.2 μ) FU (0, 0)).bind fun q8 =>
  some (q8)
set_option maxRecDepth 4000 in
theorem eX8_stacksWithin (hS : Sd M K P L) (hc : CIn P 1 75) (k : Nat) (asked : Int) (μ : Mem) (hk : isSt k) {o : Int} (hf : fX8_stacksWithin k asked μ = some o) (hr : (fun o : Int => Φ (some (vi o)) M x (L μ)) o) : Ev l D cy g K yX8_stacksWithin cX8_stacksWithin 4 (some .int) (rmd 2 0 0) (MX D cy g K (rmd 2 0 0) Φ) 0 0 M x (L μ) 0 [(0, vr g k), (1, vi asked)] [] := by
  unfold fX8_stacksWithin at hf
  refine ev_iconst dX8_stacksWithin_0 ?_
  refine ev_istore_n (al2 := [(2, vi 0), (0, vr g k), (1, vi asked)]) dX8_stacksWithin_1 2 rfl (by decide) rfl ?_
  refine ev_iconst dX8_stacksWithin_2 ?_
  refine ev_istore_n (al2 := [(3, vi 0), (2, vi 0), (0, vr g k), (1, vi asked)]) dX8_stacksWithin_3 3 rfl (by decide) rfl ?_
  obtain ⟨q8, hq8, hf⟩ := Option.bind_eq_some_iff.mp hf
  refine ev_sub [2, 3, 1, 0] rfl ?_
  refine loop_ev (H := (fun s : Int × Int => Ev l D cy g K yX8_stacksWithin cX8_stacksWithin 4 (some .int) (rmd 2 0 0) (MX D cy g K (rmd 2 0 0) Φ) 0 0 M x (L μ) 4 [(0, vr g k), (1, vi asked), (2, vi s.1), (3, vi s.2)] [])) (Hx := (fun e : Int => Ev l D cy g K yX8_stacksWithin cX8_stacksWithin 4 (some .int) (rmd 2 0 0) (MX D cy g K (rmd 2 0 0) Φ) 0 0 M x (L μ) 52 [(2, vi e)] [])) (fun s o hb hr => tX8_stacksWithin_b4 hS hc k asked s.1 s.2 μ hk hb hr) FU _ _ hq8 ?_
  show Ev l D cy g K yX8_stacksWithin cX8_stacksWithin 4 (some .int) (rmd 2 0 0) (MX D cy g K (rmd 2 0 0) Φ) 0 0 M x (L μ) 52 [(2, vi q8)] []
  refine ev_iload_n dX8_stacksWithin_52 0 rfl ?_
  obtain rfl := Option.some.inj hf
  exact ev_iret dX8_stacksWithin_53 rfl ⟨Nat.zero_le _, Nat.zero_le _⟩ hr
theorem tX8_stacksWithin (hS : Sd M K P L) (hc : CIn P 1 75) (k : Nat) (asked : Int) (μ : Mem) (hk : isSt k) {o : Int} (hf : fX8_stacksWithin k asked μ = some o) : Cn l D cy g K K yX8_stacksWithin cX8_stacksWithin 4 (some .int) (rmd 2 0 0) [vr g k, vi asked] M x (L μ) (PE (some (vi o)) M x (L μ)) :=
 Cn.of (by decide) (Nat.le_of_ble_eq_true rfl) (eX8_stacksWithin hS hc k asked μ hk hf (PE_i _ _ _ _))
def fX11_reached (turns : Int) (μ : Mem) : Option (Int × Mem) :=
  if w32 turns < 0 then
    some (((-1), μ))
  else
    if w32 turns ≤ w32 60 then
      (fX11_nowSteps μ).bind fun μ3 =>
      (fX8_stacksWithin 51 turns μ3).bind fun v4 =>
      some ((v4, μ3))
    else
      some (((-1), μ))
set_option maxRecDepth 4000 in
theorem eX11_reached (hS : Sd M K P L) (hc : CIn P 0 75) (turns : Int) (μ : Mem)  {o : Int × Mem} (hf : fX11_reached turns μ = some o) (hr : (fun o : Int × Mem => Φ (some (vi o.1)) M x (L o.2)) o) : Ev l D cy g K yX11_reached cX11_reached 2 (some .int) (rmd 7 0 0) (MX D cy g K (rmd 7 0 0) Φ) 0 0 M x (L μ) 0 [(0, vr g 0), (1, vi turns)] [] := by
  unfold fX11_reached at hf
  refine ev_iload_n dX11_reached_0 1 rfl ?_
  refine ev_if_lt 10 dX11_reached_1 (by decide) (fun h1 => ?_) (fun h1 => ?_)
  · rw [if_pos h1] at hf
    refine ev_iconst dX11_reached_10 ?_
    refine ev_goto 22 dX11_reached_11 (by decide) ?_
    obtain rfl := Option.some.inj hf
    exact ev_iret dX11_reached_22 rfl ⟨Nat.zero_le _, Nat.zero_le _⟩ hr
  · rw [if_neg h1] at hf
    refine ev_iload_n dX11_reached_4 1 rfl ?_
    refine ev_bipush dX11_reached_5 (by decide) ?_
    refine ev_icmp_le 14 dX11_reached_7 (by decide) (fun h2 => ?_) (fun h2 => ?_)
    · rw [if_pos h2] at hf
      refine ev_aload_n dX11_reached_14 0 rfl ?_
      obtain ⟨μ3, hμ3, hf⟩ := Option.bind_eq_some_iff.mp hf
      refine cl_V1 (As := []) (st := []) miX11_nowSteps (tX11_nowSteps hS (hc.w rfl rfl) μ hμ3) dX11_reached_15 lkX11_249 inX11_nowSteps rfl (hS.lt (hc 0 rfl)) rfl ⟨rfl, rfl⟩ ⟨⟨Nat.le_of_ble_eq_true rfl, Nat.le_of_ble_eq_true rfl⟩, Nat.zero_le _, Nat.zero_le _⟩ (Nat.le_of_ble_eq_true rfl) ?_
      refine ev_iload_n dX11_reached_18 1 rfl ?_
      obtain ⟨v4, hv4, hf⟩ := Option.bind_eq_some_iff.mp hf
      refine cl_V1 (As := [vi turns]) (st := []) miX8_stacksWithin (tX8_stacksWithin hS (hc.w rfl rfl) 51 turns μ3 (by simp [isSt]) hv4) dX11_reached_19 lkX11_258 inX8_stacksWithin rfl (hS.lt (hc 51 rfl)) rfl ⟨rfl, rfl⟩ ⟨⟨Nat.le_of_ble_eq_true rfl, Nat.le_of_ble_eq_true rfl⟩, Nat.zero_le _, Nat.zero_le _⟩ (Nat.le_of_ble_eq_true rfl) ?_
      obtain rfl := Option.some.inj hf
      exact ev_iret dX11_reached_22 rfl ⟨Nat.zero_le _, Nat.zero_le _⟩ hr
    · rw [if_neg h2] at hf
      refine ev_iconst dX11_reached_10 ?_
      refine ev_goto 22 dX11_reached_11 (by decide) ?_
      obtain rfl := Option.some.inj hf
      exact ev_iret dX11_reached_22 rfl ⟨Nat.zero_le _, Nat.zero_le _⟩ hr
theorem tX11_reached (hS : Sd M K P L) (hc : CIn P 0 75) (turns : Int) (μ : Mem) {o : Int × Mem} (hf : fX11_reached turns μ = some o) : Cn l D cy g K K yX11_reached cX11_reached 2 (some .int) (rmd 7 0 0) [vr g 0, vi turns] M x (L μ) (PE (some (vi o.1)) M x (L o.2)) :=
 Cn.of (by decide) (Nat.le_of_ble_eq_true rfl) (eX11_reached hS hc turns μ hf (PE_i _ _ _ _))
def fX7_mayLie (stack : Int) (cake : Int) (up0 : Bool) (μ : Mem) : Option (Bool) :=
  gd (((μ 25 0) = 5 ∨ (μ 25 0) = 15)) <|
  lt (μ 25 0).toNat fun r2 =>
  lt (if (fX2_hasSide r2 cake μ) = true then
      if w32 (b2i (fX7_isUp stack cake μ)) = w32 (b2i up0) then
        true
      else
        false
    else
      true) fun v3 =>
  some (v3)
set_option maxRecDepth 4000 in
theorem eX7_mayLie (hS : Sd M K P L) (hc : CIn P 1 39) (stack : Int) (cake : Int) (up0 : Bool) (μ : Mem)  {o : Bool} (hf : fX7_mayLie stack cake up0 μ = some o) (hr : (fun o : Bool => Φ (some (vb o)) M x (L μ)) o) : Ev l D cy g K yX7_mayLie cX7_mayLie 4 (some .boolean) (rmd 4 0 0) (MX D cy g K (rmd 4 0 0) Φ) 0 0 M x (L μ) 0 [(0, vr g 25), (1, vi stack), (2, vi cake), (3, vb up0)] [] := by
  unfold fX7_mayLie at hf
  refine ev_aload_n dX7_mayLie_0 0 rfl ?_
  obtain ⟨g1, hf⟩ := gd_elim hf
  refine ev_getR 0 dX7_mayLie_1 (hS.lt (hc 25 rfl)) rfl (hS.mem _ (hc 25 rfl)) (hS.K0 (hc 25 rfl) rfl) (dy_Gr g1).2 ciX7 (by decide) rfl flX7_55 ?_
  obtain ⟨r2, hr2, hf⟩ := lt_elim hf
  refine ev_rn (congrArg (vr g) hr2) ?_
  have kr2 : isGr r2 := by rw [hr2]; exact (dy_Gr g1).1
  refine ev_iload_n dX7_mayLie_4 2 rfl ?_
  refine cl_V1 (As := [vi cake]) (st := []) miX2_hasSide (tX2_hasSide hS (hc.w rfl rfl) r2 cake μ kr2 (o := (fX2_hasSide r2 cake μ)) rfl) dX7_mayLie_5 lkX7_72 inX2_hasSide rfl (hS.lt (hc _ (inR_w (i_Gr0 kr2) rfl rfl))) (s_Gr0 kr2) ⟨rfl, rfl⟩ ⟨⟨Nat.le_of_ble_eq_true rfl, Nat.le_of_ble_eq_true rfl⟩, Nat.zero_le _, Nat.zero_le _⟩ (Nat.le_of_ble_eq_true rfl) ?_
  obtain ⟨v3, hv3, hf⟩ := lt_elim hf
  have hJv3 : Ev l D cy g K yX7_mayLie cX7_mayLie 4 (some .boolean) (rmd 4 0 0) (MX D cy g K (rmd 4 0 0) Φ) 0 0 M x (L μ) 26 [(0, vr g 25), (1, vi stack), (2, vi cake), (3, vb up0)] [vb v3] := by
    obtain rfl := Option.some.inj hf
    exact ev_bret (b := v3) dX7_mayLie_26 rfl ⟨Nat.zero_le _, Nat.zero_le _⟩ hr
  refine ev_ifb_eq 21 dX7_mayLie_8 (by decide) (fun h4 => ?_) (fun h4 => ?_)
  · refine ev_iconst dX7_mayLie_21 ?_
    refine ev_goto 26 dX7_mayLie_22 (by decide) ?_
    have e9 : v3 = true := hv3.trans ((if_neg h4))
    subst e9
    exact hJv3
  · refine ev_aload_n dX7_mayLie_11 0 rfl ?_
    refine ev_iload_n dX7_mayLie_12 1 rfl ?_
    refine ev_iload_n dX7_mayLie_13 2 rfl ?_
    refine cl_V1 (As := [vi stack, vi cake]) (st := []) miX7_isUp (tX7_isUp hS (hc.w rfl rfl) stack cake μ (o := (fX7_isUp stack cake μ)) rfl) dX7_mayLie_14 lkX7_166 inX7_isUp rfl (hS.lt (hc 25 rfl)) rfl ⟨rfl, rfl⟩ ⟨⟨Nat.le_of_ble_eq_true rfl, Nat.le_of_ble_eq_true rfl⟩, Nat.zero_le _, Nat.zero_le _⟩ (Nat.le_of_ble_eq_true rfl) ?_
    refine ev_iload_n dX7_mayLie_17 3 rfl ?_
    refine ev_icmp_ne 25 dX7_mayLie_18 (by decide) (fun h5 => ?_) (fun h5 => ?_)
    · refine ev_iconst dX7_mayLie_25 ?_
      have e9 : v3 = false := hv3.trans (((if_pos h4)).trans (if_neg h5))
      subst e9
      exact hJv3
    · refine ev_iconst dX7_mayLie_21 ?_
      refine ev_goto 26 dX7_mayLie_22 (by decide) ?_
      have e9 : v3 = true := hv3.trans (((if_pos h4)).trans (if_pos h5))
      subst e9
      exact hJv3
theorem tX7_mayLie (hS : Sd M K P L) (hc : CIn P 1 39) (stack : Int) (cake : Int) (up0 : Bool) (μ : Mem) {o : Bool} (hf : fX7_mayLie stack cake up0 μ = some o) : Cn l D cy g K K yX7_mayLie cX7_mayLie 4 (some .boolean) (rmd 4 0 0) [vr g 25, vi stack, vi cake, vb up0] M x (L μ) (PE (some (vb o)) M x (L μ)) :=
 Cn.of (by decide) (Nat.le_of_ble_eq_true rfl) (eX7_mayLie hS hc stack cake up0 μ hf (PE_i _ _ _ _))
def fX7_isGap (stack : Int) (place : Int) (μ : Mem) : Option (Bool) :=
  lt (fX7_cakeIn stack place μ) fun v1 =>
  gd (((μ 25 0) = 5 ∨ (μ 25 0) = 15)) <|
  lt (μ 25 0).toNat fun r3 =>
  (fX2_rankOf r3 v1 μ).bind fun v4 =>
  if w32 (place + 1) < w32 (μ 25 1) then
    lt (fX7_cakeIn stack (place + 1) μ) fun v6 =>
    gd (((μ 25 0) = 5 ∨ (μ 25 0) = 15)) <|
    lt (μ 25 0).toNat fun r8 =>
    (fX2_rankOf r8 v6 μ).bind fun v9 =>
    lt (if w32 v9 = w32 (v4 - 1) then
        true
      else
        false) fun v10 =>
    lt (if v10 = true then
        true
      else
        if w32 v9 = w32 (v4 + 1) then
          true
        else
          false) fun v12 =>
    if v12 = true then
      (fX7_mayLie stack v1 v10 μ).bind fun v16 =>
      if v16 = true then
        (fX7_mayLie stack v6 v10 μ).bind fun v18 =>
        lt (if v18 = true then
            false
          else
            true) fun v19 =>
        some (v19)
      else
        some (true)
    else
      some (true)
  else
    if w32 (v4 + 1) = w32 (μ 25 1) then
      (fX7_mayLie stack v1 false μ).bind fun v22 =>
      lt (if v22 = true then
          false
        else
          true) fun v23 =>
      some (v23)
    else
      some (true)
set_option maxRecDepth 4000 in
theorem eX7_isGap (hS : Sd M K P L) (hc : CIn P 1 39) (stack : Int) (place : Int) (μ : Mem)  {o : Bool} (hf : fX7_isGap stack place μ = some o) (hr : (fun o : Bool => Φ (some (vb o)) M x (L μ)) o) : Ev l D cy g K yX7_isGap cX7_isGap 9 (some .boolean) (rmd 5 0 0) (MX D cy g K (rmd 5 0 0) Φ) 0 0 M x (L μ) 0 [(0, vr g 25), (1, vi stack), (2, vi place)] [] := by
  unfold fX7_isGap at hf
  refine ev_aload_n dX7_isGap_0 0 rfl ?_
  refine ev_iload_n dX7_isGap_1 1 rfl ?_
  refine ev_iload_n dX7_isGap_2 2 rfl ?_
  refine cl_V1 (As := [vi stack, vi place]) (st := []) miX7_cakeIn (tX7_cakeIn hS (hc.w rfl rfl) stack place μ (o := (fX7_cakeIn stack place μ)) rfl) dX7_isGap_3 lkX7_154 inX7_cakeIn rfl (hS.lt (hc 25 rfl)) rfl ⟨rfl, rfl⟩ ⟨⟨Nat.le_of_ble_eq_true rfl, Nat.le_of_ble_eq_true rfl⟩, Nat.zero_le _, Nat.zero_le _⟩ (Nat.le_of_ble_eq_true rfl) ?_
  obtain ⟨v1, hv1, hf⟩ := lt_elim hf
  refine ev_rni hv1 ?_
  refine ev_istore_n (al2 := [(3, vi v1), (0, vr g 25), (1, vi stack), (2, vi place)]) dX7_isGap_6 3 rfl (by decide) rfl ?_
  refine ev_aload_n dX7_isGap_7 1 rfl ?_
  obtain ⟨g2, hf⟩ := gd_elim hf
  refine ev_getR 0 dX7_isGap_8 (hS.lt (hc 25 rfl)) rfl (hS.mem _ (hc 25 rfl)) (hS.K0 (hc 25 rfl) rfl) (dy_Gr g2).2 ciX7 (by decide) rfl flX7_55 ?_
  obtain ⟨r3, hr3, hf⟩ := lt_elim hf
  refine ev_rn (congrArg (vr g) hr3) ?_
  have kr3 : isGr r3 := by rw [hr3]; exact (dy_Gr g2).1
  refine ev_iload_n dX7_isGap_11 0 rfl ?_
  obtain ⟨v4, hv4, hf⟩ := Option.bind_eq_some_iff.mp hf
  refine cl_V1 (As := [vi v1]) (st := []) miX2_rankOf (tX2_rankOf hS (hc.w rfl rfl) r3 v1 μ kr3 hv4) dX7_isGap_12 lkX7_101 inX2_rankOf rfl (hS.lt (hc _ (inR_w (i_Gr0 kr3) rfl rfl))) (s_Gr0 kr3) ⟨rfl, rfl⟩ ⟨⟨Nat.le_of_ble_eq_true rfl, Nat.le_of_ble_eq_true rfl⟩, Nat.zero_le _, Nat.zero_le _⟩ (Nat.le_of_ble_eq_true rfl) ?_
  refine ev_istore (al2 := [(4, vi v4), (3, vi v1), (0, vr g 25), (1, vi stack), (2, vi place)]) dX7_isGap_15 (by decide) rfl ?_
  refine ev_iload_n dX7_isGap_17 4 rfl ?_
  refine ev_iconst dX7_isGap_18 ?_
  refine ev_iadd dX7_isGap_19 ?_
  refine ev_aload_n dX7_isGap_20 2 rfl ?_
  refine ev_getI 1 dX7_isGap_21 (hS.lt (hc 25 rfl)) rfl (hS.mem _ (hc 25 rfl)) ciX7 (by decide) rfl flX7_65 ?_
  refine ev_icmp_lt 54 dX7_isGap_24 (by decide) (fun h5 => ?_) (fun h5 => ?_)
  · rw [if_pos h5] at hf
    refine ev_aload_n dX7_isGap_54 2 rfl ?_
    refine ev_iload_n dX7_isGap_55 3 rfl ?_
    refine ev_iload_n dX7_isGap_56 4 rfl ?_
    refine ev_iconst dX7_isGap_57 ?_
    refine ev_iadd dX7_isGap_58 ?_
    obtain ⟨v6, hv6, hf⟩ := lt_elim hf
    refine cl_V1 (As := [vi stack, vi (place + 1)]) (st := []) miX7_cakeIn (tX7_cakeIn hS (hc.w rfl rfl) stack (place + 1) μ hv6.symm) dX7_isGap_59 lkX7_154 inX7_cakeIn rfl (hS.lt (hc 25 rfl)) rfl ⟨rfl, rfl⟩ ⟨⟨Nat.le_of_ble_eq_true rfl, Nat.le_of_ble_eq_true rfl⟩, Nat.zero_le _, Nat.zero_le _⟩ (Nat.le_of_ble_eq_true rfl) ?_
    refine ev_istore (al2 := [(5, vi v6), (4, vi v4), (3, vi v1), (0, vr g 25), (1, vi stack), (2, vi place)]) dX7_isGap_62 (by decide) rfl ?_
    refine ev_aload_n dX7_isGap_64 3 rfl ?_
    obtain ⟨g7, hf⟩ := gd_elim hf
    refine ev_getR 0 dX7_isGap_65 (hS.lt (hc 25 rfl)) rfl (hS.mem _ (hc 25 rfl)) (hS.K0 (hc 25 rfl) rfl) (dy_Gr g7).2 ciX7 (by decide) rfl flX7_55 ?_
    obtain ⟨r8, hr8, hf⟩ := lt_elim hf
    refine ev_rn (congrArg (vr g) hr8) ?_
    have kr8 : isGr r8 := by rw [hr8]; exact (dy_Gr g7).1
    refine ev_iload dX7_isGap_68 0 rfl ?_
    obtain ⟨v9, hv9, hf⟩ := Option.bind_eq_some_iff.mp hf
    refine cl_V1 (As := [vi v6]) (st := []) miX2_rankOf (tX2_rankOf hS (hc.w rfl rfl) r8 v6 μ kr8 hv9) dX7_isGap_70 lkX7_101 inX2_rankOf rfl (hS.lt (hc _ (inR_w (i_Gr0 kr8) rfl rfl))) (s_Gr0 kr8) ⟨rfl, rfl⟩ ⟨⟨Nat.le_of_ble_eq_true rfl, Nat.le_of_ble_eq_true rfl⟩, Nat.zero_le _, Nat.zero_le _⟩ (Nat.le_of_ble_eq_true rfl) ?_
    refine ev_istore (al2 := [(6, vi v9), (5, vi v6), (4, vi v4), (3, vi v1), (0, vr g 25), (1, vi stack), (2, vi place)]) dX7_isGap_73 (by decide) rfl ?_
    refine ev_iload dX7_isGap_75 0 rfl ?_
    refine ev_iload dX7_isGap_77 2 rfl ?_
    refine ev_iconst dX7_isGap_79 ?_
    refine ev_isub dX7_isGap_80 ?_
    obtain ⟨v10, hv10, hf⟩ := lt_elim hf
    have hJv10 : Ev l D cy g K yX7_isGap cX7_isGap 9 (some .boolean) (rmd 5 0 0) (MX D cy g K (rmd 5 0 0) Φ) 0 0 M x (L μ) 89 [(6, vi v9), (5, vi v6), (4, vi v4), (3, vi v1), (0, vr g 25), (1, vi stack), (2, vi place)] [vb v10] := by
      refine ev_istore (al2 := [(7, vb v10), (6, vi v9), (5, vi v6), (4, vi v4), (3, vi v1), (0, vr g 25), (1, vi stack), (2, vi place)]) dX7_isGap_89 (by decide) rfl ?_
      refine ev_iload dX7_isGap_91 0 rfl ?_
      obtain ⟨v12, hv12, hf⟩ := lt_elim hf
      have hJv12 : Ev l D cy g K yX7_isGap cX7_isGap 9 (some .boolean) (rmd 5 0 0) (MX D cy g K (rmd 5 0 0) Φ) 0 0 M x (L μ) 110 [(7, vb v10), (6, vi v9), (5, vi v6), (4, vi v4), (3, vi v1), (0, vr g 25), (1, vi stack), (2, vi place)] [vb v12] := by
        refine ev_istore (al2 := [(8, vb v12), (7, vb v10), (6, vi v9), (5, vi v6), (4, vi v4), (3, vi v1), (0, vr g 25), (1, vi stack), (2, vi place)]) dX7_isGap_110 (by decide) rfl ?_
        refine ev_iload dX7_isGap_112 0 rfl ?_
        refine ev_ifb_eq 140 dX7_isGap_114 (by decide) (fun h15 => ?_) (fun h15 => ?_)
        · rw [if_neg h15] at hf
          refine ev_iconst dX7_isGap_140 ?_
          refine ev_goto 145 dX7_isGap_141 (by decide) ?_
          obtain rfl := Option.some.inj hf
          exact ev_bret (b := true) dX7_isGap_145 rfl ⟨Nat.zero_le _, Nat.zero_le _⟩ hr
        · rw [if_pos h15] at hf
          refine ev_aload_n dX7_isGap_117 6 rfl ?_
          refine ev_iload_n dX7_isGap_118 7 rfl ?_
          refine ev_iload_n dX7_isGap_119 5 rfl ?_
          refine ev_iload dX7_isGap_120 1 rfl ?_
          obtain ⟨v16, hv16, hf⟩ := Option.bind_eq_some_iff.mp hf
          refine cl_V1 (As := [vi stack, vi v1, vb v10]) (st := []) miX7_mayLie (tX7_mayLie hS (hc.w rfl rfl) stack v1 v10 μ hv16) dX7_isGap_122 lkX7_176 inX7_mayLie rfl (hS.lt (hc 25 rfl)) rfl ⟨rfl, rfl⟩ ⟨⟨Nat.le_of_ble_eq_true rfl, Nat.le_of_ble_eq_true rfl⟩, Nat.zero_le _, Nat.zero_le _⟩ (Nat.le_of_ble_eq_true rfl) ?_
          refine ev_ifb_eq 140 dX7_isGap_125 (by decide) (fun h17 => ?_) (fun h17 => ?_)
          · rw [if_neg h17] at hf
            refine ev_iconst dX7_isGap_140 ?_
            refine ev_goto 145 dX7_isGap_141 (by decide) ?_
            obtain rfl := Option.some.inj hf
            exact ev_bret (b := true) dX7_isGap_145 rfl ⟨Nat.zero_le _, Nat.zero_le _⟩ hr
          · rw [if_pos h17] at hf
            refine ev_aload_n dX7_isGap_128 6 rfl ?_
            refine ev_iload_n dX7_isGap_129 7 rfl ?_
            refine ev_iload dX7_isGap_130 3 rfl ?_
            refine ev_iload dX7_isGap_132 1 rfl ?_
            obtain ⟨v18, hv18, hf⟩ := Option.bind_eq_some_iff.mp hf
            refine cl_V1 (As := [vi stack, vi v6, vb v10]) (st := []) miX7_mayLie (tX7_mayLie hS (hc.w rfl rfl) stack v6 v10 μ hv18) dX7_isGap_134 lkX7_176 inX7_mayLie rfl (hS.lt (hc 25 rfl)) rfl ⟨rfl, rfl⟩ ⟨⟨Nat.le_of_ble_eq_true rfl, Nat.le_of_ble_eq_true rfl⟩, Nat.zero_le _, Nat.zero_le _⟩ (Nat.le_of_ble_eq_true rfl) ?_
            obtain ⟨v19, hv19, hf⟩ := lt_elim hf
            have hJv19 : Ev l D cy g K yX7_isGap cX7_isGap 9 (some .boolean) (rmd 5 0 0) (MX D cy g K (rmd 5 0 0) Φ) 0 0 M x (L μ) 145 [(8, vb v12), (7, vb v10), (6, vi v9), (5, vi v6), (4, vi v4), (3, vi v1), (0, vr g 25), (1, vi stack), (2, vi place)] [vb v19] := by
              obtain rfl := Option.some.inj hf
              exact ev_bret (b := v19) dX7_isGap_145 rfl ⟨Nat.zero_le _, Nat.zero_le _⟩ hr
            refine ev_ifb_ne 144 dX7_isGap_137 (by decide) (fun h20 => ?_) (fun h20 => ?_)
            · refine ev_iconst dX7_isGap_144 ?_
              have e9 : v19 = false := hv19.trans ((if_pos h20))
              subst e9
              exact hJv19
            · refine ev_iconst dX7_isGap_140 ?_
              refine ev_goto 145 dX7_isGap_141 (by decide) ?_
              have e9 : v19 = true := hv19.trans ((if_neg h20))
              subst e9
              exact hJv19
      refine ev_ifb_ne 105 dX7_isGap_93 (by decide) (fun h13 => ?_) (fun h13 => ?_)
      · refine ev_iconst dX7_isGap_105 ?_
        refine ev_goto 110 dX7_isGap_106 (by decide) ?_
        have e9 : v12 = true := hv12.trans ((if_pos h13))
        subst e9
        exact hJv12
      · refine ev_iload dX7_isGap_96 1 rfl ?_
        refine ev_iload dX7_isGap_98 3 rfl ?_
        refine ev_iconst dX7_isGap_100 ?_
        refine ev_iadd dX7_isGap_101 ?_
        refine ev_icmp_ne 109 dX7_isGap_102 (by decide) (fun h14 => ?_) (fun h14 => ?_)
        · refine ev_iconst dX7_isGap_109 ?_
          have e9 : v12 = false := hv12.trans (((if_neg h13)).trans (if_neg h14))
          subst e9
          exact hJv12
        · refine ev_iconst dX7_isGap_105 ?_
          refine ev_goto 110 dX7_isGap_106 (by decide) ?_
          have e9 : v12 = true := hv12.trans (((if_neg h13)).trans (if_pos h14))
          subst e9
          exact hJv12
    refine ev_icmp_ne 88 dX7_isGap_81 (by decide) (fun h11 => ?_) (fun h11 => ?_)
    · refine ev_iconst dX7_isGap_88 ?_
      have e9 : v10 = false := hv10.trans ((if_neg h11))
      subst e9
      exact hJv10
    · refine ev_iconst dX7_isGap_84 ?_
      refine ev_goto 89 dX7_isGap_85 (by decide) ?_
      have e9 : v10 = true := hv10.trans ((if_pos h11))
      subst e9
      exact hJv10
  · rw [if_neg h5] at hf
    refine ev_iload dX7_isGap_27 0 rfl ?_
    refine ev_iconst dX7_isGap_29 ?_
    refine ev_iadd dX7_isGap_30 ?_
    refine ev_aload_n dX7_isGap_31 2 rfl ?_
    refine ev_getI 1 dX7_isGap_32 (hS.lt (hc 25 rfl)) rfl (hS.mem _ (hc 25 rfl)) ciX7 (by decide) rfl flX7_65 ?_
    refine ev_icmp_ne 48 dX7_isGap_35 (by decide) (fun h21 => ?_) (fun h21 => ?_)
    · rw [if_neg h21] at hf
      refine ev_iconst dX7_isGap_48 ?_
      refine ev_goto 53 dX7_isGap_49 (by decide) ?_
      obtain rfl := Option.some.inj hf
      exact ev_bret (b := true) dX7_isGap_53 rfl ⟨Nat.zero_le _, Nat.zero_le _⟩ hr
    · rw [if_pos h21] at hf
      refine ev_aload_n dX7_isGap_38 2 rfl ?_
      refine ev_iload_n dX7_isGap_39 3 rfl ?_
      refine ev_iload_n dX7_isGap_40 1 rfl ?_
      refine ev_iconst dX7_isGap_41 ?_
      obtain ⟨v22, hv22, hf⟩ := Option.bind_eq_some_iff.mp hf
      refine cl_V1 (As := [vi stack, vi v1, vb false]) (st := []) miX7_mayLie (tX7_mayLie hS (hc.w rfl rfl) stack v1 false μ hv22) dX7_isGap_42 lkX7_176 inX7_mayLie rfl (hS.lt (hc 25 rfl)) rfl ⟨rfl, rfl⟩ ⟨⟨Nat.le_of_ble_eq_true rfl, Nat.le_of_ble_eq_true rfl⟩, Nat.zero_le _, Nat.zero_le _⟩ (Nat.le_of_ble_eq_true rfl) ?_
      obtain ⟨v23, hv23, hf⟩ := lt_elim hf
      have hJv23 : Ev l D cy g K yX7_isGap cX7_isGap 9 (some .boolean) (rmd 5 0 0) (MX D cy g K (rmd 5 0 0) Φ) 0 0 M x (L μ) 53 [(4, vi v4), (3, vi v1), (0, vr g 25), (1, vi stack), (2, vi place)] [vb v23] := by
        obtain rfl := Option.some.inj hf
        exact ev_bret (b := v23) dX7_isGap_53 rfl ⟨Nat.zero_le _, Nat.zero_le _⟩ hr
      refine ev_ifb_ne 52 dX7_isGap_45 (by decide) (fun h24 => ?_) (fun h24 => ?_)
      · refine ev_iconst dX7_isGap_52 ?_
        have e9 : v23 = false := hv23.trans ((if_pos h24))
        subst e9
        exact hJv23
      · refine ev_iconst dX7_isGap_48 ?_
        refine ev_goto 53 dX7_isGap_49 (by decide) ?_
        have e9 : v23 = true := hv23.trans ((if_neg h24))
        subst e9
        exact hJv23
theorem tX7_isGap (hS : Sd M K P L) (hc : CIn P 1 39) (stack : Int) (place : Int) (μ : Mem) {o : Bool} (hf : fX7_isGap stack place μ = some o) : Cn l D cy g K K yX7_isGap cX7_isGap 9 (some .boolean) (rmd 5 0 0) [vr g 25, vi stack, vi place] M x (L μ) (PE (some (vb o)) M x (L μ)) :=
 Cn.of (by decide) (Nat.le_of_ble_eq_true rfl) (eX7_isGap hS hc stack place μ hf (PE_i _ _ _ _))
def fX7_gapsIn_b4 (stack : Int) (v1 : Int) (v2 : Int) (μ : Mem) : Option ((Int × Int) ⊕ (Int)) :=
  if w32 v2 < w32 (μ 25 1) then
    (fX7_isGap stack v2 μ).bind fun v4 =>
    lt (if v4 = true then
        1
      else
        0) fun v5 =>
    lt (v1 + v5) fun v7 =>
    some (.inl (v7, (v2 + 1)))
  else
    some (.inr v1)
set_option maxRecDepth 4000 in
theorem tX7_gapsIn_b4 (hS : Sd M K P L) (hc : CIn P 1 39) (stack : Int) (v1 : Int) (v2 : Int) (μ : Mem)  {o : (Int × Int) ⊕ (Int)} (hf : fX7_gapsIn_b4 stack v1 v2 μ = some o) (hr : (Sum.elim (fun s : Int × Int => Ev l D cy g K yX7_gapsIn cX7_gapsIn 4 (some .int) (rmd 6 0 0) (MX D cy g K (rmd 6 0 0) Φ) 0 0 M x (L μ) 4 [(0, vr g 25), (1, vi stack), (2, vi s.1), (3, vi s.2)] []) (fun e : Int => Ev l D cy g K yX7_gapsIn cX7_gapsIn 4 (some .int) (rmd 6 0 0) (MX D cy g K (rmd 6 0 0) Φ) 0 0 M x (L μ) 35 [(2, vi e)] [])) o) : Ev l D cy g K yX7_gapsIn cX7_gapsIn 4 (some .int) (rmd 6 0 0) (MX D cy g K (rmd 6 0 0) Φ) 0 0 M x (L μ) 4 [(0, vr g 25), (1, vi stack), (2, vi v1), (3, vi v2)] [] := by
  unfold fX7_gapsIn_b4 at hf
  refine ev_iload_n dX7_gapsIn_4 3 rfl ?_
  refine ev_aload_n dX7_gapsIn_5 0 rfl ?_
  refine ev_getI 1 dX7_gapsIn_6 (hS.lt (hc 25 rfl)) rfl (hS.mem _ (hc 25 rfl)) ciX7 (by decide) rfl flX7_65 ?_
  refine ev_icmp_ge 35 dX7_gapsIn_9 (by decide) (fun h3 => ?_) (fun h3 => ?_)
  · rw [if_neg h3] at hf
    obtain rfl := Option.some.inj hf
    refine ev_sub [2] rfl ?_
    exact hr
  · rw [if_pos h3] at hf
    refine ev_iload_n dX7_gapsIn_12 2 rfl ?_
    refine ev_aload_n dX7_gapsIn_13 0 rfl ?_
    refine ev_iload_n dX7_gapsIn_14 1 rfl ?_
    refine ev_iload_n dX7_gapsIn_15 3 rfl ?_
    obtain ⟨v4, hv4, hf⟩ := Option.bind_eq_some_iff.mp hf
    refine cl_V1 (As := [vi stack, vi v2]) (st := [vi v1]) miX7_isGap (tX7_isGap hS (hc.w rfl rfl) stack v2 μ hv4) dX7_gapsIn_16 lkX7_173 inX7_isGap rfl (hS.lt (hc 25 rfl)) rfl ⟨rfl, rfl⟩ ⟨⟨Nat.le_of_ble_eq_true rfl, Nat.le_of_ble_eq_true rfl⟩, Nat.zero_le _, Nat.zero_le _⟩ (Nat.le_of_ble_eq_true rfl) ?_
    obtain ⟨v5, hv5, hf⟩ := lt_elim hf
    have hJv5 : Ev l D cy g K yX7_gapsIn cX7_gapsIn 4 (some .int) (rmd 6 0 0) (MX D cy g K (rmd 6 0 0) Φ) 0 0 M x (L μ) 27 [(0, vr g 25), (1, vi stack), (2, vi v1), (3, vi v2)] [vi v5, vi v1] := by
      refine ev_iadd dX7_gapsIn_27 ?_
      obtain ⟨v7, hv7, hf⟩ := lt_elim hf
      refine ev_rni hv7 ?_
      refine ev_istore_n (al2 := [(2, vi v7), (0, vr g 25), (1, vi stack), (3, vi v2)]) dX7_gapsIn_28 2 rfl (by decide) rfl ?_
      refine ev_iinc (al2 := [(3, vi (v2 + 1)), (2, vi v7), (0, vr g 25), (1, vi stack)]) dX7_gapsIn_29 3 rfl (by decide) rfl ?_
      refine ev_goto 4 dX7_gapsIn_32 (by decide) ?_
      obtain rfl := Option.some.inj hf
      refine ev_sub [2, 3, 1, 0] rfl ?_
      exact hr
    refine ev_ifb_eq 26 dX7_gapsIn_19 (by decide) (fun h6 => ?_) (fun h6 => ?_)
    · refine ev_iconst dX7_gapsIn_26 ?_
      have e9 : v5 = 0 := hv5.trans ((if_neg h6))
      subst e9
      exact hJv5
    · refine ev_iconst dX7_gapsIn_22 ?_
      refine ev_goto 27 dX7_gapsIn_23 (by decide) ?_
      have e9 : v5 = 1 := hv5.trans ((if_pos h6))
      subst e9
      exact hJv5
def fX7_gapsIn (stack : Int) (μ : Mem) : Option (Int) :=
  (loopN (fun s => fX7_gapsIn_b4 stack s.1 s.2 μ) FU (0, 0)).bind fun q8 =>
  some (q8)
set_option maxRecDepth 4000 in
theorem eX7_gapsIn (hS : Sd M K P L) (hc : CIn P 1 39) (stack : Int) (μ : Mem)  {o : Int} (hf : fX7_gapsIn stack μ = some o) (hr : (fun o : Int => Φ (some (vi o)) M x (L μ)) o) : Ev l D cy g K yX7_gapsIn cX7_gapsIn 4 (some .int) (rmd 6 0 0) (MX D cy g K (rmd 6 0 0) Φ) 0 0 M x (L μ) 0 [(0, vr g 25), (1, vi stack)] [] := by
  unfold fX7_gapsIn at hf
  refine ev_iconst dX7_gapsIn_0 ?_
  refine ev_istore_n (al2 := [(2, vi 0), (0, vr g 25), (1, vi stack)]) dX7_gapsIn_1 2 rfl (by decide) rfl ?_
  refine ev_iconst dX7_gapsIn_2 ?_
  refine ev_istore_n (al2 := [(3, vi 0), (2, vi 0), (0, vr g 25), (1, vi stack)]) dX7_gapsIn_3 3 rfl (by decide) rfl ?_
  obtain ⟨q8, hq8, hf⟩ := Option.bind_eq_some_iff.mp hf
  refine ev_sub [2, 3, 1, 0] rfl ?_
  refine loop_ev (H := (fun s : Int × Int => Ev l D cy g K yX7_gapsIn cX7_gapsIn 4 (some .int) (rmd 6 0 0) (MX D cy g K (rmd 6 0 0) Φ) 0 0 M x (L μ) 4 [(0, vr g 25), (1, vi stack), (2, vi s.1), (3, vi s.2)] [])) (Hx := (fun e : Int => Ev l D cy g K yX7_gapsIn cX7_gapsIn 4 (some .int) (rmd 6 0 0) (MX D cy g K (rmd 6 0 0) Φ) 0 0 M x (L μ) 35 [(2, vi e)] [])) (fun s o hb hr => tX7_gapsIn_b4 hS hc stack s.1 s.2 μ hb hr) FU _ _ hq8 ?_
  show Ev l D cy g K yX7_gapsIn cX7_gapsIn 4 (some .int) (rmd 6 0 0) (MX D cy g K (rmd 6 0 0) Φ) 0 0 M x (L μ) 35 [(2, vi q8)] []
  refine ev_iload_n dX7_gapsIn_35 0 rfl ?_
  obtain rfl := Option.some.inj hf
  exact ev_iret dX7_gapsIn_36 rfl ⟨Nat.zero_le _, Nat.zero_le _⟩ hr
theorem tX7_gapsIn (hS : Sd M K P L) (hc : CIn P 1 39) (stack : Int) (μ : Mem) {o : Int} (hf : fX7_gapsIn stack μ = some o) : Cn l D cy g K K yX7_gapsIn cX7_gapsIn 4 (some .int) (rmd 6 0 0) [vr g 25, vi stack] M x (L μ) (PE (some (vi o)) M x (L μ)) :=
 Cn.of (by decide) (Nat.le_of_ble_eq_true rfl) (eX7_gapsIn hS hc stack μ hf (PE_i _ _ _ _))
def fX11_gaps  (μ : Mem) : Option (Int) :=
  (fX7_gapsIn (μ 41 1) μ).bind fun v1 =>
  some (v1)
set_option maxRecDepth 4000 in
theorem eX11_gaps (hS : Sd M K P L) (hc : CIn P 0 75)  (μ : Mem)  {o : Int} (hf : fX11_gaps  μ = some o) (hr : (fun o : Int => Φ (some (vi o)) M x (L μ)) o) : Ev l D cy g K yX11_gaps cX11_gaps 1 (some .int) (rmd 7 0 0) (MX D cy g K (rmd 7 0 0) Φ) 0 0 M x (L μ) 0 [(0, vr g 0)] [] := by
  unfold fX11_gaps at hf
  refine ev_aload_n dX11_gaps_0 0 rfl ?_
  refine ev_getK 4 dX11_gaps_1 (hS.lt (hc 0 rfl)) rfl (hS.K1 (hc 0 rfl) rfl) ciX11 (by decide) rfl flX11_40 ?_
  refine ev_aload_n dX11_gaps_4 0 rfl ?_
  refine ev_getK 7 dX11_gaps_5 (hS.lt (hc 0 rfl)) rfl (hS.K1 (hc 0 rfl) rfl) ciX11 (by decide) rfl flX11_58 ?_
  refine cl_V1 (As := []) (st := [vr g 25]) miX5_stack (tX5_stack hS (hc.w rfl rfl) 41 μ (by simp [isMo]) (o := (μ 41 1)) rfl) dX11_gaps_8 lkX11_167 inX5_stack rfl (hS.lt (hc 41 rfl)) rfl ⟨rfl, rfl⟩ ⟨⟨Nat.le_of_ble_eq_true rfl, Nat.le_of_ble_eq_true rfl⟩, Nat.zero_le _, Nat.zero_le _⟩ (Nat.le_of_ble_eq_true rfl) ?_
  obtain ⟨v1, hv1, hf⟩ := Option.bind_eq_some_iff.mp hf
  refine cl_V1 (As := [vi (μ 41 1)]) (st := []) miX7_gapsIn (tX7_gapsIn hS (hc.w rfl rfl) (μ 41 1) μ hv1) dX11_gaps_11 lkX11_261 inX7_gapsIn rfl (hS.lt (hc 25 rfl)) rfl ⟨rfl, rfl⟩ ⟨⟨Nat.le_of_ble_eq_true rfl, Nat.le_of_ble_eq_true rfl⟩, Nat.zero_le _, Nat.zero_le _⟩ (Nat.le_of_ble_eq_true rfl) ?_
  obtain rfl := Option.some.inj hf
  exact ev_iret dX11_gaps_14 rfl ⟨Nat.zero_le _, Nat.zero_le _⟩ hr
theorem tX11_gaps (hS : Sd M K P L) (hc : CIn P 0 75) (μ : Mem) {o : Int} (hf : fX11_gaps μ = some o) : Cn l D cy g K K yX11_gaps cX11_gaps 1 (some .int) (rmd 7 0 0) [vr g 0] M x (L μ) (PE (some (vi o)) M x (L μ)) :=
 Cn.of (by decide) (Nat.le_of_ble_eq_true rfl) (eX11_gaps hS hc μ hf (PE_i _ _ _ _))
def fX11_sharp  (μ : Mem) : Option (Bool × Mem) :=
  (fX11_servedSteps μ).bind fun μ1 =>
  (fX7_gapsIn (μ1 41 1) μ1).bind fun v2 =>
  lt (if w32 (fX11_at (46 + 1) (μ1 41 1) μ1) = w32 v2 then
      true
    else
      false) fun v3 =>
  some ((v3, μ1))
set_option maxRecDepth 4000 in
theorem eX11_sharp (hS : Sd M K P L) (hc : CIn P 0 75)  (μ : Mem)  {o : Bool × Mem} (hf : fX11_sharp  μ = some o) (hr : (fun o : Bool × Mem => Φ (some (vb o.1)) M x (L o.2)) o) : Ev l D cy g K yX11_sharp cX11_sharp 1 (some .boolean) (rmd 7 0 0) (MX D cy g K (rmd 7 0 0) Φ) 0 0 M x (L μ) 0 [(0, vr g 0)] [] := by
  unfold fX11_sharp at hf
  refine ev_aload_n dX11_sharp_0 0 rfl ?_
  obtain ⟨μ1, hμ1, hf⟩ := Option.bind_eq_some_iff.mp hf
  refine cl_V1 (As := []) (st := []) miX11_servedSteps (tX11_servedSteps hS (hc.w rfl rfl) μ hμ1) dX11_sharp_1 lkX11_215 inX11_servedSteps rfl (hS.lt (hc 0 rfl)) rfl ⟨rfl, rfl⟩ ⟨⟨Nat.le_of_ble_eq_true rfl, Nat.le_of_ble_eq_true rfl⟩, Nat.zero_le _, Nat.zero_le _⟩ (Nat.le_of_ble_eq_true rfl) ?_
  refine ev_aload_n dX11_sharp_4 0 rfl ?_
  refine ev_getK 7 dX11_sharp_5 (hS.lt (hc 0 rfl)) rfl (hS.K1 (hc 0 rfl) rfl) ciX11 (by decide) rfl flX11_58 ?_
  refine cl_V1 (As := []) (st := [vr g 46]) miX5_stack (tX5_stack hS (hc.w rfl rfl) 41 μ1 (by simp [isMo]) (o := (μ1 41 1)) rfl) dX11_sharp_8 lkX11_167 inX5_stack rfl (hS.lt (hc 41 rfl)) rfl ⟨rfl, rfl⟩ ⟨⟨Nat.le_of_ble_eq_true rfl, Nat.le_of_ble_eq_true rfl⟩, Nat.zero_le _, Nat.zero_le _⟩ (Nat.le_of_ble_eq_true rfl) ?_
  refine cl_V1 (As := [vi (μ1 41 1)]) (st := []) miX8_turnsOf (tX8_turnsOf hS (hc.w rfl rfl) 46 (μ1 41 1) μ1 (by simp [isSt]) (o := (fX11_at (46 + 1) (μ1 41 1) μ1)) rfl) dX11_sharp_11 lkX11_219 inX8_turnsOf rfl (hS.lt (hc 46 rfl)) rfl ⟨rfl, rfl⟩ ⟨⟨Nat.le_of_ble_eq_true rfl, Nat.le_of_ble_eq_true rfl⟩, Nat.zero_le _, Nat.zero_le _⟩ (Nat.le_of_ble_eq_true rfl) ?_
  refine ev_aload_n dX11_sharp_14 0 rfl ?_
  refine ev_getK 4 dX11_sharp_15 (hS.lt (hc 0 rfl)) rfl (hS.K1 (hc 0 rfl) rfl) ciX11 (by decide) rfl flX11_40 ?_
  refine ev_aload_n dX11_sharp_18 0 rfl ?_
  refine ev_getK 7 dX11_sharp_19 (hS.lt (hc 0 rfl)) rfl (hS.K1 (hc 0 rfl) rfl) ciX11 (by decide) rfl flX11_58 ?_
  refine cl_V1 (As := []) (st := [vr g 25, vi (fX11_at (46 + 1) (μ1 41 1) μ1)]) miX5_stack (tX5_stack hS (hc.w rfl rfl) 41 μ1 (by simp [isMo]) (o := (μ1 41 1)) rfl) dX11_sharp_22 lkX11_167 inX5_stack rfl (hS.lt (hc 41 rfl)) rfl ⟨rfl, rfl⟩ ⟨⟨Nat.le_of_ble_eq_true rfl, Nat.le_of_ble_eq_true rfl⟩, Nat.zero_le _, Nat.zero_le _⟩ (Nat.le_of_ble_eq_true rfl) ?_
  obtain ⟨v2, hv2, hf⟩ := Option.bind_eq_some_iff.mp hf
  refine cl_V1 (As := [vi (μ1 41 1)]) (st := [vi (fX11_at (46 + 1) (μ1 41 1) μ1)]) miX7_gapsIn (tX7_gapsIn hS (hc.w rfl rfl) (μ1 41 1) μ1 hv2) dX11_sharp_25 lkX11_261 inX7_gapsIn rfl (hS.lt (hc 25 rfl)) rfl ⟨rfl, rfl⟩ ⟨⟨Nat.le_of_ble_eq_true rfl, Nat.le_of_ble_eq_true rfl⟩, Nat.zero_le _, Nat.zero_le _⟩ (Nat.le_of_ble_eq_true rfl) ?_
  obtain ⟨v3, hv3, hf⟩ := lt_elim hf
  have hJv3 : Ev l D cy g K yX11_sharp cX11_sharp 1 (some .boolean) (rmd 7 0 0) (MX D cy g K (rmd 7 0 0) Φ) 0 0 M x (L μ1) 36 [(0, vr g 0)] [vb v3] := by
    obtain rfl := Option.some.inj hf
    exact ev_bret (b := v3) dX11_sharp_36 rfl ⟨Nat.zero_le _, Nat.zero_le _⟩ hr
  refine ev_icmp_ne 35 dX11_sharp_28 (by decide) (fun h4 => ?_) (fun h4 => ?_)
  · refine ev_iconst dX11_sharp_35 ?_
    have e9 : v3 = false := hv3.trans ((if_neg h4))
    subst e9
    exact hJv3
  · refine ev_iconst dX11_sharp_31 ?_
    refine ev_goto 36 dX11_sharp_32 (by decide) ?_
    have e9 : v3 = true := hv3.trans ((if_pos h4))
    subst e9
    exact hJv3
theorem tX11_sharp (hS : Sd M K P L) (hc : CIn P 0 75) (μ : Mem) {o : Bool × Mem} (hf : fX11_sharp μ = some o) : Cn l D cy g K K yX11_sharp cX11_sharp 1 (some .boolean) (rmd 7 0 0) [vr g 0] M x (L μ) (PE (some (vb o.1)) M x (L o.2)) :=
 Cn.of (by decide) (Nat.le_of_ble_eq_true rfl) (eX11_sharp hS hc μ hf (PE_i _ _ _ _))
def fX4_doneWhole_b5 (start : Int) (v1 : Int) (v2 : Int) (μ : Mem) : Option ((Int × Int) ⊕ (Int)) :=
  if w32 v2 < w32 (μ 39 1) then
    lt (fX11_at 40 v2 μ) fun v4 =>
    if (fX7_isOpen v1 v4 μ) = true then
      lt (fX7_turned v1 v4 μ) fun v6 =>
      some (.inl (v6, (v2 + 1)))
    else
      some (.inr (-1))
  else
    some (.inr v1)
set_option maxRecDepth 4000 in
theorem tX4_doneWhole_b5 (hS : Sd M K P L) (hc : CIn P 1 41) (start : Int) (v1 : Int) (v2 : Int) (μ : Mem)  {o : (Int × Int) ⊕ (Int)} (hf : fX4_doneWhole_b5 start v1 v2 μ = some o) (hr : (Sum.elim (fun s : Int × Int => Ev l D cy g K yX4_doneWhole cX4_doneWhole 6 (some .int) (rmd 4 0 0) (MX D cy g K (rmd 4 0 0) Φ) 0 0 M x (L μ) 5 [(0, vr g 39), (1, vr g 25), (3, vi s.1), (4, vi s.2)] []) (fun o : Int => Φ (some (vi o)) M x (L μ))) o) : Ev l D cy g K yX4_doneWhole cX4_doneWhole 6 (some .int) (rmd 4 0 0) (MX D cy g K (rmd 4 0 0) Φ) 0 0 M x (L μ) 5 [(0, vr g 39), (1, vr g 25), (3, vi v1), (4, vi v2)] [] := by
  unfold fX4_doneWhole_b5 at hf
  refine ev_iload dX4_doneWhole_5 3 rfl ?_
  refine ev_aload_n dX4_doneWhole_7 0 rfl ?_
  refine ev_getI 1 dX4_doneWhole_8 (hS.lt (hc 39 rfl)) rfl (hS.mem _ (hc 39 rfl)) ciX4 (by decide) rfl flX4_15 ?_
  refine ev_icmp_ge 51 dX4_doneWhole_11 (by decide) (fun h3 => ?_) (fun h3 => ?_)
  · rw [if_neg h3] at hf
    refine ev_iload_n dX4_doneWhole_51 2 rfl ?_
    obtain rfl := Option.some.inj hf
    exact ev_iret dX4_doneWhole_52 rfl ⟨Nat.zero_le _, Nat.zero_le _⟩ hr
  · rw [if_pos h3] at hf
    refine ev_aload_n dX4_doneWhole_14 0 rfl ?_
    refine ev_getK 0 dX4_doneWhole_15 (hS.lt (hc 39 rfl)) rfl (hS.K1 (hc 39 rfl) rfl) ciX4 (by decide) rfl flX4_9 ?_
    refine ev_iload dX4_doneWhole_18 3 rfl ?_
    refine cl_N1 (As := [vr g 40, vi v2]) (st := []) (host := "HotCakes") miX11_at (tX11_at hS (hc.w rfl rfl) 40 v2 μ (⟨(hc 40 rfl), rfl⟩) (o := (fX11_at 40 v2 μ)) rfl) dX4_doneWhole_20 (by decide) stX11_at rfl ⟨⟨Nat.le_of_ble_eq_true rfl, Nat.le_of_ble_eq_true rfl⟩, Nat.zero_le _, Nat.zero_le _⟩ (Nat.le_of_ble_eq_true rfl) ?_
    obtain ⟨v4, hv4, hf⟩ := lt_elim hf
    refine ev_rni hv4 ?_
    refine ev_istore (al2 := [(5, vi v4), (0, vr g 39), (1, vr g 25), (3, vi v1), (4, vi v2)]) dX4_doneWhole_23 (by decide) rfl ?_
    refine ev_aload_n dX4_doneWhole_25 2 rfl ?_
    refine ev_iload_n dX4_doneWhole_26 3 rfl ?_
    refine ev_iload dX4_doneWhole_27 0 rfl ?_
    refine cl_V1 (As := [vi v1, vi v4]) (st := []) miX7_isOpen (tX7_isOpen hS (hc.w rfl rfl) v1 v4 μ (o := (fX7_isOpen v1 v4 μ)) rfl) dX4_doneWhole_29 lkX4_33 inX7_isOpen rfl (hS.lt (hc 25 rfl)) rfl ⟨rfl, rfl⟩ ⟨⟨Nat.le_of_ble_eq_true rfl, Nat.le_of_ble_eq_true rfl⟩, Nat.zero_le _, Nat.zero_le _⟩ (Nat.le_of_ble_eq_true rfl) ?_
    refine ev_ifb_ne 37 dX4_doneWhole_32 (by decide) (fun h5 => ?_) (fun h5 => ?_)
    · rw [if_pos h5] at hf
      refine ev_aload_n dX4_doneWhole_37 2 rfl ?_
      refine ev_iload_n dX4_doneWhole_38 3 rfl ?_
      refine ev_iload dX4_doneWhole_39 0 rfl ?_
      refine cl_V1 (As := [vi v1, vi v4]) (st := []) miX7_turned (tX7_turned hS (hc.w rfl rfl) v1 v4 μ (o := (fX7_turned v1 v4 μ)) rfl) dX4_doneWhole_41 lkX4_39 inX7_turned rfl (hS.lt (hc 25 rfl)) rfl ⟨rfl, rfl⟩ ⟨⟨Nat.le_of_ble_eq_true rfl, Nat.le_of_ble_eq_true rfl⟩, Nat.zero_le _, Nat.zero_le _⟩ (Nat.le_of_ble_eq_true rfl) ?_
      obtain ⟨v6, hv6, hf⟩ := lt_elim hf
      refine ev_rni hv6 ?_
      refine ev_istore_n (al2 := [(3, vi v6), (5, vi v4), (0, vr g 39), (1, vr g 25), (4, vi v2)]) dX4_doneWhole_44 3 rfl (by decide) rfl ?_
      refine ev_iinc (al2 := [(4, vi (v2 + 1)), (3, vi v6), (5, vi v4), (0, vr g 39), (1, vr g 25)]) dX4_doneWhole_45 4 rfl (by decide) rfl ?_
      refine ev_goto 5 dX4_doneWhole_48 (by decide) ?_
      obtain rfl := Option.some.inj hf
      refine ev_sub [3, 4, 1, 0] rfl ?_
      exact hr
    · rw [if_neg h5] at hf
      refine ev_iconst dX4_doneWhole_35 ?_
      obtain rfl := Option.some.inj hf
      exact ev_iret dX4_doneWhole_36 rfl ⟨Nat.zero_le _, Nat.zero_le _⟩ hr
def fX4_doneWhole (start : Int) (μ : Mem) : Option (Int) :=
  loopN (fun s => fX4_doneWhole_b5 start s.1 s.2 μ) FU (start, 0)
set_option maxRecDepth 4000 in
theorem eX4_doneWhole (hS : Sd M K P L) (hc : CIn P 1 41) (start : Int) (μ : Mem)  {o : Int} (hf : fX4_doneWhole start μ = some o) (hr : (fun o : Int => Φ (some (vi o)) M x (L μ)) o) : Ev l D cy g K yX4_doneWhole cX4_doneWhole 6 (some .int) (rmd 4 0 0) (MX D cy g K (rmd 4 0 0) Φ) 0 0 M x (L μ) 0 [(0, vr g 39), (1, vr g 25), (2, vi start)] [] := by
  unfold fX4_doneWhole at hf
  refine ev_iload_n dX4_doneWhole_0 2 rfl ?_
  refine ev_istore_n (al2 := [(3, vi start), (0, vr g 39), (1, vr g 25), (2, vi start)]) dX4_doneWhole_1 3 rfl (by decide) rfl ?_
  refine ev_iconst dX4_doneWhole_2 ?_
  refine ev_istore (al2 := [(4, vi 0), (3, vi start), (0, vr g 39), (1, vr g 25), (2, vi start)]) dX4_doneWhole_3 (by decide) rfl ?_
  refine ev_sub [2, 3, 1, 0] rfl ?_
  exact loop_ev (H := (fun s : Int × Int => Ev l D cy g K yX4_doneWhole cX4_doneWhole 6 (some .int) (rmd 4 0 0) (MX D cy g K (rmd 4 0 0) Φ) 0 0 M x (L μ) 5 [(0, vr g 39), (1, vr g 25), (3, vi s.1), (4, vi s.2)] [])) (Hx := (fun o : Int => Φ (some (vi o)) M x (L μ))) (fun s o hb hr => tX4_doneWhole_b5 hS hc start s.1 s.2 μ hb hr) FU _ _ hf hr
theorem tX4_doneWhole (hS : Sd M K P L) (hc : CIn P 1 41) (start : Int) (μ : Mem) {o : Int} (hf : fX4_doneWhole start μ = some o) : Cn l D cy g K K yX4_doneWhole cX4_doneWhole 6 (some .int) (rmd 4 0 0) [vr g 39, vr g 25, vi start] M x (L μ) (PE (some (vi o)) M x (L μ)) :=
 Cn.of (by decide) (Nat.le_of_ble_eq_true rfl) (eX4_doneWhole hS hc start μ hf (PE_i _ _ _ _))
def fX11_again_b10 (v2 : Int) (v3 : Int) (μ : Mem) : Option ((Int × Int) ⊕ (Int)) :=
  if w32 v3 ≤ w32 60 then
    (fX4_doneWhole v2 μ).bind fun v5 =>
    if w32 v5 = w32 (-1) then
      some (.inr (-1))
    else
      if w32 v5 = w32 (μ 41 1) then
        some (.inr v3)
      else
        some (.inl (v5, (v3 + 1)))
  else
    some (.inr (-1))
set_option maxRecDepth 4000 in
theorem tX11_again_b10 (hS : Sd M K P L) (hc : CIn P 0 75) (v2 : Int) (v3 : Int) (μ : Mem)  {o : (Int × Int) ⊕ (Int)} (hf : fX11_again_b10 v2 v3 μ = some o) (hr : (Sum.elim (fun s : Int × Int => Ev l D cy g K yX11_again cX11_again 3 (some .int) (rmd 5 0 0) (MX D cy g K (rmd 5 0 0) Φ) 0 0 M x (L μ) 10 [(0, vr g 0), (1, vi s.1), (2, vi s.2)] []) (fun o : Int => Φ (some (vi o)) M x (L μ))) o) : Ev l D cy g K yX11_again cX11_again 3 (some .int) (rmd 5 0 0) (MX D cy g K (rmd 5 0 0) Φ) 0 0 M x (L μ) 10 [(0, vr g 0), (1, vi v2), (2, vi v3)] [] := by
  unfold fX11_again_b10 at hf
  refine ev_iload_n dX11_again_10 2 rfl ?_
  refine ev_bipush dX11_again_11 (by decide) ?_
  refine ev_icmp_gt 55 dX11_again_13 (by decide) (fun h4 => ?_) (fun h4 => ?_)
  · rw [if_neg h4] at hf
    refine ev_iconst dX11_again_55 ?_
    obtain rfl := Option.some.inj hf
    exact ev_iret dX11_again_56 rfl ⟨Nat.zero_le _, Nat.zero_le _⟩ hr
  · rw [if_pos h4] at hf
    refine ev_aload_n dX11_again_16 0 rfl ?_
    refine ev_getK 5 dX11_again_17 (hS.lt (hc 0 rfl)) rfl (hS.K1 (hc 0 rfl) rfl) ciX11 (by decide) rfl flX11_47 ?_
    refine ev_aload_n dX11_again_20 0 rfl ?_
    refine ev_getK 4 dX11_again_21 (hS.lt (hc 0 rfl)) rfl (hS.K1 (hc 0 rfl) rfl) ciX11 (by decide) rfl flX11_40 ?_
    refine ev_iload_n dX11_again_24 1 rfl ?_
    obtain ⟨v5, hv5, hf⟩ := Option.bind_eq_some_iff.mp hf
    refine cl_V1 (As := [vr g 25, vi v2]) (st := []) miX4_doneWhole (tX4_doneWhole hS (hc.w rfl rfl) v2 μ hv5) dX11_again_25 lkX11_264 inX4_doneWhole rfl (hS.lt (hc 39 rfl)) rfl ⟨rfl, rfl⟩ ⟨⟨Nat.le_of_ble_eq_true rfl, Nat.le_of_ble_eq_true rfl⟩, Nat.zero_le _, Nat.zero_le _⟩ (Nat.le_of_ble_eq_true rfl) ?_
    refine ev_istore_n (al2 := [(1, vi v5), (0, vr g 0), (2, vi v3)]) dX11_again_28 1 rfl (by decide) rfl ?_
    refine ev_iload_n dX11_again_29 0 rfl ?_
    refine ev_iconst dX11_again_30 ?_
    refine ev_icmp_ne 36 dX11_again_31 (by decide) (fun h6 => ?_) (fun h6 => ?_)
    · rw [if_neg h6] at hf
      refine ev_iload_n dX11_again_36 0 rfl ?_
      refine ev_aload_n dX11_again_37 1 rfl ?_
      refine ev_getK 7 dX11_again_38 (hS.lt (hc 0 rfl)) rfl (hS.K1 (hc 0 rfl) rfl) ciX11 (by decide) rfl flX11_58 ?_
      refine cl_V1 (As := []) (st := [vi v5]) miX5_stack (tX5_stack hS (hc.w rfl rfl) 41 μ (by simp [isMo]) (o := (μ 41 1)) rfl) dX11_again_41 lkX11_167 inX5_stack rfl (hS.lt (hc 41 rfl)) rfl ⟨rfl, rfl⟩ ⟨⟨Nat.le_of_ble_eq_true rfl, Nat.le_of_ble_eq_true rfl⟩, Nat.zero_le _, Nat.zero_le _⟩ (Nat.le_of_ble_eq_true rfl) ?_
      refine ev_icmp_ne 49 dX11_again_44 (by decide) (fun h7 => ?_) (fun h7 => ?_)
      · rw [if_neg h7] at hf
        refine ev_iinc (al2 := [(2, vi (v3 + 1)), (1, vi v5), (0, vr g 0)]) dX11_again_49 2 rfl (by decide) rfl ?_
        refine ev_goto 10 dX11_again_52 (by decide) ?_
        obtain rfl := Option.some.inj hf
        refine ev_sub [2, 1, 0] rfl ?_
        exact hr
      · rw [if_pos h7] at hf
        refine ev_iload_n dX11_again_47 2 rfl ?_
        obtain rfl := Option.some.inj hf
        exact ev_iret dX11_again_48 rfl ⟨Nat.zero_le _, Nat.zero_le _⟩ hr
    · rw [if_pos h6] at hf
      refine ev_iconst dX11_again_34 ?_
      obtain rfl := Option.some.inj hf
      exact ev_iret dX11_again_35 rfl ⟨Nat.zero_le _, Nat.zero_le _⟩ hr
def fX11_again  (μ : Mem) : Option (Int) :=
  lt (μ 41 1) fun v1 =>
  loopN (fun s => fX11_again_b10 s.1 s.2 μ) FU (v1, 1)
set_option maxRecDepth 4000 in
theorem eX11_again (hS : Sd M K P L) (hc : CIn P 0 75)  (μ : Mem)  {o : Int} (hf : fX11_again  μ = some o) (hr : (fun o : Int => Φ (some (vi o)) M x (L μ)) o) : Ev l D cy g K yX11_again cX11_again 3 (some .int) (rmd 5 0 0) (MX D cy g K (rmd 5 0 0) Φ) 0 0 M x (L μ) 0 [(0, vr g 0)] [] := by
  unfold fX11_again at hf
  refine ev_aload_n dX11_again_0 0 rfl ?_
  refine ev_getK 7 dX11_again_1 (hS.lt (hc 0 rfl)) rfl (hS.K1 (hc 0 rfl) rfl) ciX11 (by decide) rfl flX11_58 ?_
  refine cl_V1 (As := []) (st := []) miX5_stack (tX5_stack hS (hc.w rfl rfl) 41 μ (by simp [isMo]) (o := (μ 41 1)) rfl) dX11_again_4 lkX11_167 inX5_stack rfl (hS.lt (hc 41 rfl)) rfl ⟨rfl, rfl⟩ ⟨⟨Nat.le_of_ble_eq_true rfl, Nat.le_of_ble_eq_true rfl⟩, Nat.zero_le _, Nat.zero_le _⟩ (Nat.le_of_ble_eq_true rfl) ?_
  obtain ⟨v1, hv1, hf⟩ := lt_elim hf
  refine ev_rni hv1 ?_
  refine ev_istore_n (al2 := [(1, vi v1), (0, vr g 0)]) dX11_again_7 1 rfl (by decide) rfl ?_
  refine ev_iconst dX11_again_8 ?_
  refine ev_istore_n (al2 := [(2, vi 1), (1, vi v1), (0, vr g 0)]) dX11_again_9 2 rfl (by decide) rfl ?_
  refine ev_sub [2, 1, 0] rfl ?_
  exact loop_ev (H := (fun s : Int × Int => Ev l D cy g K yX11_again cX11_again 3 (some .int) (rmd 5 0 0) (MX D cy g K (rmd 5 0 0) Φ) 0 0 M x (L μ) 10 [(0, vr g 0), (1, vi s.1), (2, vi s.2)] [])) (Hx := (fun o : Int => Φ (some (vi o)) M x (L μ))) (fun s o hb hr => tX11_again_b10 hS hc s.1 s.2 μ hb hr) FU _ _ hf hr
theorem tX11_again (hS : Sd M K P L) (hc : CIn P 0 75) (μ : Mem) {o : Int} (hf : fX11_again μ = some o) : Cn l D cy g K K yX11_again cX11_again 3 (some .int) (rmd 5 0 0) [vr g 0] M x (L μ) (PE (some (vi o)) M x (L μ)) :=
 Cn.of (by decide) (Nat.le_of_ble_eq_true rfl) (eX11_again hS hc μ hf (PE_i _ _ _ _))
def fX4_doneFrom_b6 (start : Int) (leftOut : Int) (v1 : Int) (v2 : Int) (μ : Mem) : Option ((Int × Int) ⊕ (Int)) :=
  if w32 v2 < w32 (μ 39 1) then
    lt (fX11_at 40 v2 μ) fun v4 =>
    if w32 v2 = w32 leftOut then
      some (.inl (v1, (v2 + 1)))
    else
      if (fX7_isOpen v1 v4 μ) = true then
        lt (fX7_turned v1 v4 μ) fun v7 =>
        some (.inl (v7, (v2 + 1)))
      else
        some (.inl (v1, (v2 + 1)))
  else
    some (.inr v1)
set_option maxRecDepth 4000 in
theorem tX4_doneFrom_b6 (hS : Sd M K P L) (hc : CIn P 1 41) (start : Int) (leftOut : Int) (v1 : Int) (v2 : Int) (μ : Mem)  {o : (Int × Int) ⊕ (Int)} (hf : fX4_doneFrom_b6 start leftOut v1 v2 μ = some o) (hr : (Sum.elim (fun s : Int × Int => Ev l D cy g K yX4_doneFrom cX4_doneFrom 7 (some .int) (rmd 4 0 0) (MX D cy g K (rmd 4 0 0) Φ) 0 0 M x (L μ) 6 [(0, vr g 39), (1, vr g 25), (3, vi leftOut), (4, vi s.1), (5, vi s.2)] []) (fun e : Int => Ev l D cy g K yX4_doneFrom cX4_doneFrom 7 (some .int) (rmd 4 0 0) (MX D cy g K (rmd 4 0 0) Φ) 0 0 M x (L μ) 59 [(4, vi e)] [])) o) : Ev l D cy g K yX4_doneFrom cX4_doneFrom 7 (some .int) (rmd 4 0 0) (MX D cy g K (rmd 4 0 0) Φ) 0 0 M x (L μ) 6 [(0, vr g 39), (1, vr g 25), (3, vi leftOut), (4, vi v1), (5, vi v2)] [] := by
  unfold fX4_doneFrom_b6 at hf
  refine ev_iload dX4_doneFrom_6 4 rfl ?_
  refine ev_aload_n dX4_doneFrom_8 0 rfl ?_
  refine ev_getI 1 dX4_doneFrom_9 (hS.lt (hc 39 rfl)) rfl (hS.mem _ (hc 39 rfl)) ciX4 (by decide) rfl flX4_15 ?_
  refine ev_icmp_ge 59 dX4_doneFrom_12 (by decide) (fun h3 => ?_) (fun h3 => ?_)
  · rw [if_neg h3] at hf
    obtain rfl := Option.some.inj hf
    refine ev_sub [3] rfl ?_
    exact hr
  · rw [if_pos h3] at hf
    refine ev_aload_n dX4_doneFrom_15 0 rfl ?_
    refine ev_getK 0 dX4_doneFrom_16 (hS.lt (hc 39 rfl)) rfl (hS.K1 (hc 39 rfl) rfl) ciX4 (by decide) rfl flX4_9 ?_
    refine ev_iload dX4_doneFrom_19 4 rfl ?_
    refine cl_N1 (As := [vr g 40, vi v2]) (st := []) (host := "HotCakes") miX11_at (tX11_at hS (hc.w rfl rfl) 40 v2 μ (⟨(hc 40 rfl), rfl⟩) (o := (fX11_at 40 v2 μ)) rfl) dX4_doneFrom_21 (by decide) stX11_at rfl ⟨⟨Nat.le_of_ble_eq_true rfl, Nat.le_of_ble_eq_true rfl⟩, Nat.zero_le _, Nat.zero_le _⟩ (Nat.le_of_ble_eq_true rfl) ?_
    obtain ⟨v4, hv4, hf⟩ := lt_elim hf
    refine ev_rni hv4 ?_
    refine ev_istore (al2 := [(6, vi v4), (0, vr g 39), (1, vr g 25), (3, vi leftOut), (4, vi v1), (5, vi v2)]) dX4_doneFrom_24 (by decide) rfl ?_
    refine ev_iload dX4_doneFrom_26 5 rfl ?_
    refine ev_iload_n dX4_doneFrom_28 3 rfl ?_
    refine ev_icmp_eq 53 dX4_doneFrom_29 (by decide) (fun h5 => ?_) (fun h5 => ?_)
    · rw [if_pos h5] at hf
      refine ev_iinc (al2 := [(5, vi (v2 + 1)), (6, vi v4), (0, vr g 39), (1, vr g 25), (3, vi leftOut), (4, vi v1)]) dX4_doneFrom_53 5 rfl (by decide) rfl ?_
      refine ev_goto 6 dX4_doneFrom_56 (by decide) ?_
      obtain rfl := Option.some.inj hf
      refine ev_sub [2, 3, 4, 5, 0] rfl ?_
      exact hr
    · rw [if_neg h5] at hf
      refine ev_aload_n dX4_doneFrom_32 2 rfl ?_
      refine ev_iload dX4_doneFrom_33 4 rfl ?_
      refine ev_iload dX4_doneFrom_35 0 rfl ?_
      refine cl_V1 (As := [vi v1, vi v4]) (st := []) miX7_isOpen (tX7_isOpen hS (hc.w rfl rfl) v1 v4 μ (o := (fX7_isOpen v1 v4 μ)) rfl) dX4_doneFrom_37 lkX4_33 inX7_isOpen rfl (hS.lt (hc 25 rfl)) rfl ⟨rfl, rfl⟩ ⟨⟨Nat.le_of_ble_eq_true rfl, Nat.le_of_ble_eq_true rfl⟩, Nat.zero_le _, Nat.zero_le _⟩ (Nat.le_of_ble_eq_true rfl) ?_
      refine ev_ifb_eq 53 dX4_doneFrom_40 (by decide) (fun h6 => ?_) (fun h6 => ?_)
      · rw [if_neg h6] at hf
        refine ev_iinc (al2 := [(5, vi (v2 + 1)), (6, vi v4), (0, vr g 39), (1, vr g 25), (3, vi leftOut), (4, vi v1)]) dX4_doneFrom_53 5 rfl (by decide) rfl ?_
        refine ev_goto 6 dX4_doneFrom_56 (by decide) ?_
        obtain rfl := Option.some.inj hf
        refine ev_sub [2, 3, 4, 5, 0] rfl ?_
        exact hr
      · rw [if_pos h6] at hf
        refine ev_aload_n dX4_doneFrom_43 2 rfl ?_
        refine ev_iload dX4_doneFrom_44 4 rfl ?_
        refine ev_iload dX4_doneFrom_46 0 rfl ?_
        refine cl_V1 (As := [vi v1, vi v4]) (st := []) miX7_turned (tX7_turned hS (hc.w rfl rfl) v1 v4 μ (o := (fX7_turned v1 v4 μ)) rfl) dX4_doneFrom_48 lkX4_39 inX7_turned rfl (hS.lt (hc 25 rfl)) rfl ⟨rfl, rfl⟩ ⟨⟨Nat.le_of_ble_eq_true rfl, Nat.le_of_ble_eq_true rfl⟩, Nat.zero_le _, Nat.zero_le _⟩ (Nat.le_of_ble_eq_true rfl) ?_
        obtain ⟨v7, hv7, hf⟩ := lt_elim hf
        refine ev_rni hv7 ?_
        refine ev_istore (al2 := [(4, vi v7), (6, vi v4), (0, vr g 39), (1, vr g 25), (3, vi leftOut), (5, vi v2)]) dX4_doneFrom_51 (by decide) rfl ?_
        refine ev_iinc (al2 := [(5, vi (v2 + 1)), (4, vi v7), (6, vi v4), (0, vr g 39), (1, vr g 25), (3, vi leftOut)]) dX4_doneFrom_53 5 rfl (by decide) rfl ?_
        refine ev_goto 6 dX4_doneFrom_56 (by decide) ?_
        obtain rfl := Option.some.inj hf
        refine ev_sub [3, 4, 5, 1, 0] rfl ?_
        exact hr
def fX4_doneFrom (start : Int) (leftOut : Int) (μ : Mem) : Option (Int) :=
  (loopN (fun s => fX4_doneFrom_b6 start leftOut s.1 s.2 μ) FU (start, 0)).bind fun q8 =>
  some (q8)
set_option maxRecDepth 4000 in
theorem eX4_doneFrom (hS : Sd M K P L) (hc : CIn P 1 41) (start : Int) (leftOut : Int) (μ : Mem)  {o : Int} (hf : fX4_doneFrom start leftOut μ = some o) (hr : (fun o : Int => Φ (some (vi o)) M x (L μ)) o) : Ev l D cy g K yX4_doneFrom cX4_doneFrom 7 (some .int) (rmd 4 0 0) (MX D cy g K (rmd 4 0 0) Φ) 0 0 M x (L μ) 0 [(0, vr g 39), (1, vr g 25), (2, vi start), (3, vi leftOut)] [] := by
  unfold fX4_doneFrom at hf
  refine ev_iload_n dX4_doneFrom_0 2 rfl ?_
  refine ev_istore (al2 := [(4, vi start), (0, vr g 39), (1, vr g 25), (2, vi start), (3, vi leftOut)]) dX4_doneFrom_1 (by decide) rfl ?_
  refine ev_iconst dX4_doneFrom_3 ?_
  refine ev_istore (al2 := [(5, vi 0), (4, vi start), (0, vr g 39), (1, vr g 25), (2, vi start), (3, vi leftOut)]) dX4_doneFrom_4 (by decide) rfl ?_
  obtain ⟨q8, hq8, hf⟩ := Option.bind_eq_some_iff.mp hf
  refine ev_sub [2, 3, 5, 1, 0] rfl ?_
  refine loop_ev (H := (fun s : Int × Int => Ev l D cy g K yX4_doneFrom cX4_doneFrom 7 (some .int) (rmd 4 0 0) (MX D cy g K (rmd 4 0 0) Φ) 0 0 M x (L μ) 6 [(0, vr g 39), (1, vr g 25), (3, vi leftOut), (4, vi s.1), (5, vi s.2)] [])) (Hx := (fun e : Int => Ev l D cy g K yX4_doneFrom cX4_doneFrom 7 (some .int) (rmd 4 0 0) (MX D cy g K (rmd 4 0 0) Φ) 0 0 M x (L μ) 59 [(4, vi e)] [])) (fun s o hb hr => tX4_doneFrom_b6 hS hc start leftOut s.1 s.2 μ hb hr) FU _ _ hq8 ?_
  show Ev l D cy g K yX4_doneFrom cX4_doneFrom 7 (some .int) (rmd 4 0 0) (MX D cy g K (rmd 4 0 0) Φ) 0 0 M x (L μ) 59 [(4, vi q8)] []
  refine ev_iload dX4_doneFrom_59 0 rfl ?_
  obtain rfl := Option.some.inj hf
  exact ev_iret dX4_doneFrom_61 rfl ⟨Nat.zero_le _, Nat.zero_le _⟩ hr
theorem tX4_doneFrom (hS : Sd M K P L) (hc : CIn P 1 41) (start : Int) (leftOut : Int) (μ : Mem) {o : Int} (hf : fX4_doneFrom start leftOut μ = some o) : Cn l D cy g K K yX4_doneFrom cX4_doneFrom 7 (some .int) (rmd 4 0 0) [vr g 39, vr g 25, vi start, vi leftOut] M x (L μ) (PE (some (vi o)) M x (L μ)) :=
 Cn.of (by decide) (Nat.le_of_ble_eq_true rfl) (eX4_doneFrom hS hc start leftOut μ hf (PE_i _ _ _ _))
def fX4_size  (μ : Mem) : Int :=
  (μ 39 1)
set_option maxRecDepth 4000 in
theorem eX4_size (hS : Sd M K P L) (hc : CIn P 39 40)  (μ : Mem)  {o : Int} (hf : fX4_size  μ = o) (hr : (fun o : Int => Φ (some (vi o)) M x (L μ)) o) : Ev l D cy g K yX4_size cX4_size 1 (some .int) (rmd 1 0 0) (MX D cy g K (rmd 1 0 0) Φ) 0 0 M x (L μ) 0 [(0, vr g 39)] [] := by
  unfold fX4_size at hf
  refine ev_aload_n dX4_size_0 0 rfl ?_
  refine ev_getI 1 dX4_size_1 (hS.lt (hc 39 rfl)) rfl (hS.mem _ (hc 39 rfl)) ciX4 (by decide) rfl flX4_15 ?_
  obtain rfl := hf
  exact ev_iret dX4_size_4 rfl ⟨Nat.zero_le _, Nat.zero_le _⟩ hr
theorem tX4_size (hS : Sd M K P L) (hc : CIn P 39 40) (μ : Mem) {o : Int} (hf : fX4_size μ = o) : Cn l D cy g K K yX4_size cX4_size 1 (some .int) (rmd 1 0 0) [vr g 39] M x (L μ) (PE (some (vi o)) M x (L μ)) :=
 Cn.of (by decide) (Nat.le_of_ble_eq_true rfl) (eX4_size hS hc μ hf (PE_i _ _ _ _))
def fX11_spare_b24 (v2 : Int) (v3 : Int) (v4 : Int) (μ : Mem) : Option ((Int × Int × Mem) ⊕ (Int × Mem)) :=
  if w32 v4 < w32 (μ 39 1) then
    (fX7_told μ).bind fun q6 =>
    (fX4_doneFrom q6.1 v4 q6.2).bind fun v7 =>
    if w32 v7 = w32 v2 then
      some (.inl ((v3 + 1), (v4 + 1), q6.2))
    else
      some (.inl (v3, (v4 + 1), q6.2))
  else
    some (.inr (v3, μ))
set_option maxRecDepth 4000 in
theorem tX11_spare_b24 (hS : Sd M K P L) (hc : CIn P 0 41) (v2 : Int) (v3 : Int) (v4 : Int) (μ : Mem)  {o : (Int × Int × Mem) ⊕ (Int × Mem)} (hf : fX11_spare_b24 v2 v3 v4 μ = some o) (hr : (Sum.elim (fun s : Int × Int × Mem => Ev l D cy g K yX11_spare cX11_spare 4 (some .int) (rmd 5 0 0) (MX D cy g K (rmd 5 0 0) Φ) 0 0 M x (L s.2.2) 24 [(0, vr g 0), (1, vi v2), (2, vi s.1), (3, vi s.2.1)] []) (fun e : Int × Mem => Ev l D cy g K yX11_spare cX11_spare 4 (some .int) (rmd 5 0 0) (MX D cy g K (rmd 5 0 0) Φ) 0 0 M x (L e.2) 67 [(2, vi e.1)] [])) o) : Ev l D cy g K yX11_spare cX11_spare 4 (some .int) (rmd 5 0 0) (MX D cy g K (rmd 5 0 0) Φ) 0 0 M x (L μ) 24 [(0, vr g 0), (1, vi v2), (2, vi v3), (3, vi v4)] [] := by
  unfold fX11_spare_b24 at hf
  refine ev_iload_n dX11_spare_24 3 rfl ?_
  refine ev_aload_n dX11_spare_25 0 rfl ?_
  refine ev_getK 5 dX11_spare_26 (hS.lt (hc 0 rfl)) rfl (hS.K1 (hc 0 rfl) rfl) ciX11 (by decide) rfl flX11_47 ?_
  refine cl_V1 (As := []) (st := [vi v4]) miX4_size (tX4_size hS (hc.w rfl rfl) μ (o := (μ 39 1)) rfl) dX11_spare_29 lkX11_271 inX4_size rfl (hS.lt (hc 39 rfl)) rfl ⟨rfl, rfl⟩ ⟨⟨Nat.le_of_ble_eq_true rfl, Nat.le_of_ble_eq_true rfl⟩, Nat.zero_le _, Nat.zero_le _⟩ (Nat.le_of_ble_eq_true rfl) ?_
  refine ev_icmp_ge 67 dX11_spare_32 (by decide) (fun h5 => ?_) (fun h5 => ?_)
  · rw [if_neg h5] at hf
    obtain rfl := Option.some.inj hf
    refine ev_sub [2] rfl ?_
    exact hr
  · rw [if_pos h5] at hf
    refine ev_aload_n dX11_spare_35 0 rfl ?_
    refine ev_getK 5 dX11_spare_36 (hS.lt (hc 0 rfl)) rfl (hS.K1 (hc 0 rfl) rfl) ciX11 (by decide) rfl flX11_47 ?_
    refine ev_aload_n dX11_spare_39 0 rfl ?_
    refine ev_getK 4 dX11_spare_40 (hS.lt (hc 0 rfl)) rfl (hS.K1 (hc 0 rfl) rfl) ciX11 (by decide) rfl flX11_40 ?_
    refine ev_aload_n dX11_spare_43 0 rfl ?_
    refine ev_getK 4 dX11_spare_44 (hS.lt (hc 0 rfl)) rfl (hS.K1 (hc 0 rfl) rfl) ciX11 (by decide) rfl flX11_40 ?_
    obtain ⟨q6, hq6, hf⟩ := Option.bind_eq_some_iff.mp hf
    refine cl_V1 (As := []) (st := [vr g 25, vr g 39]) miX7_told (tX7_told hS (hc.w rfl rfl) μ hq6) dX11_spare_47 lkX11_108 inX7_told rfl (hS.lt (hc 25 rfl)) rfl ⟨rfl, rfl⟩ ⟨⟨Nat.le_of_ble_eq_true rfl, Nat.le_of_ble_eq_true rfl⟩, Nat.zero_le _, Nat.zero_le _⟩ (Nat.le_of_ble_eq_true rfl) ?_
    refine ev_iload_n dX11_spare_50 3 rfl ?_
    obtain ⟨v7, hv7, hf⟩ := Option.bind_eq_some_iff.mp hf
    refine cl_V1 (As := [vr g 25, vi q6.1, vi v4]) (st := []) miX4_doneFrom (tX4_doneFrom hS (hc.w rfl rfl) q6.1 v4 q6.2 hv7) dX11_spare_51 lkX11_267 inX4_doneFrom rfl (hS.lt (hc 39 rfl)) rfl ⟨rfl, rfl⟩ ⟨⟨Nat.le_of_ble_eq_true rfl, Nat.le_of_ble_eq_true rfl⟩, Nat.zero_le _, Nat.zero_le _⟩ (Nat.le_of_ble_eq_true rfl) ?_
    refine ev_iload_n dX11_spare_54 1 rfl ?_
    refine ev_icmp_ne 61 dX11_spare_55 (by decide) (fun h8 => ?_) (fun h8 => ?_)
    · rw [if_neg h8] at hf
      refine ev_iinc (al2 := [(3, vi (v4 + 1)), (0, vr g 0), (1, vi v2), (2, vi v3)]) dX11_spare_61 3 rfl (by decide) rfl ?_
      refine ev_goto 24 dX11_spare_64 (by decide) ?_
      obtain rfl := Option.some.inj hf
      refine ev_sub [1, 2, 3, 0] rfl ?_
      exact hr
    · rw [if_pos h8] at hf
      refine ev_iinc (al2 := [(2, vi (v3 + 1)), (0, vr g 0), (1, vi v2), (3, vi v4)]) dX11_spare_58 2 rfl (by decide) rfl ?_
      refine ev_iinc (al2 := [(3, vi (v4 + 1)), (2, vi (v3 + 1)), (0, vr g 0), (1, vi v2)]) dX11_spare_61 3 rfl (by decide) rfl ?_
      refine ev_goto 24 dX11_spare_64 (by decide) ?_
      obtain rfl := Option.some.inj hf
      refine ev_sub [2, 3, 1, 0] rfl ?_
      exact hr
def fX11_spare  (μ : Mem) : Option (Int × Mem) :=
  (fX7_told μ).bind fun q1 =>
  (fX4_doneFrom q1.1 (-1) q1.2).bind fun v2 =>
  (loopN (fun s => fX11_spare_b24 v2 s.1 s.2.1 s.2.2) FU (0, 0, q1.2)).bind fun q9 =>
  some ((q9.1, q9.2))
set_option maxRecDepth 4000 in
theorem eX11_spare (hS : Sd M K P L) (hc : CIn P 0 41)  (μ : Mem)  {o : Int × Mem} (hf : fX11_spare  μ = some o) (hr : (fun o : Int × Mem => Φ (some (vi o.1)) M x (L o.2)) o) : Ev l D cy g K yX11_spare cX11_spare 4 (some .int) (rmd 5 0 0) (MX D cy g K (rmd 5 0 0) Φ) 0 0 M x (L μ) 0 [(0, vr g 0)] [] := by
  unfold fX11_spare at hf
  refine ev_aload_n dX11_spare_0 0 rfl ?_
  refine ev_getK 5 dX11_spare_1 (hS.lt (hc 0 rfl)) rfl (hS.K1 (hc 0 rfl) rfl) ciX11 (by decide) rfl flX11_47 ?_
  refine ev_aload_n dX11_spare_4 0 rfl ?_
  refine ev_getK 4 dX11_spare_5 (hS.lt (hc 0 rfl)) rfl (hS.K1 (hc 0 rfl) rfl) ciX11 (by decide) rfl flX11_40 ?_
  refine ev_aload_n dX11_spare_8 0 rfl ?_
  refine ev_getK 4 dX11_spare_9 (hS.lt (hc 0 rfl)) rfl (hS.K1 (hc 0 rfl) rfl) ciX11 (by decide) rfl flX11_40 ?_
  obtain ⟨q1, hq1, hf⟩ := Option.bind_eq_some_iff.mp hf
  refine cl_V1 (As := []) (st := [vr g 25, vr g 39]) miX7_told (tX7_told hS (hc.w rfl rfl) μ hq1) dX11_spare_12 lkX11_108 inX7_told rfl (hS.lt (hc 25 rfl)) rfl ⟨rfl, rfl⟩ ⟨⟨Nat.le_of_ble_eq_true rfl, Nat.le_of_ble_eq_true rfl⟩, Nat.zero_le _, Nat.zero_le _⟩ (Nat.le_of_ble_eq_true rfl) ?_
  refine ev_iconst dX11_spare_15 ?_
  obtain ⟨v2, hv2, hf⟩ := Option.bind_eq_some_iff.mp hf
  refine cl_V1 (As := [vr g 25, vi q1.1, vi (-1)]) (st := []) miX4_doneFrom (tX4_doneFrom hS (hc.w rfl rfl) q1.1 (-1) q1.2 hv2) dX11_spare_16 lkX11_267 inX4_doneFrom rfl (hS.lt (hc 39 rfl)) rfl ⟨rfl, rfl⟩ ⟨⟨Nat.le_of_ble_eq_true rfl, Nat.le_of_ble_eq_true rfl⟩, Nat.zero_le _, Nat.zero_le _⟩ (Nat.le_of_ble_eq_true rfl) ?_
  refine ev_istore_n (al2 := [(1, vi v2), (0, vr g 0)]) dX11_spare_19 1 rfl (by decide) rfl ?_
  refine ev_iconst dX11_spare_20 ?_
  refine ev_istore_n (al2 := [(2, vi 0), (1, vi v2), (0, vr g 0)]) dX11_spare_21 2 rfl (by decide) rfl ?_
  refine ev_iconst dX11_spare_22 ?_
  refine ev_istore_n (al2 := [(3, vi 0), (2, vi 0), (1, vi v2), (0, vr g 0)]) dX11_spare_23 3 rfl (by decide) rfl ?_
  obtain ⟨q9, hq9, hf⟩ := Option.bind_eq_some_iff.mp hf
  refine ev_sub [3, 2, 1, 0] rfl ?_
  refine loop_ev (H := (fun s : Int × Int × Mem => Ev l D cy g K yX11_spare cX11_spare 4 (some .int) (rmd 5 0 0) (MX D cy g K (rmd 5 0 0) Φ) 0 0 M x (L s.2.2) 24 [(0, vr g 0), (1, vi v2), (2, vi s.1), (3, vi s.2.1)] [])) (Hx := (fun e : Int × Mem => Ev l D cy g K yX11_spare cX11_spare 4 (some .int) (rmd 5 0 0) (MX D cy g K (rmd 5 0 0) Φ) 0 0 M x (L e.2) 67 [(2, vi e.1)] [])) (fun s o hb hr => tX11_spare_b24 hS hc v2 s.1 s.2.1 s.2.2 hb hr) FU _ _ hq9 ?_
  show Ev l D cy g K yX11_spare cX11_spare 4 (some .int) (rmd 5 0 0) (MX D cy g K (rmd 5 0 0) Φ) 0 0 M x (L q9.2) 67 [(2, vi q9.1)] []
  refine ev_iload_n dX11_spare_67 0 rfl ?_
  obtain rfl := Option.some.inj hf
  exact ev_iret dX11_spare_68 rfl ⟨Nat.zero_le _, Nat.zero_le _⟩ hr
theorem tX11_spare (hS : Sd M K P L) (hc : CIn P 0 41) (μ : Mem) {o : Int × Mem} (hf : fX11_spare μ = some o) : Cn l D cy g K K yX11_spare cX11_spare 4 (some .int) (rmd 5 0 0) [vr g 0] M x (L μ) (PE (some (vi o.1)) M x (L o.2)) :=
 Cn.of (by decide) (Nat.le_of_ble_eq_true rfl) (eX11_spare hS hc μ hf (PE_i _ _ _ _))
def fX11_ends  (μ : Mem) : Option (Bool) :=
  (fX4_doneFrom (μ 41 1) (-1) μ).bind fun v1 =>
  lt (if w32 v1 = w32 (μ 25 4) then
      true
    else
      false) fun v2 =>
  some (v2)
set_option maxRecDepth 4000 in
theorem eX11_ends (hS : Sd M K P L) (hc : CIn P 0 75)  (μ : Mem)  {o : Bool} (hf : fX11_ends  μ = some o) (hr : (fun o : Bool => Φ (some (vb o)) M x (L μ)) o) : Ev l D cy g K yX11_ends cX11_ends 1 (some .boolean) (rmd 5 0 0) (MX D cy g K (rmd 5 0 0) Φ) 0 0 M x (L μ) 0 [(0, vr g 0)] [] := by
  unfold fX11_ends at hf
  refine ev_aload_n dX11_ends_0 0 rfl ?_
  refine ev_getK 5 dX11_ends_1 (hS.lt (hc 0 rfl)) rfl (hS.K1 (hc 0 rfl) rfl) ciX11 (by decide) rfl flX11_47 ?_
  refine ev_aload_n dX11_ends_4 0 rfl ?_
  refine ev_getK 4 dX11_ends_5 (hS.lt (hc 0 rfl)) rfl (hS.K1 (hc 0 rfl) rfl) ciX11 (by decide) rfl flX11_40 ?_
  refine ev_aload_n dX11_ends_8 0 rfl ?_
  refine ev_getK 7 dX11_ends_9 (hS.lt (hc 0 rfl)) rfl (hS.K1 (hc 0 rfl) rfl) ciX11 (by decide) rfl flX11_58 ?_
  refine cl_V1 (As := []) (st := [vr g 25, vr g 39]) miX5_stack (tX5_stack hS (hc.w rfl rfl) 41 μ (by simp [isMo]) (o := (μ 41 1)) rfl) dX11_ends_12 lkX11_167 inX5_stack rfl (hS.lt (hc 41 rfl)) rfl ⟨rfl, rfl⟩ ⟨⟨Nat.le_of_ble_eq_true rfl, Nat.le_of_ble_eq_true rfl⟩, Nat.zero_le _, Nat.zero_le _⟩ (Nat.le_of_ble_eq_true rfl) ?_
  refine ev_iconst dX11_ends_15 ?_
  obtain ⟨v1, hv1, hf⟩ := Option.bind_eq_some_iff.mp hf
  refine cl_V1 (As := [vr g 25, vi (μ 41 1), vi (-1)]) (st := []) miX4_doneFrom (tX4_doneFrom hS (hc.w rfl rfl) (μ 41 1) (-1) μ hv1) dX11_ends_16 lkX11_267 inX4_doneFrom rfl (hS.lt (hc 39 rfl)) rfl ⟨rfl, rfl⟩ ⟨⟨Nat.le_of_ble_eq_true rfl, Nat.le_of_ble_eq_true rfl⟩, Nat.zero_le _, Nat.zero_le _⟩ (Nat.le_of_ble_eq_true rfl) ?_
  refine ev_aload_n dX11_ends_19 0 rfl ?_
  refine ev_getK 4 dX11_ends_20 (hS.lt (hc 0 rfl)) rfl (hS.K1 (hc 0 rfl) rfl) ciX11 (by decide) rfl flX11_40 ?_
  refine cl_V1 (As := []) (st := [vi v1]) miX7_goal (tX7_goal hS (hc.w rfl rfl) μ (o := (μ 25 4)) rfl) dX11_ends_23 lkX11_208 inX7_goal rfl (hS.lt (hc 25 rfl)) rfl ⟨rfl, rfl⟩ ⟨⟨Nat.le_of_ble_eq_true rfl, Nat.le_of_ble_eq_true rfl⟩, Nat.zero_le _, Nat.zero_le _⟩ (Nat.le_of_ble_eq_true rfl) ?_
  obtain ⟨v2, hv2, hf⟩ := lt_elim hf
  have hJv2 : Ev l D cy g K yX11_ends cX11_ends 1 (some .boolean) (rmd 5 0 0) (MX D cy g K (rmd 5 0 0) Φ) 0 0 M x (L μ) 34 [(0, vr g 0)] [vb v2] := by
    obtain rfl := Option.some.inj hf
    exact ev_bret (b := v2) dX11_ends_34 rfl ⟨Nat.zero_le _, Nat.zero_le _⟩ hr
  refine ev_icmp_ne 33 dX11_ends_26 (by decide) (fun h3 => ?_) (fun h3 => ?_)
  · refine ev_iconst dX11_ends_33 ?_
    have e9 : v2 = false := hv2.trans ((if_neg h3))
    subst e9
    exact hJv2
  · refine ev_iconst dX11_ends_29 ?_
    refine ev_goto 34 dX11_ends_30 (by decide) ?_
    have e9 : v2 = true := hv2.trans ((if_pos h3))
    subst e9
    exact hJv2
theorem tX11_ends (hS : Sd M K P L) (hc : CIn P 0 75) (μ : Mem) {o : Bool} (hf : fX11_ends μ = some o) : Cn l D cy g K K yX11_ends cX11_ends 1 (some .boolean) (rmd 5 0 0) [vr g 0] M x (L μ) (PE (some (vb o)) M x (L μ)) :=
 Cn.of (by decide) (Nat.le_of_ble_eq_true rfl) (eX11_ends hS hc μ hf (PE_i _ _ _ _))
def fX1_openTurns_b4 (stack : Int) (v1 : Int) (v2 : Int) (μ : Mem) : Option ((Int × Int) ⊕ (Int)) :=
  if w32 v2 ≤ w32 (μ 25 1) then
    lt (if (fX7_isOpen stack v2 μ) = true then
        1
      else
        0) fun v4 =>
    lt (v1 + v4) fun v6 =>
    some (.inl (v6, (v2 + 1)))
  else
    some (.inr v1)
set_option maxRecDepth 4000 in
theorem tX1_openTurns_b4 (hS : Sd M K P L) (hc : CIn P 1 56) (stack : Int) (v1 : Int) (v2 : Int) (μ : Mem)  {o : (Int × Int) ⊕ (Int)} (hf : fX1_openTurns_b4 stack v1 v2 μ = some o) (hr : (Sum.elim (fun s : Int × Int => Ev l D cy g K yX1_openTurns cX1_openTurns 4 (some .int) (rmd 4 0 0) (MX D cy g K (rmd 4 0 0) Φ) 0 0 M x (L μ) 4 [(0, vr g 55), (1, vi stack), (2, vi s.1), (3, vi s.2)] []) (fun e : Int => Ev l D cy g K yX1_openTurns cX1_openTurns 4 (some .int) (rmd 4 0 0) (MX D cy g K (rmd 4 0 0) Φ) 0 0 M x (L μ) 41 [(2, vi e)] [])) o) : Ev l D cy g K yX1_openTurns cX1_openTurns 4 (some .int) (rmd 4 0 0) (MX D cy g K (rmd 4 0 0) Φ) 0 0 M x (L μ) 4 [(0, vr g 55), (1, vi stack), (2, vi v1), (3, vi v2)] [] := by
  unfold fX1_openTurns_b4 at hf
  refine ev_iload_n dX1_openTurns_4 3 rfl ?_
  refine ev_aload_n dX1_openTurns_5 0 rfl ?_
  refine ev_getK 0 dX1_openTurns_6 (hS.lt (hc 55 rfl)) rfl (hS.K1 (hc 55 rfl) rfl) ciX1 (by decide) rfl flX1_15 ?_
  refine cl_V1 (As := []) (st := [vi v2]) miX7_cakes (tX7_cakes hS (hc.w rfl rfl) μ (o := (μ 25 1)) rfl) dX1_openTurns_9 lkX1_61 inX7_cakes rfl (hS.lt (hc 25 rfl)) rfl ⟨rfl, rfl⟩ ⟨⟨Nat.le_of_ble_eq_true rfl, Nat.le_of_ble_eq_true rfl⟩, Nat.zero_le _, Nat.zero_le _⟩ (Nat.le_of_ble_eq_true rfl) ?_
  refine ev_icmp_gt 41 dX1_openTurns_12 (by decide) (fun h3 => ?_) (fun h3 => ?_)
  · rw [if_neg h3] at hf
    obtain rfl := Option.some.inj hf
    refine ev_sub [2] rfl ?_
    exact hr
  · rw [if_pos h3] at hf
    refine ev_iload_n dX1_openTurns_15 2 rfl ?_
    refine ev_aload_n dX1_openTurns_16 0 rfl ?_
    refine ev_getK 0 dX1_openTurns_17 (hS.lt (hc 55 rfl)) rfl (hS.K1 (hc 55 rfl) rfl) ciX1 (by decide) rfl flX1_15 ?_
    refine ev_iload_n dX1_openTurns_20 1 rfl ?_
    refine ev_iload_n dX1_openTurns_21 3 rfl ?_
    refine cl_V1 (As := [vi stack, vi v2]) (st := [vi v1]) miX7_isOpen (tX7_isOpen hS (hc.w rfl rfl) stack v2 μ (o := (fX7_isOpen stack v2 μ)) rfl) dX1_openTurns_22 lkX1_64 inX7_isOpen rfl (hS.lt (hc 25 rfl)) rfl ⟨rfl, rfl⟩ ⟨⟨Nat.le_of_ble_eq_true rfl, Nat.le_of_ble_eq_true rfl⟩, Nat.zero_le _, Nat.zero_le _⟩ (Nat.le_of_ble_eq_true rfl) ?_
    obtain ⟨v4, hv4, hf⟩ := lt_elim hf
    have hJv4 : Ev l D cy g K yX1_openTurns cX1_openTurns 4 (some .int) (rmd 4 0 0) (MX D cy g K (rmd 4 0 0) Φ) 0 0 M x (L μ) 33 [(0, vr g 55), (1, vi stack), (2, vi v1), (3, vi v2)] [vi v4, vi v1] := by
      refine ev_iadd dX1_openTurns_33 ?_
      obtain ⟨v6, hv6, hf⟩ := lt_elim hf
      refine ev_rni hv6 ?_
      refine ev_istore_n (al2 := [(2, vi v6), (0, vr g 55), (1, vi stack), (3, vi v2)]) dX1_openTurns_34 2 rfl (by decide) rfl ?_
      refine ev_iinc (al2 := [(3, vi (v2 + 1)), (2, vi v6), (0, vr g 55), (1, vi stack)]) dX1_openTurns_35 3 rfl (by decide) rfl ?_
      refine ev_goto 4 dX1_openTurns_38 (by decide) ?_
      obtain rfl := Option.some.inj hf
      refine ev_sub [2, 3, 1, 0] rfl ?_
      exact hr
    refine ev_ifb_eq 32 dX1_openTurns_25 (by decide) (fun h5 => ?_) (fun h5 => ?_)
    · refine ev_iconst dX1_openTurns_32 ?_
      have e9 : v4 = 0 := hv4.trans ((if_neg h5))
      subst e9
      exact hJv4
    · refine ev_iconst dX1_openTurns_28 ?_
      refine ev_goto 33 dX1_openTurns_29 (by decide) ?_
      have e9 : v4 = 1 := hv4.trans ((if_pos h5))
      subst e9
      exact hJv4
def fX1_openTurns (stack : Int) (μ : Mem) : Option (Int) :=
  (loopN (fun s => fX1_openTurns_b4 stack s.1 s.2 μ) FU (0, 1)).bind fun q7 =>
  some (q7)
set_option maxRecDepth 4000 in
theorem eX1_openTurns (hS : Sd M K P L) (hc : CIn P 1 56) (stack : Int) (μ : Mem)  {o : Int} (hf : fX1_openTurns stack μ = some o) (hr : (fun o : Int => Φ (some (vi o)) M x (L μ)) o) : Ev l D cy g K yX1_openTurns cX1_openTurns 4 (some .int) (rmd 4 0 0) (MX D cy g K (rmd 4 0 0) Φ) 0 0 M x (L μ) 0 [(0, vr g 55), (1, vi stack)] [] := by
  unfold fX1_openTurns at hf
  refine ev_iconst dX1_openTurns_0 ?_
  refine ev_istore_n (al2 := [(2, vi 0), (0, vr g 55), (1, vi stack)]) dX1_openTurns_1 2 rfl (by decide) rfl ?_
  refine ev_iconst dX1_openTurns_2 ?_
  refine ev_istore_n (al2 := [(3, vi 1), (2, vi 0), (0, vr g 55), (1, vi stack)]) dX1_openTurns_3 3 rfl (by decide) rfl ?_
  obtain ⟨q7, hq7, hf⟩ := Option.bind_eq_some_iff.mp hf
  refine ev_sub [2, 3, 1, 0] rfl ?_
  refine loop_ev (H := (fun s : Int × Int => Ev l D cy g K yX1_openTurns cX1_openTurns 4 (some .int) (rmd 4 0 0) (MX D cy g K (rmd 4 0 0) Φ) 0 0 M x (L μ) 4 [(0, vr g 55), (1, vi stack), (2, vi s.1), (3, vi s.2)] [])) (Hx := (fun e : Int => Ev l D cy g K yX1_openTurns cX1_openTurns 4 (some .int) (rmd 4 0 0) (MX D cy g K (rmd 4 0 0) Φ) 0 0 M x (L μ) 41 [(2, vi e)] [])) (fun s o hb hr => tX1_openTurns_b4 hS hc stack s.1 s.2 μ hb hr) FU _ _ hq7 ?_
  show Ev l D cy g K yX1_openTurns cX1_openTurns 4 (some .int) (rmd 4 0 0) (MX D cy g K (rmd 4 0 0) Φ) 0 0 M x (L μ) 41 [(2, vi q7)] []
  refine ev_iload_n dX1_openTurns_41 0 rfl ?_
  obtain rfl := Option.some.inj hf
  exact ev_iret dX1_openTurns_42 rfl ⟨Nat.zero_le _, Nat.zero_le _⟩ hr
theorem tX1_openTurns (hS : Sd M K P L) (hc : CIn P 1 56) (stack : Int) (μ : Mem) {o : Int} (hf : fX1_openTurns stack μ = some o) : Cn l D cy g K K yX1_openTurns cX1_openTurns 4 (some .int) (rmd 4 0 0) [vr g 55, vi stack] M x (L μ) (PE (some (vi o)) M x (L μ)) :=
 Cn.of (by decide) (Nat.le_of_ble_eq_true rfl) (eX1_openTurns hS hc stack μ hf (PE_i _ _ _ _))
def fX1_learnRound_j128 (stack : Int) (tail : Int) (v1 : Nat) (v3 : Bool) (v13 : Int) (v14 : Int) (v15 : Int) (μ : Mem) : Option ((Int × Int × Mem) ⊕ (Int × Mem)) :=
  lt (fX11_put 56 v15 ((fX11_at 56 stack μ) + 1) μ) fun μ16 =>
  lt (fX11_put 35 v13 v15 μ16) fun μ17 =>
  some (.inl ((v13 + 1), (v14 + 1), μ17))
set_option maxRecDepth 4000 in
theorem tX1_learnRound_j128 (hS : Sd M K P L) (hc : CIn P 1 57) (stack : Int) (tail : Int) (v1 : Nat) (v3 : Bool) (v13 : Int) (v14 : Int) (v15 : Int) (μ : Mem) (kv1 : isCt v1) {o : (Int × Int × Mem) ⊕ (Int × Mem)} (hf : fX1_learnRound_j128 stack tail v1 v3 v13 v14 v15 μ = some o) (hr : (Sum.elim (fun s : Int × Int × Mem => Ev l D cy g K yX1_learnRound cX1_learnRound 9 (some .int) (rmd 4 0 0) (MX D cy g K (rmd 4 0 0) Φ) 0 0 M x (L s.2.2) 43 [(0, vr g 55), (1, vi stack), (3, vr g 35), (4, vr g v1), (5, vi s.1), (6, vb v3), (7, vi s.2.1)] []) (fun e : Int × Mem => Ev l D cy g K yX1_learnRound cX1_learnRound 9 (some .int) (rmd 4 0 0) (MX D cy g K (rmd 4 0 0) Φ) 0 0 M x (L e.2) 164 [(5, vi e.1)] [])) o) : Ev l D cy g K yX1_learnRound cX1_learnRound 9 (some .int) (rmd 4 0 0) (MX D cy g K (rmd 4 0 0) Φ) 0 0 M x (L μ) 128 [(0, vr g 55), (1, vi stack), (3, vr g 35), (4, vr g v1), (5, vi v13), (6, vb v3), (7, vi v14), (8, vi v15)] [] := by
  unfold fX1_learnRound_j128 at hf
  refine ev_aload_n dX1_learnRound_128 0 rfl ?_
  refine ev_getK 1 dX1_learnRound_129 (hS.lt (hc 55 rfl)) rfl (hS.K1 (hc 55 rfl) rfl) ciX1 (by decide) rfl flX1_9 ?_
  refine ev_iload dX1_learnRound_132 7 rfl ?_
  refine ev_aload_n dX1_learnRound_134 0 rfl ?_
  refine ev_getK 1 dX1_learnRound_135 (hS.lt (hc 55 rfl)) rfl (hS.K1 (hc 55 rfl) rfl) ciX1 (by decide) rfl flX1_9 ?_
  refine ev_iload_n dX1_learnRound_138 1 rfl ?_
  refine cl_N1 (As := [vr g 56, vi stack]) (st := [vi v15, vr g 56]) (host := "HotCakes") miX11_at (tX11_at hS (hc.w rfl rfl) 56 stack μ (⟨(hc 56 rfl), rfl⟩) (o := (fX11_at 56 stack μ)) rfl) dX1_learnRound_139 (by decide) stX11_at rfl ⟨⟨Nat.le_of_ble_eq_true rfl, Nat.le_of_ble_eq_true rfl⟩, Nat.zero_le _, Nat.zero_le _⟩ (Nat.le_of_ble_eq_true rfl) ?_
  refine ev_iconst dX1_learnRound_142 ?_
  refine ev_iadd dX1_learnRound_143 ?_
  obtain ⟨μ16, hμ16, hf⟩ := lt_elim hf
  refine cl_N0 (As := [vr g 56, vi v15, vi ((fX11_at 56 stack μ) + 1)]) (st := []) (host := "HotCakes") miX11_put (tX11_put hS (hc.w rfl rfl) 56 v15 ((fX11_at 56 stack μ) + 1) μ (⟨(hc 56 rfl), rfl⟩) hμ16.symm) dX1_learnRound_144 (by decide) stX11_put rfl ⟨⟨Nat.le_of_ble_eq_true rfl, Nat.le_of_ble_eq_true rfl⟩, Nat.zero_le _, Nat.zero_le _⟩ (Nat.le_of_ble_eq_true rfl) ?_
  refine ev_aload_n dX1_learnRound_147 2 rfl ?_
  refine ev_iload dX1_learnRound_148 4 rfl ?_
  refine ev_iload dX1_learnRound_150 7 rfl ?_
  obtain ⟨μ17, hμ17, hf⟩ := lt_elim hf
  refine cl_N0 (As := [vr g 35, vi v13, vi v15]) (st := []) (host := "HotCakes") miX11_put (tX11_put hS (hc.w rfl rfl) 35 v13 v15 μ16 (⟨(hc 35 rfl), rfl⟩) hμ17.symm) dX1_learnRound_152 (by decide) stX11_put rfl ⟨⟨Nat.le_of_ble_eq_true rfl, Nat.le_of_ble_eq_true rfl⟩, Nat.zero_le _, Nat.zero_le _⟩ (Nat.le_of_ble_eq_true rfl) ?_
  refine ev_iinc (al2 := [(5, vi (v13 + 1)), (0, vr g 55), (1, vi stack), (3, vr g 35), (4, vr g v1), (6, vb v3), (7, vi v14), (8, vi v15)]) dX1_learnRound_155 4 rfl (by decide) rfl ?_
  refine ev_iinc (al2 := [(7, vi (v14 + 1)), (5, vi (v13 + 1)), (0, vr g 55), (1, vi stack), (3, vr g 35), (4, vr g v1), (6, vb v3), (8, vi v15)]) dX1_learnRound_158 6 rfl (by decide) rfl ?_
  refine ev_goto 43 dX1_learnRound_161 (by decide) ?_
  obtain rfl := Option.some.inj hf
  refine ev_sub [2, 3, 4, 5, 1, 6, 0] rfl ?_
  exact hr
def fX1_learnRound_b43 (stack : Int) (tail : Int) (v1 : Nat) (v3 : Bool) (v5 : Int) (v6 : Int) (μ : Mem) : Option ((Int × Int × Mem) ⊕ (Int × Mem)) :=
  if w32 v6 ≤ w32 (μ 25 1) then
    lt (fX7_turned stack v6 μ) fun v8 =>
    if w32 (fX11_at 56 v8 μ) = w32 (-1) then
      if (fX7_isOpen v8 v6 μ) = true then
        lt (fX11_put v1 v8 ((fX11_at v1 v8 μ) - 1) μ) fun μ11 =>
        if v3 = true then
          fX1_learnRound_j128 stack tail v1 v3 v5 v6 v8 μ11
        else
          if w32 (fX11_at v1 v8 μ11) = 0 then
            fX1_learnRound_j128 stack tail v1 v3 v5 v6 v8 μ11
          else
            some (.inl (v5, (v6 + 1), μ11))
      else
        some (.inl (v5, (v6 + 1), μ))
    else
      some (.inl (v5, (v6 + 1), μ))
  else
    some (.inr (v5, μ))
set_option maxRecDepth 4000 in
theorem tX1_learnRound_b43 (hS : Sd M K P L) (hc : CIn P 1 57) (stack : Int) (tail : Int) (v1 : Nat) (v3 : Bool) (v5 : Int) (v6 : Int) (μ : Mem) (kv1 : isCt v1) {o : (Int × Int × Mem) ⊕ (Int × Mem)} (hf : fX1_learnRound_b43 stack tail v1 v3 v5 v6 μ = some o) (hr : (Sum.elim (fun s : Int × Int × Mem => Ev l D cy g K yX1_learnRound cX1_learnRound 9 (some .int) (rmd 4 0 0) (MX D cy g K (rmd 4 0 0) Φ) 0 0 M x (L s.2.2) 43 [(0, vr g 55), (1, vi stack), (3, vr g 35), (4, vr g v1), (5, vi s.1), (6, vb v3), (7, vi s.2.1)] []) (fun e : Int × Mem => Ev l D cy g K yX1_learnRound cX1_learnRound 9 (some .int) (rmd 4 0 0) (MX D cy g K (rmd 4 0 0) Φ) 0 0 M x (L e.2) 164 [(5, vi e.1)] [])) o) : Ev l D cy g K yX1_learnRound cX1_learnRound 9 (some .int) (rmd 4 0 0) (MX D cy g K (rmd 4 0 0) Φ) 0 0 M x (L μ) 43 [(0, vr g 55), (1, vi stack), (3, vr g 35), (4, vr g v1), (5, vi v5), (6, vb v3), (7, vi v6)] [] := by
  unfold fX1_learnRound_b43 at hf
  refine ev_iload dX1_learnRound_43 6 rfl ?_
  refine ev_aload_n dX1_learnRound_45 0 rfl ?_
  refine ev_getK 0 dX1_learnRound_46 (hS.lt (hc 55 rfl)) rfl (hS.K1 (hc 55 rfl) rfl) ciX1 (by decide) rfl flX1_15 ?_
  refine cl_V1 (As := []) (st := [vi v6]) miX7_cakes (tX7_cakes hS (hc.w rfl rfl) μ (o := (μ 25 1)) rfl) dX1_learnRound_49 lkX1_61 inX7_cakes rfl (hS.lt (hc 25 rfl)) rfl ⟨rfl, rfl⟩ ⟨⟨Nat.le_of_ble_eq_true rfl, Nat.le_of_ble_eq_true rfl⟩, Nat.zero_le _, Nat.zero_le _⟩ (Nat.le_of_ble_eq_true rfl) ?_
  refine ev_icmp_gt 164 dX1_learnRound_52 (by decide) (fun h7 => ?_) (fun h7 => ?_)
  · rw [if_neg h7] at hf
    obtain rfl := Option.some.inj hf
    refine ev_sub [4] rfl ?_
    exact hr
  · rw [if_pos h7] at hf
    refine ev_aload_n dX1_learnRound_55 0 rfl ?_
    refine ev_getK 0 dX1_learnRound_56 (hS.lt (hc 55 rfl)) rfl (hS.K1 (hc 55 rfl) rfl) ciX1 (by decide) rfl flX1_15 ?_
    refine ev_iload_n dX1_learnRound_59 1 rfl ?_
    refine ev_iload dX1_learnRound_60 6 rfl ?_
    refine cl_V1 (As := [vi stack, vi v6]) (st := []) miX7_turned (tX7_turned hS (hc.w rfl rfl) stack v6 μ (o := (fX7_turned stack v6 μ)) rfl) dX1_learnRound_62 lkX1_68 inX7_turned rfl (hS.lt (hc 25 rfl)) rfl ⟨rfl, rfl⟩ ⟨⟨Nat.le_of_ble_eq_true rfl, Nat.le_of_ble_eq_true rfl⟩, Nat.zero_le _, Nat.zero_le _⟩ (Nat.le_of_ble_eq_true rfl) ?_
    obtain ⟨v8, hv8, hf⟩ := lt_elim hf
    refine ev_rni hv8 ?_
    refine ev_istore (al2 := [(8, vi v8), (0, vr g 55), (1, vi stack), (3, vr g 35), (4, vr g v1), (5, vi v5), (6, vb v3), (7, vi v6)]) dX1_learnRound_65 (by decide) rfl ?_
    refine ev_aload_n dX1_learnRound_67 1 rfl ?_
    refine ev_getK 1 dX1_learnRound_68 (hS.lt (hc 55 rfl)) rfl (hS.K1 (hc 55 rfl) rfl) ciX1 (by decide) rfl flX1_9 ?_
    refine ev_iload dX1_learnRound_71 0 rfl ?_
    refine cl_N1 (As := [vr g 56, vi v8]) (st := []) (host := "HotCakes") miX11_at (tX11_at hS (hc.w rfl rfl) 56 v8 μ (⟨(hc 56 rfl), rfl⟩) (o := (fX11_at 56 v8 μ)) rfl) dX1_learnRound_73 (by decide) stX11_at rfl ⟨⟨Nat.le_of_ble_eq_true rfl, Nat.le_of_ble_eq_true rfl⟩, Nat.zero_le _, Nat.zero_le _⟩ (Nat.le_of_ble_eq_true rfl) ?_
    refine ev_iconst dX1_learnRound_76 ?_
    refine ev_icmp_ne 158 dX1_learnRound_77 (by decide) (fun h9 => ?_) (fun h9 => ?_)
    · rw [if_neg h9] at hf
      refine ev_iinc (al2 := [(7, vi (v6 + 1)), (8, vi v8), (0, vr g 55), (1, vi stack), (3, vr g 35), (4, vr g v1), (5, vi v5), (6, vb v3)]) dX1_learnRound_158 7 rfl (by decide) rfl ?_
      refine ev_goto 43 dX1_learnRound_161 (by decide) ?_
      obtain rfl := Option.some.inj hf
      refine ev_sub [2, 3, 4, 5, 6, 7, 0] rfl ?_
      exact hr
    · rw [if_pos h9] at hf
      refine ev_aload_n dX1_learnRound_80 1 rfl ?_
      refine ev_getK 0 dX1_learnRound_81 (hS.lt (hc 55 rfl)) rfl (hS.K1 (hc 55 rfl) rfl) ciX1 (by decide) rfl flX1_15 ?_
      refine ev_iload dX1_learnRound_84 0 rfl ?_
      refine ev_iload dX1_learnRound_86 7 rfl ?_
      refine cl_V1 (As := [vi v8, vi v6]) (st := []) miX7_isOpen (tX7_isOpen hS (hc.w rfl rfl) v8 v6 μ (o := (fX7_isOpen v8 v6 μ)) rfl) dX1_learnRound_88 lkX1_64 inX7_isOpen rfl (hS.lt (hc 25 rfl)) rfl ⟨rfl, rfl⟩ ⟨⟨Nat.le_of_ble_eq_true rfl, Nat.le_of_ble_eq_true rfl⟩, Nat.zero_le _, Nat.zero_le _⟩ (Nat.le_of_ble_eq_true rfl) ?_
      refine ev_ifb_ne 97 dX1_learnRound_91 (by decide) (fun h10 => ?_) (fun h10 => ?_)
      · rw [if_pos h10] at hf
        refine ev_aload dX1_learnRound_97 4 rfl ?_
        refine ev_iload dX1_learnRound_99 0 rfl ?_
        refine ev_aload dX1_learnRound_101 4 rfl ?_
        refine ev_iload dX1_learnRound_103 0 rfl ?_
        refine cl_N1 (As := [vr g v1, vi v8]) (st := [vi v8, vr g v1]) (host := "HotCakes") miX11_at (tX11_at hS (hc.w rfl rfl) v1 v8 μ (⟨(hc _ (inR_w (i_Ct kv1) rfl rfl)), (ia_of (s_Ct kv1))⟩) (o := (fX11_at v1 v8 μ)) rfl) dX1_learnRound_105 (by decide) stX11_at rfl ⟨⟨Nat.le_of_ble_eq_true rfl, Nat.le_of_ble_eq_true rfl⟩, Nat.zero_le _, Nat.zero_le _⟩ (Nat.le_of_ble_eq_true rfl) ?_
        refine ev_iconst dX1_learnRound_108 ?_
        refine ev_isub dX1_learnRound_109 ?_
        obtain ⟨μ11, hμ11, hf⟩ := lt_elim hf
        refine cl_N0 (As := [vr g v1, vi v8, vi ((fX11_at v1 v8 μ) - 1)]) (st := []) (host := "HotCakes") miX11_put (tX11_put hS (hc.w rfl rfl) v1 v8 ((fX11_at v1 v8 μ) - 1) μ (⟨(hc _ (inR_w (i_Ct kv1) rfl rfl)), (ia_of (s_Ct kv1))⟩) hμ11.symm) dX1_learnRound_110 (by decide) stX11_put rfl ⟨⟨Nat.le_of_ble_eq_true rfl, Nat.le_of_ble_eq_true rfl⟩, Nat.zero_le _, Nat.zero_le _⟩ (Nat.le_of_ble_eq_true rfl) ?_
        refine ev_iload dX1_learnRound_113 6 rfl ?_
        refine ev_ifb_ne 128 dX1_learnRound_115 (by decide) (fun h12 => ?_) (fun h12 => ?_)
        · rw [if_pos h12] at hf
          refine ev_sub [1, 2, 3, 4, 5, 6, 7, 0] rfl ?_
          exact tX1_learnRound_j128 hS hc stack tail v1 v3 v5 v6 v8 μ11 kv1 hf hr
        · rw [if_neg h12] at hf
          refine ev_aload dX1_learnRound_118 4 rfl ?_
          refine ev_iload dX1_learnRound_120 0 rfl ?_
          refine cl_N1 (As := [vr g v1, vi v8]) (st := []) (host := "HotCakes") miX11_at (tX11_at hS (hc.w rfl rfl) v1 v8 μ11 (⟨(hc _ (inR_w (i_Ct kv1) rfl rfl)), (ia_of (s_Ct kv1))⟩) (o := (fX11_at v1 v8 μ11)) rfl) dX1_learnRound_122 (by decide) stX11_at rfl ⟨⟨Nat.le_of_ble_eq_true rfl, Nat.le_of_ble_eq_true rfl⟩, Nat.zero_le _, Nat.zero_le _⟩ (Nat.le_of_ble_eq_true rfl) ?_
          refine ev_if_ne 158 dX1_learnRound_125 (by decide) (fun h18 => ?_) (fun h18 => ?_)
          · rw [if_neg h18] at hf
            refine ev_iinc (al2 := [(7, vi (v6 + 1)), (8, vi v8), (0, vr g 55), (1, vi stack), (3, vr g 35), (4, vr g v1), (5, vi v5), (6, vb v3)]) dX1_learnRound_158 7 rfl (by decide) rfl ?_
            refine ev_goto 43 dX1_learnRound_161 (by decide) ?_
            obtain rfl := Option.some.inj hf
            refine ev_sub [2, 3, 4, 5, 6, 7, 0] rfl ?_
            exact hr
          · rw [if_pos h18] at hf
            refine ev_sub [1, 2, 3, 4, 5, 6, 7, 0] rfl ?_
            exact tX1_learnRound_j128 hS hc stack tail v1 v3 v5 v6 v8 μ11 kv1 hf hr
      · rw [if_neg h10] at hf
        refine ev_goto 158 dX1_learnRound_94 (by decide) ?_
        refine ev_iinc (al2 := [(7, vi (v6 + 1)), (8, vi v8), (0, vr g 55), (1, vi stack), (3, vr g 35), (4, vr g v1), (5, vi v5), (6, vb v3)]) dX1_learnRound_158 7 rfl (by decide) rfl ?_
        refine ev_goto 43 dX1_learnRound_161 (by decide) ?_
        obtain rfl := Option.some.inj hf
        refine ev_sub [2, 3, 4, 5, 6, 7, 0] rfl ?_
        exact hr
def fX1_learnRound (stack : Int) (tail : Int) (μ : Mem) : Option (Int × Mem) :=
  (fX7_scratch μ).bind fun v1 =>
  lt (if w32 (i_rem (fX11_at 56 stack μ) 2) = 0 then
      true
    else
      false) fun v3 =>
  (loopN (fun s => fX1_learnRound_b43 stack tail v1 v3 s.1 s.2.1 s.2.2) FU (tail, 1, μ)).bind fun q22 =>
  some ((q22.1, q22.2))
set_option maxRecDepth 4000 in
theorem eX1_learnRound (hS : Sd M K P L) (hc : CIn P 1 57) (stack : Int) (tail : Int) (μ : Mem)  {o : Int × Mem} (hf : fX1_learnRound stack tail μ = some o) (hr : (fun o : Int × Mem => Φ (some (vi o.1)) M x (L o.2)) o) : Ev l D cy g K yX1_learnRound cX1_learnRound 9 (some .int) (rmd 4 0 0) (MX D cy g K (rmd 4 0 0) Φ) 0 0 M x (L μ) 0 [(0, vr g 55), (1, vi stack), (2, vi tail)] [] := by
  unfold fX1_learnRound at hf
  refine ev_aload_n dX1_learnRound_0 0 rfl ?_
  refine ev_getK 0 dX1_learnRound_1 (hS.lt (hc 55 rfl)) rfl (hS.K1 (hc 55 rfl) rfl) ciX1 (by decide) rfl flX1_15 ?_
  refine cl_V1 (As := []) (st := []) miX7_queue (tX7_queue hS (hc.w rfl rfl) μ rfl) dX1_learnRound_4 lkX1_29 inX7_queue rfl (hS.lt (hc 25 rfl)) rfl ⟨rfl, rfl⟩ ⟨⟨Nat.le_of_ble_eq_true rfl, Nat.le_of_ble_eq_true rfl⟩, Nat.zero_le _, Nat.zero_le _⟩ (Nat.le_of_ble_eq_true rfl) ?_
  refine ev_astore_n (al2 := [(3, vr g 35), (0, vr g 55), (1, vi stack), (2, vi tail)]) dX1_learnRound_7 3 rfl (by decide) rfl ?_
  refine ev_aload_n dX1_learnRound_8 1 rfl ?_
  refine ev_getK 0 dX1_learnRound_9 (hS.lt (hc 55 rfl)) rfl (hS.K1 (hc 55 rfl) rfl) ciX1 (by decide) rfl flX1_15 ?_
  obtain ⟨v1, hv1, hf⟩ := Option.bind_eq_some_iff.mp hf
  refine cl_V1 (As := []) (st := []) miX7_scratch (tX7_scratch hS (hc.w rfl rfl) μ hv1) dX1_learnRound_12 lkX1_35 inX7_scratch rfl (hS.lt (hc 25 rfl)) rfl ⟨rfl, rfl⟩ ⟨⟨Nat.le_of_ble_eq_true rfl, Nat.le_of_ble_eq_true rfl⟩, Nat.zero_le _, Nat.zero_le _⟩ (Nat.le_of_ble_eq_true rfl) ?_
  refine ev_astore (al2 := [(4, vr g v1), (3, vr g 35), (0, vr g 55), (1, vi stack), (2, vi tail)]) dX1_learnRound_15 (by decide) rfl ?_
  refine ev_iload_n dX1_learnRound_17 4 rfl ?_
  refine ev_istore (al2 := [(5, vi tail), (4, vr g v1), (3, vr g 35), (0, vr g 55), (1, vi stack), (2, vi tail)]) dX1_learnRound_18 (by decide) rfl ?_
  refine ev_aload_n dX1_learnRound_20 3 rfl ?_
  refine ev_getK 1 dX1_learnRound_21 (hS.lt (hc 55 rfl)) rfl (hS.K1 (hc 55 rfl) rfl) ciX1 (by decide) rfl flX1_9 ?_
  refine ev_iload_n dX1_learnRound_24 4 rfl ?_
  refine cl_N1 (As := [vr g 56, vi stack]) (st := []) (host := "HotCakes") miX11_at (tX11_at hS (hc.w rfl rfl) 56 stack μ (⟨(hc 56 rfl), rfl⟩) (o := (fX11_at 56 stack μ)) rfl) dX1_learnRound_25 (by decide) stX11_at rfl ⟨⟨Nat.le_of_ble_eq_true rfl, Nat.le_of_ble_eq_true rfl⟩, Nat.zero_le _, Nat.zero_le _⟩ (Nat.le_of_ble_eq_true rfl) ?_
  refine ev_iconst dX1_learnRound_28 ?_
  refine ev_irem dX1_learnRound_29 (by decide) ?_
  obtain ⟨v3, hv3, hf⟩ := lt_elim hf
  have hJv3 : Ev l D cy g K yX1_learnRound cX1_learnRound 9 (some .int) (rmd 4 0 0) (MX D cy g K (rmd 4 0 0) Φ) 0 0 M x (L μ) 38 [(5, vi tail), (4, vr g v1), (3, vr g 35), (0, vr g 55), (1, vi stack), (2, vi tail)] [vb v3] := by
    refine ev_istore (al2 := [(6, vb v3), (5, vi tail), (4, vr g v1), (3, vr g 35), (0, vr g 55), (1, vi stack), (2, vi tail)]) dX1_learnRound_38 (by decide) rfl ?_
    refine ev_iconst dX1_learnRound_40 ?_
    refine ev_istore (al2 := [(7, vi 1), (6, vb v3), (5, vi tail), (4, vr g v1), (3, vr g 35), (0, vr g 55), (1, vi stack), (2, vi tail)]) dX1_learnRound_41 (by decide) rfl ?_
    obtain ⟨q22, hq22, hf⟩ := Option.bind_eq_some_iff.mp hf
    refine ev_sub [5, 6, 4, 3, 2, 1, 0] rfl ?_
    refine loop_ev (H := (fun s : Int × Int × Mem => Ev l D cy g K yX1_learnRound cX1_learnRound 9 (some .int) (rmd 4 0 0) (MX D cy g K (rmd 4 0 0) Φ) 0 0 M x (L s.2.2) 43 [(0, vr g 55), (1, vi stack), (3, vr g 35), (4, vr g v1), (5, vi s.1), (6, vb v3), (7, vi s.2.1)] [])) (Hx := (fun e : Int × Mem => Ev l D cy g K yX1_learnRound cX1_learnRound 9 (some .int) (rmd 4 0 0) (MX D cy g K (rmd 4 0 0) Φ) 0 0 M x (L e.2) 164 [(5, vi e.1)] [])) (fun s o hb hr => tX1_learnRound_b43 hS hc stack tail v1 v3 s.1 s.2.1 s.2.2 (rk_fX7_scratch hv1) hb hr) FU _ _ hq22 ?_
    show Ev l D cy g K yX1_learnRound cX1_learnRound 9 (some .int) (rmd 4 0 0) (MX D cy g K (rmd 4 0 0) Φ) 0 0 M x (L q22.2) 164 [(5, vi q22.1)] []
    refine ev_iload dX1_learnRound_164 0 rfl ?_
    obtain rfl := Option.some.inj hf
    exact ev_iret dX1_learnRound_166 rfl ⟨Nat.zero_le _, Nat.zero_le _⟩ hr
  refine ev_if_ne 37 dX1_learnRound_30 (by decide) (fun h4 => ?_) (fun h4 => ?_)
  · refine ev_iconst dX1_learnRound_37 ?_
    have e9 : v3 = false := hv3.trans ((if_neg h4))
    subst e9
    exact hJv3
  · refine ev_iconst dX1_learnRound_33 ?_
    refine ev_goto 38 dX1_learnRound_34 (by decide) ?_
    have e9 : v3 = true := hv3.trans ((if_pos h4))
    subst e9
    exact hJv3
theorem tX1_learnRound (hS : Sd M K P L) (hc : CIn P 1 57) (stack : Int) (tail : Int) (μ : Mem) {o : Int × Mem} (hf : fX1_learnRound stack tail μ = some o) : Cn l D cy g K K yX1_learnRound cX1_learnRound 9 (some .int) (rmd 4 0 0) [vr g 55, vi stack, vi tail] M x (L μ) (PE (some (vi o.1)) M x (L o.2)) :=
 Cn.of (by decide) (Nat.le_of_ble_eq_true rfl) (eX1_learnRound hS hc stack tail μ hf (PE_i _ _ _ _))
def fX1_learn_j87 (v4 : Nat) (v12 : Int) (v13 : Int) (μ : Mem) : Option ((Int × Int × Mem) ⊕ (Int × Mem)) :=
  lt (fX11_put 56 v13 0 μ) fun μ14 =>
  lt (fX11_put 35 v12 v13 μ14) fun μ15 =>
  some (.inl ((v12 + 1), (v13 + 1), μ15))
set_option maxRecDepth 4000 in
theorem tX1_learn_j87 (hS : Sd M K P L) (hc : CIn P 1 57) (v4 : Nat) (v12 : Int) (v13 : Int) (μ : Mem) (kv4 : isCt v4) {o : (Int × Int × Mem) ⊕ (Int × Mem)} (hf : fX1_learn_j87 v4 v12 v13 μ = some o) (hr : (Sum.elim (fun s : Int × Int × Mem => Ev l D cy g K yX1_learn cX1_learn 5 none (rmd 5 0 0) (MX D cy g K (rmd 5 0 0) Φ) 0 0 M x (L s.2.2) 42 [(0, vr g 55), (1, vr g 35), (2, vr g v4), (3, vi s.1), (4, vi s.2.1)] []) (fun e : Int × Mem => Ev l D cy g K yX1_learn cX1_learn 5 none (rmd 5 0 0) (MX D cy g K (rmd 5 0 0) Φ) 0 0 M x (L e.2) 113 [(0, vr g 55), (1, vr g 35), (3, vi e.1)] [])) o) : Ev l D cy g K yX1_learn cX1_learn 5 none (rmd 5 0 0) (MX D cy g K (rmd 5 0 0) Φ) 0 0 M x (L μ) 87 [(0, vr g 55), (1, vr g 35), (2, vr g v4), (3, vi v12), (4, vi v13)] [] := by
  unfold fX1_learn_j87 at hf
  refine ev_aload_n dX1_learn_87 0 rfl ?_
  refine ev_getK 1 dX1_learn_88 (hS.lt (hc 55 rfl)) rfl (hS.K1 (hc 55 rfl) rfl) ciX1 (by decide) rfl flX1_9 ?_
  refine ev_iload dX1_learn_91 4 rfl ?_
  refine ev_iconst dX1_learn_93 ?_
  obtain ⟨μ14, hμ14, hf⟩ := lt_elim hf
  refine cl_N0 (As := [vr g 56, vi v13, vi 0]) (st := []) (host := "HotCakes") miX11_put (tX11_put hS (hc.w rfl rfl) 56 v13 0 μ (⟨(hc 56 rfl), rfl⟩) hμ14.symm) dX1_learn_94 (by decide) stX11_put rfl ⟨⟨Nat.le_of_ble_eq_true rfl, Nat.le_of_ble_eq_true rfl⟩, Nat.zero_le _, Nat.zero_le _⟩ (Nat.le_of_ble_eq_true rfl) ?_
  refine ev_aload_n dX1_learn_97 1 rfl ?_
  refine ev_iload_n dX1_learn_98 3 rfl ?_
  refine ev_iload dX1_learn_99 4 rfl ?_
  obtain ⟨μ15, hμ15, hf⟩ := lt_elim hf
  refine cl_N0 (As := [vr g 35, vi v12, vi v13]) (st := []) (host := "HotCakes") miX11_put (tX11_put hS (hc.w rfl rfl) 35 v12 v13 μ14 (⟨(hc 35 rfl), rfl⟩) hμ15.symm) dX1_learn_101 (by decide) stX11_put rfl ⟨⟨Nat.le_of_ble_eq_true rfl, Nat.le_of_ble_eq_true rfl⟩, Nat.zero_le _, Nat.zero_le _⟩ (Nat.le_of_ble_eq_true rfl) ?_
  refine ev_iinc (al2 := [(3, vi (v12 + 1)), (0, vr g 55), (1, vr g 35), (2, vr g v4), (4, vi v13)]) dX1_learn_104 3 rfl (by decide) rfl ?_
  refine ev_iinc (al2 := [(4, vi (v13 + 1)), (3, vi (v12 + 1)), (0, vr g 55), (1, vr g 35), (2, vr g v4)]) dX1_learn_107 4 rfl (by decide) rfl ?_
  refine ev_goto 42 dX1_learn_110 (by decide) ?_
  obtain rfl := Option.some.inj hf
  refine ev_sub [2, 3, 4, 1, 0] rfl ?_
  exact hr
def fX1_learn_b42 (v4 : Nat) (v6 : Int) (v7 : Int) (μ : Mem) : Option ((Int × Int × Mem) ⊕ (Int × Mem)) :=
  if w32 v7 < w32 (i_shl (μ 25 3) (μ 25 2)) then
    (fX1_openTurns v7 μ).bind fun v9 =>
    lt (fX11_put v4 v7 v9 μ) fun μ10 =>
    if w32 v7 = w32 (μ10 25 4) then
      fX1_learn_j87 v4 v6 v7 μ10
    else
      if w32 (fX11_at v4 v7 μ10) = 0 then
        fX1_learn_j87 v4 v6 v7 μ10
      else
        some (.inl (v6, (v7 + 1), μ10))
  else
    some (.inr (v6, μ))
set_option maxRecDepth 4000 in
theorem tX1_learn_b42 (hS : Sd M K P L) (hc : CIn P 1 57) (v4 : Nat) (v6 : Int) (v7 : Int) (μ : Mem) (kv4 : isCt v4) {o : (Int × Int × Mem) ⊕ (Int × Mem)} (hf : fX1_learn_b42 v4 v6 v7 μ = some o) (hr : (Sum.elim (fun s : Int × Int × Mem => Ev l D cy g K yX1_learn cX1_learn 5 none (rmd 5 0 0) (MX D cy g K (rmd 5 0 0) Φ) 0 0 M x (L s.2.2) 42 [(0, vr g 55), (1, vr g 35), (2, vr g v4), (3, vi s.1), (4, vi s.2.1)] []) (fun e : Int × Mem => Ev l D cy g K yX1_learn cX1_learn 5 none (rmd 5 0 0) (MX D cy g K (rmd 5 0 0) Φ) 0 0 M x (L e.2) 113 [(0, vr g 55), (1, vr g 35), (3, vi e.1)] [])) o) : Ev l D cy g K yX1_learn cX1_learn 5 none (rmd 5 0 0) (MX D cy g K (rmd 5 0 0) Φ) 0 0 M x (L μ) 42 [(0, vr g 55), (1, vr g 35), (2, vr g v4), (3, vi v6), (4, vi v7)] [] := by
  unfold fX1_learn_b42 at hf
  refine ev_iload dX1_learn_42 4 rfl ?_
  refine ev_aload_n dX1_learn_44 0 rfl ?_
  refine ev_getK 0 dX1_learn_45 (hS.lt (hc 55 rfl)) rfl (hS.K1 (hc 55 rfl) rfl) ciX1 (by decide) rfl flX1_15 ?_
  refine cl_V1 (As := []) (st := [vi v7]) miX7_all (tX7_all hS (hc.w rfl rfl) μ (o := (i_shl (μ 25 3) (μ 25 2))) rfl) dX1_learn_48 lkX1_38 inX7_all rfl (hS.lt (hc 25 rfl)) rfl ⟨rfl, rfl⟩ ⟨⟨Nat.le_of_ble_eq_true rfl, Nat.le_of_ble_eq_true rfl⟩, Nat.zero_le _, Nat.zero_le _⟩ (Nat.le_of_ble_eq_true rfl) ?_
  refine ev_icmp_ge 113 dX1_learn_51 (by decide) (fun h8 => ?_) (fun h8 => ?_)
  · rw [if_neg h8] at hf
    obtain rfl := Option.some.inj hf
    refine ev_sub [0, 1, 3] rfl ?_
    exact hr
  · rw [if_pos h8] at hf
    refine ev_aload_n dX1_learn_54 2 rfl ?_
    refine ev_iload dX1_learn_55 4 rfl ?_
    refine ev_aload_n dX1_learn_57 0 rfl ?_
    refine ev_iload dX1_learn_58 4 rfl ?_
    obtain ⟨v9, hv9, hf⟩ := Option.bind_eq_some_iff.mp hf
    refine cl_V1 (As := [vi v7]) (st := [vi v7, vr g v4]) miX1_openTurns (tX1_openTurns hS (hc.w rfl rfl) v7 μ hv9) dX1_learn_60 lkX1_42 inX1_openTurns rfl (hS.lt (hc 55 rfl)) rfl ⟨rfl, rfl⟩ ⟨⟨Nat.le_of_ble_eq_true rfl, Nat.le_of_ble_eq_true rfl⟩, Nat.zero_le _, Nat.zero_le _⟩ (Nat.le_of_ble_eq_true rfl) ?_
    obtain ⟨μ10, hμ10, hf⟩ := lt_elim hf
    refine cl_N0 (As := [vr g v4, vi v7, vi v9]) (st := []) (host := "HotCakes") miX11_put (tX11_put hS (hc.w rfl rfl) v4 v7 v9 μ (⟨(hc _ (inR_w (i_Ct kv4) rfl rfl)), (ia_of (s_Ct kv4))⟩) hμ10.symm) dX1_learn_63 (by decide) stX11_put rfl ⟨⟨Nat.le_of_ble_eq_true rfl, Nat.le_of_ble_eq_true rfl⟩, Nat.zero_le _, Nat.zero_le _⟩ (Nat.le_of_ble_eq_true rfl) ?_
    refine ev_iload dX1_learn_66 4 rfl ?_
    refine ev_aload_n dX1_learn_68 0 rfl ?_
    refine ev_getK 0 dX1_learn_69 (hS.lt (hc 55 rfl)) rfl (hS.K1 (hc 55 rfl) rfl) ciX1 (by decide) rfl flX1_15 ?_
    refine cl_V1 (As := []) (st := [vi v7]) miX7_goal (tX7_goal hS (hc.w rfl rfl) μ10 (o := (μ10 25 4)) rfl) dX1_learn_72 lkX1_50 inX7_goal rfl (hS.lt (hc 25 rfl)) rfl ⟨rfl, rfl⟩ ⟨⟨Nat.le_of_ble_eq_true rfl, Nat.le_of_ble_eq_true rfl⟩, Nat.zero_le _, Nat.zero_le _⟩ (Nat.le_of_ble_eq_true rfl) ?_
    refine ev_icmp_eq 87 dX1_learn_75 (by decide) (fun h11 => ?_) (fun h11 => ?_)
    · rw [if_pos h11] at hf
      refine ev_sub [0, 1, 2, 3, 4] rfl ?_
      exact tX1_learn_j87 hS hc v4 v6 v7 μ10 kv4 hf hr
    · rw [if_neg h11] at hf
      refine ev_aload_n dX1_learn_78 2 rfl ?_
      refine ev_iload dX1_learn_79 4 rfl ?_
      refine cl_N1 (As := [vr g v4, vi v7]) (st := []) (host := "HotCakes") miX11_at (tX11_at hS (hc.w rfl rfl) v4 v7 μ10 (⟨(hc _ (inR_w (i_Ct kv4) rfl rfl)), (ia_of (s_Ct kv4))⟩) (o := (fX11_at v4 v7 μ10)) rfl) dX1_learn_81 (by decide) stX11_at rfl ⟨⟨Nat.le_of_ble_eq_true rfl, Nat.le_of_ble_eq_true rfl⟩, Nat.zero_le _, Nat.zero_le _⟩ (Nat.le_of_ble_eq_true rfl) ?_
      refine ev_if_ne 107 dX1_learn_84 (by decide) (fun h16 => ?_) (fun h16 => ?_)
      · rw [if_neg h16] at hf
        refine ev_iinc (al2 := [(4, vi (v7 + 1)), (0, vr g 55), (1, vr g 35), (2, vr g v4), (3, vi v6)]) dX1_learn_107 4 rfl (by decide) rfl ?_
        refine ev_goto 42 dX1_learn_110 (by decide) ?_
        obtain rfl := Option.some.inj hf
        refine ev_sub [1, 2, 3, 4, 0] rfl ?_
        exact hr
      · rw [if_pos h16] at hf
        refine ev_sub [0, 1, 2, 3, 4] rfl ?_
        exact tX1_learn_j87 hS hc v4 v6 v7 μ10 kv4 hf hr
def fX1_learn_b116 (v20 : Int) (v21 : Int) (μ : Mem) : Option ((Int × Int × Mem) ⊕ (Mem)) :=
  if w32 v21 < w32 v20 then
    if w32 v21 < w32 3840 then
      gd (0 ≤ w32 v21 ∧ w32 v21 < 3840) <|
      (fX1_learnRound (μ 35 (w32 v21).toNat) v20 μ).bind fun q25 =>
      some (.inl (q25.1, (v21 + 1), q25.2))
    else
      some (.inr μ)
  else
    some (.inr μ)
set_option maxRecDepth 4000 in
theorem tX1_learn_b116 (hS : Sd M K P L) (hc : CIn P 1 57) (v20 : Int) (v21 : Int) (μ : Mem)  {o : (Int × Int × Mem) ⊕ (Mem)} (hf : fX1_learn_b116 v20 v21 μ = some o) (hr : (Sum.elim (fun s : Int × Int × Mem => Ev l D cy g K yX1_learn cX1_learn 5 none (rmd 5 0 0) (MX D cy g K (rmd 5 0 0) Φ) 0 0 M x (L s.2.2) 116 [(0, vr g 55), (1, vr g 35), (3, vi s.1), (4, vi s.2.1)] []) (fun e : Mem => Ev l D cy g K yX1_learn cX1_learn 5 none (rmd 5 0 0) (MX D cy g K (rmd 5 0 0) Φ) 0 0 M x (L e) 145 [] [])) o) : Ev l D cy g K yX1_learn cX1_learn 5 none (rmd 5 0 0) (MX D cy g K (rmd 5 0 0) Φ) 0 0 M x (L μ) 116 [(0, vr g 55), (1, vr g 35), (3, vi v20), (4, vi v21)] [] := by
  unfold fX1_learn_b116 at hf
  refine ev_iload dX1_learn_116 3 rfl ?_
  refine ev_iload_n dX1_learn_118 2 rfl ?_
  refine ev_icmp_ge 145 dX1_learn_119 (by decide) (fun h22 => ?_) (fun h22 => ?_)
  · rw [if_neg h22] at hf
    obtain rfl := Option.some.inj hf
    refine ev_sub [] rfl ?_
    exact hr
  · rw [if_pos h22] at hf
    refine ev_iload dX1_learn_122 3 rfl ?_
    refine ev_aload_n dX1_learn_124 1 rfl ?_
    refine ev_alen dX1_learn_125 (hS.lt (hc 35 rfl)) rfl (by decide) ?_
    refine ev_rn (w := vi 3840) rfl ?_
    refine ev_icmp_ge 145 dX1_learn_126 (by decide) (fun h23 => ?_) (fun h23 => ?_)
    · rw [if_neg h23] at hf
      obtain rfl := Option.some.inj hf
      refine ev_sub [] rfl ?_
      exact hr
    · rw [if_pos h23] at hf
      refine ev_aload_n dX1_learn_129 0 rfl ?_
      refine ev_aload_n dX1_learn_130 1 rfl ?_
      refine ev_iload dX1_learn_131 3 rfl ?_
      obtain ⟨g24, hf⟩ := gd_elim hf
      refine ev_iald dX1_learn_133 (hS.lt (hc 35 rfl)) rfl (hS.mem _ (hc 35 rfl)) g24 ?_
      refine ev_iload_n dX1_learn_134 2 rfl ?_
      obtain ⟨q25, hq25, hf⟩ := Option.bind_eq_some_iff.mp hf
      refine cl_V1 (As := [vi (μ 35 (w32 v21).toNat), vi v20]) (st := []) miX1_learnRound (tX1_learnRound hS (hc.w rfl rfl) (μ 35 (w32 v21).toNat) v20 μ hq25) dX1_learn_135 lkX1_57 inX1_learnRound rfl (hS.lt (hc 55 rfl)) rfl ⟨rfl, rfl⟩ ⟨⟨Nat.le_of_ble_eq_true rfl, Nat.le_of_ble_eq_true rfl⟩, Nat.zero_le _, Nat.zero_le _⟩ (Nat.le_of_ble_eq_true rfl) ?_
      refine ev_istore_n (al2 := [(3, vi q25.1), (0, vr g 55), (1, vr g 35), (4, vi v21)]) dX1_learn_138 3 rfl (by decide) rfl ?_
      refine ev_iinc (al2 := [(4, vi (v21 + 1)), (3, vi q25.1), (0, vr g 55), (1, vr g 35)]) dX1_learn_139 3 rfl (by decide) rfl ?_
      refine ev_goto 116 dX1_learn_142 (by decide) ?_
      obtain rfl := Option.some.inj hf
      refine ev_sub [2, 3, 1, 0] rfl ?_
      exact hr
def fX1_learn  (μ : Mem) : Option (Mem) :=
  if ((μ 55 2) != 0) = true then
    some (μ)
  else
    lt (upd2 μ 55 2 1) fun μ2 =>
    lt (fill3 μ2 56 3840 (-1)) fun μ3 =>
    (fX7_scratch μ3).bind fun v4 =>
    (loopN (fun s => fX1_learn_b42 v4 s.1 s.2.1 s.2.2) FU (0, 0, μ3)).bind fun q19 =>
    (loopN (fun s => fX1_learn_b116 s.1 s.2.1 s.2.2) FU (q19.1, 0, q19.2)).bind fun q26 =>
    some (q26)
set_option maxRecDepth 4000 in
theorem eX1_learn (hS : Sd M K P L) (hc : CIn P 1 57)  (μ : Mem)  {o : Mem} (hf : fX1_learn  μ = some o) (hr : (fun o : Mem => Φ none M x (L o)) o) : Ev l D cy g K yX1_learn cX1_learn 5 none (rmd 5 0 0) (MX D cy g K (rmd 5 0 0) Φ) 0 0 M x (L μ) 0 [(0, vr g 55)] [] := by
  unfold fX1_learn at hf
  refine ev_aload_n dX1_learn_0 0 rfl ?_
  refine ev_getZ 2 dX1_learn_1 (hS.lt (hc 55 rfl)) rfl (hS.mem _ (hc 55 rfl)) ciX1 (by decide) rfl flX1_19 ?_
  refine ev_ifb_eq 8 dX1_learn_4 (by decide) (fun h1 => ?_) (fun h1 => ?_)
  · rw [if_neg h1] at hf
    refine ev_aload_n dX1_learn_8 0 rfl ?_
    refine ev_iconst dX1_learn_9 ?_
    obtain ⟨μ2, hμ2, hf⟩ := lt_elim hf
    refine ev_putZ (b := true) 2 dX1_learn_10 (hS.lt (hc 55 rfl)) rfl ciX1 (by decide) (Or.inl rfl) rfl rfl flX1_19 (hS.up (hc 55 rfl) hμ2) ?_
    refine ev_aload_n dX1_learn_13 0 rfl ?_
    refine ev_getK 1 dX1_learn_14 (hS.lt (hc 55 rfl)) rfl (hS.K1 (hc 55 rfl) rfl) ciX1 (by decide) rfl flX1_9 ?_
    refine ev_iconst dX1_learn_17 ?_
    obtain ⟨μ3, hμ3, hf⟩ := lt_elim hf
    refine cl_S0 (As := [vr g 56, vi (-1)]) (st := []) miJ7_fill_53178 (tJ7_fill_53178 (o := μ3) hS 56 (-1) μ2 ⟨(hc 56 rfl), rfl⟩ (by decide) (hμ3.symm)) dX1_learn_18 lkX1_23 stJ7_fill_53178 rfl ⟨⟨Nat.le_of_ble_eq_true rfl, Nat.le_of_ble_eq_true rfl⟩, Nat.zero_le _, Nat.zero_le _⟩ (Nat.le_of_ble_eq_true rfl) ?_
    refine ev_aload_n dX1_learn_21 0 rfl ?_
    refine ev_getK 0 dX1_learn_22 (hS.lt (hc 55 rfl)) rfl (hS.K1 (hc 55 rfl) rfl) ciX1 (by decide) rfl flX1_15 ?_
    refine cl_V1 (As := []) (st := []) miX7_queue (tX7_queue hS (hc.w rfl rfl) μ3 rfl) dX1_learn_25 lkX1_29 inX7_queue rfl (hS.lt (hc 25 rfl)) rfl ⟨rfl, rfl⟩ ⟨⟨Nat.le_of_ble_eq_true rfl, Nat.le_of_ble_eq_true rfl⟩, Nat.zero_le _, Nat.zero_le _⟩ (Nat.le_of_ble_eq_true rfl) ?_
    refine ev_astore_n (al2 := [(1, vr g 35), (0, vr g 55)]) dX1_learn_28 1 rfl (by decide) rfl ?_
    refine ev_aload_n dX1_learn_29 1 rfl ?_
    refine ev_getK 0 dX1_learn_30 (hS.lt (hc 55 rfl)) rfl (hS.K1 (hc 55 rfl) rfl) ciX1 (by decide) rfl flX1_15 ?_
    obtain ⟨v4, hv4, hf⟩ := Option.bind_eq_some_iff.mp hf
    refine cl_V1 (As := []) (st := []) miX7_scratch (tX7_scratch hS (hc.w rfl rfl) μ3 hv4) dX1_learn_33 lkX1_35 inX7_scratch rfl (hS.lt (hc 25 rfl)) rfl ⟨rfl, rfl⟩ ⟨⟨Nat.le_of_ble_eq_true rfl, Nat.le_of_ble_eq_true rfl⟩, Nat.zero_le _, Nat.zero_le _⟩ (Nat.le_of_ble_eq_true rfl) ?_
    refine ev_astore_n (al2 := [(2, vr g v4), (1, vr g 35), (0, vr g 55)]) dX1_learn_36 2 rfl (by decide) rfl ?_
    refine ev_iconst dX1_learn_37 ?_
    refine ev_istore_n (al2 := [(3, vi 0), (2, vr g v4), (1, vr g 35), (0, vr g 55)]) dX1_learn_38 3 rfl (by decide) rfl ?_
    refine ev_iconst dX1_learn_39 ?_
    refine ev_istore (al2 := [(4, vi 0), (3, vi 0), (2, vr g v4), (1, vr g 35), (0, vr g 55)]) dX1_learn_40 (by decide) rfl ?_
    obtain ⟨q19, hq19, hf⟩ := Option.bind_eq_some_iff.mp hf
    refine ev_sub [4, 3, 2, 1, 0] rfl ?_
    refine loop_ev (H := (fun s : Int × Int × Mem => Ev l D cy g K yX1_learn cX1_learn 5 none (rmd 5 0 0) (MX D cy g K (rmd 5 0 0) Φ) 0 0 M x (L s.2.2) 42 [(0, vr g 55), (1, vr g 35), (2, vr g v4), (3, vi s.1), (4, vi s.2.1)] [])) (Hx := (fun e : Int × Mem => Ev l D cy g K yX1_learn cX1_learn 5 none (rmd 5 0 0) (MX D cy g K (rmd 5 0 0) Φ) 0 0 M x (L e.2) 113 [(0, vr g 55), (1, vr g 35), (3, vi e.1)] [])) (fun s o hb hr => tX1_learn_b42 hS hc v4 s.1 s.2.1 s.2.2 (rk_fX7_scratch hv4) hb hr) FU _ _ hq19 ?_
    show Ev l D cy g K yX1_learn cX1_learn 5 none (rmd 5 0 0) (MX D cy g K (rmd 5 0 0) Φ) 0 0 M x (L q19.2) 113 [(0, vr g 55), (1, vr g 35), (3, vi q19.1)] []
    refine ev_iconst dX1_learn_113 ?_
    refine ev_istore (al2 := [(4, vi 0), (0, vr g 55), (1, vr g 35), (3, vi q19.1)]) dX1_learn_114 (by decide) rfl ?_
    obtain ⟨q26, hq26, hf⟩ := Option.bind_eq_some_iff.mp hf
    refine ev_sub [1, 2, 3, 0] rfl ?_
    refine loop_ev (H := (fun s : Int × Int × Mem => Ev l D cy g K yX1_learn cX1_learn 5 none (rmd 5 0 0) (MX D cy g K (rmd 5 0 0) Φ) 0 0 M x (L s.2.2) 116 [(0, vr g 55), (1, vr g 35), (3, vi s.1), (4, vi s.2.1)] [])) (Hx := (fun e : Mem => Ev l D cy g K yX1_learn cX1_learn 5 none (rmd 5 0 0) (MX D cy g K (rmd 5 0 0) Φ) 0 0 M x (L e) 145 [] [])) (fun s o hb hr => tX1_learn_b116 hS hc s.1 s.2.1 s.2.2 hb hr) FU _ _ hq26 ?_
    show Ev l D cy g K yX1_learn cX1_learn 5 none (rmd 5 0 0) (MX D cy g K (rmd 5 0 0) Φ) 0 0 M x (L q26) 145 [] []
    obtain rfl := Option.some.inj hf
    exact ev_vret dX1_learn_145 rfl ⟨Nat.zero_le _, Nat.zero_le _⟩ hr
  · rw [if_pos h1] at hf
    obtain rfl := Option.some.inj hf
    exact ev_vret dX1_learn_7 rfl ⟨Nat.zero_le _, Nat.zero_le _⟩ hr
theorem tX1_learn (hS : Sd M K P L) (hc : CIn P 1 57) (μ : Mem) {o : Mem} (hf : fX1_learn μ = some o) : Cn l D cy g K K yX1_learn cX1_learn 5 none (rmd 5 0 0) [vr g 55] M x (L μ) (PE none M x (L o)) :=
 Cn.of (by decide) (Nat.le_of_ble_eq_true rfl) (eX1_learn hS hc μ hf (PE_i _ _ _ _))
def fX1_winnerOf (stack : Int) (μ : Mem) : Int :=
  lt (fX11_at 56 stack μ) fun v1 =>
  lt (if w32 v1 = w32 (-1) then
      2
    else
      (i_rem v1 2)) fun v2 =>
  v2
set_option maxRecDepth 4000 in
theorem eX1_winnerOf (hS : Sd M K P L) (hc : CIn P 1 57) (stack : Int) (μ : Mem)  {o : Int} (hf : fX1_winnerOf stack μ = o) (hr : (fun o : Int => Φ (some (vi o)) M x (L μ)) o) : Ev l D cy g K yX1_winnerOf cX1_winnerOf 3 (some .int) (rmd 2 0 0) (MX D cy g K (rmd 2 0 0) Φ) 0 0 M x (L μ) 0 [(0, vr g 55), (1, vi stack)] [] := by
  unfold fX1_winnerOf at hf
  refine ev_aload_n dX1_winnerOf_0 0 rfl ?_
  refine ev_getK 1 dX1_winnerOf_1 (hS.lt (hc 55 rfl)) rfl (hS.K1 (hc 55 rfl) rfl) ciX1 (by decide) rfl flX1_9 ?_
  refine ev_iload_n dX1_winnerOf_4 1 rfl ?_
  refine cl_N1 (As := [vr g 56, vi stack]) (st := []) (host := "HotCakes") miX11_at (tX11_at hS (hc.w rfl rfl) 56 stack μ (⟨(hc 56 rfl), rfl⟩) (o := (fX11_at 56 stack μ)) rfl) dX1_winnerOf_5 (by decide) stX11_at rfl ⟨⟨Nat.le_of_ble_eq_true rfl, Nat.le_of_ble_eq_true rfl⟩, Nat.zero_le _, Nat.zero_le _⟩ (Nat.le_of_ble_eq_true rfl) ?_
  obtain ⟨v1, hv1, hf⟩ := lt_elim hf
  refine ev_rni hv1 ?_
  refine ev_istore_n (al2 := [(2, vi v1), (0, vr g 55), (1, vi stack)]) dX1_winnerOf_8 2 rfl (by decide) rfl ?_
  refine ev_iload_n dX1_winnerOf_9 0 rfl ?_
  refine ev_iconst dX1_winnerOf_10 ?_
  obtain ⟨v2, hv2, hf⟩ := lt_elim hf
  have hJv2 : Ev l D cy g K yX1_winnerOf cX1_winnerOf 3 (some .int) (rmd 2 0 0) (MX D cy g K (rmd 2 0 0) Φ) 0 0 M x (L μ) 21 [(2, vi v1), (0, vr g 55), (1, vi stack)] [vi v2] := by
    obtain rfl := hf
    exact ev_iret dX1_winnerOf_21 rfl ⟨Nat.zero_le _, Nat.zero_le _⟩ hr
  refine ev_icmp_ne 18 dX1_winnerOf_11 (by decide) (fun h3 => ?_) (fun h3 => ?_)
  · refine ev_iload_n dX1_winnerOf_18 0 rfl ?_
    refine ev_iconst dX1_winnerOf_19 ?_
    refine ev_irem dX1_winnerOf_20 (by decide) ?_
    have e9 : v2 = (i_rem v1 2) := hv2.trans ((if_neg h3))
    subst e9
    exact hJv2
  · refine ev_iconst dX1_winnerOf_14 ?_
    refine ev_goto 21 dX1_winnerOf_15 (by decide) ?_
    have e9 : v2 = 2 := hv2.trans ((if_pos h3))
    subst e9
    exact hJv2
theorem tX1_winnerOf (hS : Sd M K P L) (hc : CIn P 1 57) (stack : Int) (μ : Mem) {o : Int} (hf : fX1_winnerOf stack μ = o) : Cn l D cy g K K yX1_winnerOf cX1_winnerOf 3 (some .int) (rmd 2 0 0) [vr g 55, vi stack] M x (L μ) (PE (some (vi o)) M x (L μ)) :=
 Cn.of (by decide) (Nat.le_of_ble_eq_true rfl) (eX1_winnerOf hS hc stack μ hf (PE_i _ _ _ _))
def fX1_turnsOf (stack : Int) (μ : Mem) : Int :=
  (fX11_at 56 stack μ)
set_option maxRecDepth 4000 in
theorem eX1_turnsOf (hS : Sd M K P L) (hc : CIn P 1 57) (stack : Int) (μ : Mem)  {o : Int} (hf : fX1_turnsOf stack μ = o) (hr : (fun o : Int => Φ (some (vi o)) M x (L μ)) o) : Ev l D cy g K yX1_turnsOf cX1_turnsOf 2 (some .int) (rmd 2 0 0) (MX D cy g K (rmd 2 0 0) Φ) 0 0 M x (L μ) 0 [(0, vr g 55), (1, vi stack)] [] := by
  unfold fX1_turnsOf at hf
  refine ev_aload_n dX1_turnsOf_0 0 rfl ?_
  refine ev_getK 1 dX1_turnsOf_1 (hS.lt (hc 55 rfl)) rfl (hS.K1 (hc 55 rfl) rfl) ciX1 (by decide) rfl flX1_9 ?_
  refine ev_iload_n dX1_turnsOf_4 1 rfl ?_
  refine cl_N1 (As := [vr g 56, vi stack]) (st := []) (host := "HotCakes") miX11_at (tX11_at hS (hc.w rfl rfl) 56 stack μ (⟨(hc 56 rfl), rfl⟩) (o := (fX11_at 56 stack μ)) rfl) dX1_turnsOf_5 (by decide) stX11_at rfl ⟨⟨Nat.le_of_ble_eq_true rfl, Nat.le_of_ble_eq_true rfl⟩, Nat.zero_le _, Nat.zero_le _⟩ (Nat.le_of_ble_eq_true rfl) ?_
  obtain rfl := hf
  exact ev_iret dX1_turnsOf_8 rfl ⟨Nat.zero_le _, Nat.zero_le _⟩ hr
theorem tX1_turnsOf (hS : Sd M K P L) (hc : CIn P 1 57) (stack : Int) (μ : Mem) {o : Int} (hf : fX1_turnsOf stack μ = o) : Cn l D cy g K K yX1_turnsOf cX1_turnsOf 2 (some .int) (rmd 2 0 0) [vr g 55, vi stack] M x (L μ) (PE (some (vi o)) M x (L μ)) :=
 Cn.of (by decide) (Nat.le_of_ble_eq_true rfl) (eX1_turnsOf hS hc stack μ hf (PE_i _ _ _ _))
def fX11_wins (what : Int) (μ : Mem) : Option (Int × Mem) :=
  (fX1_learn μ).bind fun μ1 =>
  if w32 what = 0 then
    some (((fX1_winnerOf (μ1 41 1) μ1), μ1))
  else
    if w32 what = 1 then
      some (((fX11_at 56 (μ1 41 1) μ1), μ1))
    else
      some (((-2), μ1))
set_option maxRecDepth 4000 in
theorem eX11_wins (hS : Sd M K P L) (hc : CIn P 0 75) (what : Int) (μ : Mem)  {o : Int × Mem} (hf : fX11_wins what μ = some o) (hr : (fun o : Int × Mem => Φ (some (vi o.1)) M x (L o.2)) o) : Ev l D cy g K yX11_wins cX11_wins 2 (some .int) (rmd 6 0 0) (MX D cy g K (rmd 6 0 0) Φ) 0 0 M x (L μ) 0 [(0, vr g 0), (1, vi what)] [] := by
  unfold fX11_wins at hf
  refine ev_aload_n dX11_wins_0 0 rfl ?_
  refine ev_getK 17 dX11_wins_1 (hS.lt (hc 0 rfl)) rfl (hS.K1 (hc 0 rfl) rfl) ciX11 (by decide) rfl flX11_104 ?_
  obtain ⟨μ1, hμ1, hf⟩ := Option.bind_eq_some_iff.mp hf
  refine cl_V0 (As := []) (st := []) miX1_learn (tX1_learn hS (hc.w rfl rfl) μ hμ1) dX11_wins_4 lkX11_274 inX1_learn rfl (hS.lt (hc 55 rfl)) rfl ⟨rfl, rfl⟩ ⟨⟨Nat.le_of_ble_eq_true rfl, Nat.le_of_ble_eq_true rfl⟩, Nat.zero_le _, Nat.zero_le _⟩ (Nat.le_of_ble_eq_true rfl) ?_
  refine ev_iload_n dX11_wins_7 1 rfl ?_
  by_cases h2 : w32 what = 0
  · rw [if_pos h2] at hf
    refine ev_lookup (off := 28) 36 dX11_wins_8 (by decide) (by rw [h2] <;> rfl) (by decide) ?_
    refine ev_aload_n dX11_wins_36 0 rfl ?_
    refine ev_getK 17 dX11_wins_37 (hS.lt (hc 0 rfl)) rfl (hS.K1 (hc 0 rfl) rfl) ciX11 (by decide) rfl flX11_104 ?_
    refine ev_aload_n dX11_wins_40 0 rfl ?_
    refine ev_getK 7 dX11_wins_41 (hS.lt (hc 0 rfl)) rfl (hS.K1 (hc 0 rfl) rfl) ciX11 (by decide) rfl flX11_58 ?_
    refine cl_V1 (As := []) (st := [vr g 55]) miX5_stack (tX5_stack hS (hc.w rfl rfl) 41 μ1 (by simp [isMo]) (o := (μ1 41 1)) rfl) dX11_wins_44 lkX11_167 inX5_stack rfl (hS.lt (hc 41 rfl)) rfl ⟨rfl, rfl⟩ ⟨⟨Nat.le_of_ble_eq_true rfl, Nat.le_of_ble_eq_true rfl⟩, Nat.zero_le _, Nat.zero_le _⟩ (Nat.le_of_ble_eq_true rfl) ?_
    refine cl_V1 (As := [vi (μ1 41 1)]) (st := []) miX1_winnerOf (tX1_winnerOf hS (hc.w rfl rfl) (μ1 41 1) μ1 (o := (fX1_winnerOf (μ1 41 1) μ1)) rfl) dX11_wins_47 lkX11_275 inX1_winnerOf rfl (hS.lt (hc 55 rfl)) rfl ⟨rfl, rfl⟩ ⟨⟨Nat.le_of_ble_eq_true rfl, Nat.le_of_ble_eq_true rfl⟩, Nat.zero_le _, Nat.zero_le _⟩ (Nat.le_of_ble_eq_true rfl) ?_
    obtain rfl := Option.some.inj hf
    exact ev_iret dX11_wins_50 rfl ⟨Nat.zero_le _, Nat.zero_le _⟩ hr
  · rw [if_neg h2] at hf
    by_cases h3 : w32 what = 1
    · rw [if_pos h3] at hf
      refine ev_lookup (off := 43) 51 dX11_wins_8 (by decide) (by rw [h3] <;> rfl) (by decide) ?_
      refine ev_aload_n dX11_wins_51 0 rfl ?_
      refine ev_getK 17 dX11_wins_52 (hS.lt (hc 0 rfl)) rfl (hS.K1 (hc 0 rfl) rfl) ciX11 (by decide) rfl flX11_104 ?_
      refine ev_aload_n dX11_wins_55 0 rfl ?_
      refine ev_getK 7 dX11_wins_56 (hS.lt (hc 0 rfl)) rfl (hS.K1 (hc 0 rfl) rfl) ciX11 (by decide) rfl flX11_58 ?_
      refine cl_V1 (As := []) (st := [vr g 55]) miX5_stack (tX5_stack hS (hc.w rfl rfl) 41 μ1 (by simp [isMo]) (o := (μ1 41 1)) rfl) dX11_wins_59 lkX11_167 inX5_stack rfl (hS.lt (hc 41 rfl)) rfl ⟨rfl, rfl⟩ ⟨⟨Nat.le_of_ble_eq_true rfl, Nat.le_of_ble_eq_true rfl⟩, Nat.zero_le _, Nat.zero_le _⟩ (Nat.le_of_ble_eq_true rfl) ?_
      refine cl_V1 (As := [vi (μ1 41 1)]) (st := []) miX1_turnsOf (tX1_turnsOf hS (hc.w rfl rfl) (μ1 41 1) μ1 (o := (fX11_at 56 (μ1 41 1) μ1)) rfl) dX11_wins_62 lkX11_278 inX1_turnsOf rfl (hS.lt (hc 55 rfl)) rfl ⟨rfl, rfl⟩ ⟨⟨Nat.le_of_ble_eq_true rfl, Nat.le_of_ble_eq_true rfl⟩, Nat.zero_le _, Nat.zero_le _⟩ (Nat.le_of_ble_eq_true rfl) ?_
      obtain rfl := Option.some.inj hf
      exact ev_iret dX11_wins_65 rfl ⟨Nat.zero_le _, Nat.zero_le _⟩ hr
    · rw [if_neg h3] at hf
      refine ev_lookup (off := 58) 66 dX11_wins_8 (by decide) (by simp [Op.lookupswitch.offset_cons, Op.lookupswitch.offset_nil, h2, h3, Ne.symm h2, Ne.symm h3]) (by decide) ?_
      refine ev_bipush dX11_wins_66 (by decide) ?_
      obtain rfl := Option.some.inj hf
      exact ev_iret dX11_wins_68 rfl ⟨Nat.zero_le _, Nat.zero_le _⟩ hr
theorem tX11_wins (hS : Sd M K P L) (hc : CIn P 0 75) (what : Int) (μ : Mem) {o : Int × Mem} (hf : fX11_wins what μ = some o) : Cn l D cy g K K yX11_wins cX11_wins 2 (some .int) (rmd 6 0 0) [vr g 0, vi what] M x (L μ) (PE (some (vi o.1)) M x (L o.2)) :=
 Cn.of (by decide) (Nat.le_of_ble_eq_true rfl) (eX11_wins hS hc what μ hf (PE_i _ _ _ _))
def fX1_bestTurn_b25 (stack : Int) (v1 : Int) (v2 : Int) (v4 : Int) (μ : Mem) : Option ((Int) ⊕ (Int)) :=
  if w32 v1 = 0 then
    some (.inr (-1))
  else
    if w32 v4 ≤ w32 (μ 25 1) then
      if (fX7_isOpen stack v4 μ) = true then
        lt (fX11_at 56 (fX7_turned stack v4 μ) μ) fun v8 =>
        if w32 v8 = w32 v2 then
          some (.inr v4)
        else
          some (.inl (v4 + 1))
      else
        some (.inl (v4 + 1))
    else
      some (.inr (-1))
set_option maxRecDepth 4000 in
theorem tX1_bestTurn_b25 (hS : Sd M K P L) (hc : CIn P 1 57) (stack : Int) (v1 : Int) (v2 : Int) (v4 : Int) (μ : Mem)  {o : (Int) ⊕ (Int)} (hf : fX1_bestTurn_b25 stack v1 v2 v4 μ = some o) (hr : (Sum.elim (fun s : Int => Ev l D cy g K yX1_bestTurn cX1_bestTurn 5 (some .int) (rmd 4 0 0) (MX D cy g K (rmd 4 0 0) Φ) 0 0 M x (L μ) 25 [(0, vr g 55), (1, vi stack), (2, vi v1), (3, vi v2), (4, vi s)] []) (fun o : Int => Φ (some (vi o)) M x (L μ))) o) : Ev l D cy g K yX1_bestTurn cX1_bestTurn 5 (some .int) (rmd 4 0 0) (MX D cy g K (rmd 4 0 0) Φ) 0 0 M x (L μ) 25 [(0, vr g 55), (1, vi stack), (2, vi v1), (3, vi v2), (4, vi v4)] [] := by
  unfold fX1_bestTurn_b25 at hf
  refine ev_iload_n dX1_bestTurn_25 2 rfl ?_
  refine ev_if_eq 84 dX1_bestTurn_26 (by decide) (fun h5 => ?_) (fun h5 => ?_)
  · rw [if_pos h5] at hf
    refine ev_iconst dX1_bestTurn_84 ?_
    obtain rfl := Option.some.inj hf
    exact ev_iret dX1_bestTurn_85 rfl ⟨Nat.zero_le _, Nat.zero_le _⟩ hr
  · rw [if_neg h5] at hf
    refine ev_iload dX1_bestTurn_29 4 rfl ?_
    refine ev_aload_n dX1_bestTurn_31 0 rfl ?_
    refine ev_getK 0 dX1_bestTurn_32 (hS.lt (hc 55 rfl)) rfl (hS.K1 (hc 55 rfl) rfl) ciX1 (by decide) rfl flX1_15 ?_
    refine cl_V1 (As := []) (st := [vi v4]) miX7_cakes (tX7_cakes hS (hc.w rfl rfl) μ (o := (μ 25 1)) rfl) dX1_bestTurn_35 lkX1_61 inX7_cakes rfl (hS.lt (hc 25 rfl)) rfl ⟨rfl, rfl⟩ ⟨⟨Nat.le_of_ble_eq_true rfl, Nat.le_of_ble_eq_true rfl⟩, Nat.zero_le _, Nat.zero_le _⟩ (Nat.le_of_ble_eq_true rfl) ?_
    refine ev_icmp_gt 84 dX1_bestTurn_38 (by decide) (fun h6 => ?_) (fun h6 => ?_)
    · rw [if_neg h6] at hf
      refine ev_iconst dX1_bestTurn_84 ?_
      obtain rfl := Option.some.inj hf
      exact ev_iret dX1_bestTurn_85 rfl ⟨Nat.zero_le _, Nat.zero_le _⟩ hr
    · rw [if_pos h6] at hf
      refine ev_aload_n dX1_bestTurn_41 0 rfl ?_
      refine ev_getK 0 dX1_bestTurn_42 (hS.lt (hc 55 rfl)) rfl (hS.K1 (hc 55 rfl) rfl) ciX1 (by decide) rfl flX1_15 ?_
      refine ev_iload_n dX1_bestTurn_45 1 rfl ?_
      refine ev_iload dX1_bestTurn_46 4 rfl ?_
      refine cl_V1 (As := [vi stack, vi v4]) (st := []) miX7_isOpen (tX7_isOpen hS (hc.w rfl rfl) stack v4 μ (o := (fX7_isOpen stack v4 μ)) rfl) dX1_bestTurn_48 lkX1_64 inX7_isOpen rfl (hS.lt (hc 25 rfl)) rfl ⟨rfl, rfl⟩ ⟨⟨Nat.le_of_ble_eq_true rfl, Nat.le_of_ble_eq_true rfl⟩, Nat.zero_le _, Nat.zero_le _⟩ (Nat.le_of_ble_eq_true rfl) ?_
      refine ev_ifb_eq 78 dX1_bestTurn_51 (by decide) (fun h7 => ?_) (fun h7 => ?_)
      · rw [if_neg h7] at hf
        refine ev_iinc (al2 := [(4, vi (v4 + 1)), (0, vr g 55), (1, vi stack), (2, vi v1), (3, vi v2)]) dX1_bestTurn_78 4 rfl (by decide) rfl ?_
        refine ev_goto 25 dX1_bestTurn_81 (by decide) ?_
        obtain rfl := Option.some.inj hf
        refine ev_sub [1, 2, 3, 4, 0] rfl ?_
        exact hr
      · rw [if_pos h7] at hf
        refine ev_aload_n dX1_bestTurn_54 0 rfl ?_
        refine ev_getK 1 dX1_bestTurn_55 (hS.lt (hc 55 rfl)) rfl (hS.K1 (hc 55 rfl) rfl) ciX1 (by decide) rfl flX1_9 ?_
        refine ev_aload_n dX1_bestTurn_58 0 rfl ?_
        refine ev_getK 0 dX1_bestTurn_59 (hS.lt (hc 55 rfl)) rfl (hS.K1 (hc 55 rfl) rfl) ciX1 (by decide) rfl flX1_15 ?_
        refine ev_iload_n dX1_bestTurn_62 1 rfl ?_
        refine ev_iload dX1_bestTurn_63 4 rfl ?_
        refine cl_V1 (As := [vi stack, vi v4]) (st := [vr g 56]) miX7_turned (tX7_turned hS (hc.w rfl rfl) stack v4 μ (o := (fX7_turned stack v4 μ)) rfl) dX1_bestTurn_65 lkX1_68 inX7_turned rfl (hS.lt (hc 25 rfl)) rfl ⟨rfl, rfl⟩ ⟨⟨Nat.le_of_ble_eq_true rfl, Nat.le_of_ble_eq_true rfl⟩, Nat.zero_le _, Nat.zero_le _⟩ (Nat.le_of_ble_eq_true rfl) ?_
        obtain ⟨v8, hv8, hf⟩ := lt_elim hf
        refine cl_N1 (As := [vr g 56, vi (fX7_turned stack v4 μ)]) (st := []) (host := "HotCakes") miX11_at (tX11_at hS (hc.w rfl rfl) 56 (fX7_turned stack v4 μ) μ (⟨(hc 56 rfl), rfl⟩) hv8.symm) dX1_bestTurn_68 (by decide) stX11_at rfl ⟨⟨Nat.le_of_ble_eq_true rfl, Nat.le_of_ble_eq_true rfl⟩, Nat.zero_le _, Nat.zero_le _⟩ (Nat.le_of_ble_eq_true rfl) ?_
        refine ev_iload_n dX1_bestTurn_71 3 rfl ?_
        refine ev_icmp_ne 78 dX1_bestTurn_72 (by decide) (fun h9 => ?_) (fun h9 => ?_)
        · rw [if_neg h9] at hf
          refine ev_iinc (al2 := [(4, vi (v4 + 1)), (0, vr g 55), (1, vi stack), (2, vi v1), (3, vi v2)]) dX1_bestTurn_78 4 rfl (by decide) rfl ?_
          refine ev_goto 25 dX1_bestTurn_81 (by decide) ?_
          obtain rfl := Option.some.inj hf
          refine ev_sub [1, 2, 3, 4, 0] rfl ?_
          exact hr
        · rw [if_pos h9] at hf
          refine ev_iload dX1_bestTurn_75 4 rfl ?_
          obtain rfl := Option.some.inj hf
          exact ev_iret dX1_bestTurn_77 rfl ⟨Nat.zero_le _, Nat.zero_le _⟩ hr
def fX1_bestTurn (stack : Int) (μ : Mem) : Option (Int) :=
  lt (fX11_at 56 stack μ) fun v1 =>
  lt (if w32 v1 = w32 (-1) then
      (-1)
    else
      (v1 - 1)) fun v2 =>
  loopN (fun s => fX1_bestTurn_b25 stack v1 v2 s μ) FU 1
set_option maxRecDepth 4000 in
theorem eX1_bestTurn (hS : Sd M K P L) (hc : CIn P 1 57) (stack : Int) (μ : Mem)  {o : Int} (hf : fX1_bestTurn stack μ = some o) (hr : (fun o : Int => Φ (some (vi o)) M x (L μ)) o) : Ev l D cy g K yX1_bestTurn cX1_bestTurn 5 (some .int) (rmd 4 0 0) (MX D cy g K (rmd 4 0 0) Φ) 0 0 M x (L μ) 0 [(0, vr g 55), (1, vi stack)] [] := by
  unfold fX1_bestTurn at hf
  refine ev_aload_n dX1_bestTurn_0 0 rfl ?_
  refine ev_getK 1 dX1_bestTurn_1 (hS.lt (hc 55 rfl)) rfl (hS.K1 (hc 55 rfl) rfl) ciX1 (by decide) rfl flX1_9 ?_
  refine ev_iload_n dX1_bestTurn_4 1 rfl ?_
  refine cl_N1 (As := [vr g 56, vi stack]) (st := []) (host := "HotCakes") miX11_at (tX11_at hS (hc.w rfl rfl) 56 stack μ (⟨(hc 56 rfl), rfl⟩) (o := (fX11_at 56 stack μ)) rfl) dX1_bestTurn_5 (by decide) stX11_at rfl ⟨⟨Nat.le_of_ble_eq_true rfl, Nat.le_of_ble_eq_true rfl⟩, Nat.zero_le _, Nat.zero_le _⟩ (Nat.le_of_ble_eq_true rfl) ?_
  obtain ⟨v1, hv1, hf⟩ := lt_elim hf
  refine ev_rni hv1 ?_
  refine ev_istore_n (al2 := [(2, vi v1), (0, vr g 55), (1, vi stack)]) dX1_bestTurn_8 2 rfl (by decide) rfl ?_
  refine ev_iload_n dX1_bestTurn_9 0 rfl ?_
  refine ev_iconst dX1_bestTurn_10 ?_
  obtain ⟨v2, hv2, hf⟩ := lt_elim hf
  have hJv2 : Ev l D cy g K yX1_bestTurn cX1_bestTurn 5 (some .int) (rmd 4 0 0) (MX D cy g K (rmd 4 0 0) Φ) 0 0 M x (L μ) 21 [(2, vi v1), (0, vr g 55), (1, vi stack)] [vi v2] := by
    refine ev_istore_n (al2 := [(3, vi v2), (2, vi v1), (0, vr g 55), (1, vi stack)]) dX1_bestTurn_21 3 rfl (by decide) rfl ?_
    refine ev_iconst dX1_bestTurn_22 ?_
    refine ev_istore (al2 := [(4, vi 1), (3, vi v2), (2, vi v1), (0, vr g 55), (1, vi stack)]) dX1_bestTurn_23 (by decide) rfl ?_
    refine ev_sub [3, 4, 2, 1, 0] rfl ?_
    exact loop_ev (H := (fun s : Int => Ev l D cy g K yX1_bestTurn cX1_bestTurn 5 (some .int) (rmd 4 0 0) (MX D cy g K (rmd 4 0 0) Φ) 0 0 M x (L μ) 25 [(0, vr g 55), (1, vi stack), (2, vi v1), (3, vi v2), (4, vi s)] [])) (Hx := (fun o : Int => Φ (some (vi o)) M x (L μ))) (fun s o hb hr => tX1_bestTurn_b25 hS hc stack v1 v2 s μ hb hr) FU _ _ hf hr
  refine ev_icmp_ne 18 dX1_bestTurn_11 (by decide) (fun h3 => ?_) (fun h3 => ?_)
  · refine ev_iload_n dX1_bestTurn_18 0 rfl ?_
    refine ev_iconst dX1_bestTurn_19 ?_
    refine ev_isub dX1_bestTurn_20 ?_
    have e9 : v2 = (v1 - 1) := hv2.trans ((if_neg h3))
    subst e9
    exact hJv2
  · refine ev_iconst dX1_bestTurn_14 ?_
    refine ev_goto 21 dX1_bestTurn_15 (by decide) ?_
    have e9 : v2 = (-1) := hv2.trans ((if_pos h3))
    subst e9
    exact hJv2
theorem tX1_bestTurn (hS : Sd M K P L) (hc : CIn P 1 57) (stack : Int) (μ : Mem) {o : Int} (hf : fX1_bestTurn stack μ = some o) : Cn l D cy g K K yX1_bestTurn cX1_bestTurn 5 (some .int) (rmd 4 0 0) [vr g 55, vi stack] M x (L μ) (PE (some (vi o)) M x (L μ)) :=
 Cn.of (by decide) (Nat.le_of_ble_eq_true rfl) (eX1_bestTurn hS hc stack μ hf (PE_i _ _ _ _))
def fX11_his  (μ : Mem) : Option (Int × Mem) :=
  (fX1_learn μ).bind fun μ1 =>
  (fX1_bestTurn (μ1 41 1) μ1).bind fun v2 =>
  some ((v2, μ1))
set_option maxRecDepth 4000 in
theorem eX11_his (hS : Sd M K P L) (hc : CIn P 0 75)  (μ : Mem)  {o : Int × Mem} (hf : fX11_his  μ = some o) (hr : (fun o : Int × Mem => Φ (some (vi o.1)) M x (L o.2)) o) : Ev l D cy g K yX11_his cX11_his 1 (some .int) (rmd 6 0 0) (MX D cy g K (rmd 6 0 0) Φ) 0 0 M x (L μ) 0 [(0, vr g 0)] [] := by
  unfold fX11_his at hf
  refine ev_aload_n dX11_his_0 0 rfl ?_
  refine ev_getK 17 dX11_his_1 (hS.lt (hc 0 rfl)) rfl (hS.K1 (hc 0 rfl) rfl) ciX11 (by decide) rfl flX11_104 ?_
  obtain ⟨μ1, hμ1, hf⟩ := Option.bind_eq_some_iff.mp hf
  refine cl_V0 (As := []) (st := []) miX1_learn (tX1_learn hS (hc.w rfl rfl) μ hμ1) dX11_his_4 lkX11_274 inX1_learn rfl (hS.lt (hc 55 rfl)) rfl ⟨rfl, rfl⟩ ⟨⟨Nat.le_of_ble_eq_true rfl, Nat.le_of_ble_eq_true rfl⟩, Nat.zero_le _, Nat.zero_le _⟩ (Nat.le_of_ble_eq_true rfl) ?_
  refine ev_aload_n dX11_his_7 0 rfl ?_
  refine ev_getK 17 dX11_his_8 (hS.lt (hc 0 rfl)) rfl (hS.K1 (hc 0 rfl) rfl) ciX11 (by decide) rfl flX11_104 ?_
  refine ev_aload_n dX11_his_11 0 rfl ?_
  refine ev_getK 7 dX11_his_12 (hS.lt (hc 0 rfl)) rfl (hS.K1 (hc 0 rfl) rfl) ciX11 (by decide) rfl flX11_58 ?_
  refine cl_V1 (As := []) (st := [vr g 55]) miX5_stack (tX5_stack hS (hc.w rfl rfl) 41 μ1 (by simp [isMo]) (o := (μ1 41 1)) rfl) dX11_his_15 lkX11_167 inX5_stack rfl (hS.lt (hc 41 rfl)) rfl ⟨rfl, rfl⟩ ⟨⟨Nat.le_of_ble_eq_true rfl, Nat.le_of_ble_eq_true rfl⟩, Nat.zero_le _, Nat.zero_le _⟩ (Nat.le_of_ble_eq_true rfl) ?_
  obtain ⟨v2, hv2, hf⟩ := Option.bind_eq_some_iff.mp hf
  refine cl_V1 (As := [vi (μ1 41 1)]) (st := []) miX1_bestTurn (tX1_bestTurn hS (hc.w rfl rfl) (μ1 41 1) μ1 hv2) dX11_his_18 lkX11_279 inX1_bestTurn rfl (hS.lt (hc 55 rfl)) rfl ⟨rfl, rfl⟩ ⟨⟨Nat.le_of_ble_eq_true rfl, Nat.le_of_ble_eq_true rfl⟩, Nat.zero_le _, Nat.zero_le _⟩ (Nat.le_of_ble_eq_true rfl) ?_
  obtain rfl := Option.some.inj hf
  exact ev_iret dX11_his_21 rfl ⟨Nat.zero_le _, Nat.zero_le _⟩ hr
theorem tX11_his (hS : Sd M K P L) (hc : CIn P 0 75) (μ : Mem) {o : Int × Mem} (hf : fX11_his μ = some o) : Cn l D cy g K K yX11_his cX11_his 1 (some .int) (rmd 6 0 0) [vr g 0] M x (L μ) (PE (some (vi o.1)) M x (L o.2)) :=
 Cn.of (by decide) (Nat.le_of_ble_eq_true rfl) (eX11_his hS hc μ hf (PE_i _ _ _ _))
end L1
