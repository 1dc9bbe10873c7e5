section L1
variable {l : Launch} {D : va_G} {cy : Nat → ClassId} {g : Nat → Nat} {K : KT} {M : Nat} {x : Bool} {P : Nat → Prop} {L : Mem → Mem} {Φ : Post}
def fX12_row_b33 (i0 : Int) (v7 : Int) (v8 : Int) (μ : Mem) : Option ((Int × Int × Mem) ⊕ (Int × Mem)) :=
  if w32 v8 < w32 i0 then
    (fX12_nearer v7 μ).bind fun q10 =>
    gd (0 ≤ w32 q10.1 ∧ w32 q10.1 < 6) <|
    lt (q10.2 93 (w32 q10.1).toNat) fun v12 =>
    some (.inl (v12, (v8 + 1), q10.2))
  else
    some (.inr (v7, μ))
set_option maxRecDepth 4000 in
theorem tX12_row_b33 (hS : Sd M K P L) (hc : CIn P 75 95) (i0 : Int) (v7 : Int) (v8 : Int) (μ : Mem)  {o : (Int × Int × Mem) ⊕ (Int × Mem)} (hf : fX12_row_b33 i0 v7 v8 μ = some o) (hr : (Sum.elim (fun s : Int × Int × Mem => Ev l D cy g K yX12_row cX12_row 5 (some .int) (rmd 7 0 0) (MX D cy g K (rmd 7 0 0) Φ) 0 0 M x (L s.2.2) 33 [(0, vr g 75), (1, vi i0), (2, vi s.1), (3, vi s.2.1)] []) (fun e : Int × Mem => Ev l D cy g K yX12_row cX12_row 5 (some .int) (rmd 7 0 0) (MX D cy g K (rmd 7 0 0) Φ) 0 0 M x (L e.2) 59 [(0, vr g 75), (2, vi e.1)] [])) o) : Ev l D cy g K yX12_row cX12_row 5 (some .int) (rmd 7 0 0) (MX D cy g K (rmd 7 0 0) Φ) 0 0 M x (L μ) 33 [(0, vr g 75), (1, vi i0), (2, vi v7), (3, vi v8)] [] := by
  unfold fX12_row_b33 at hf
  refine ev_iload_n dX12_row_33 3 rfl ?_
  refine ev_iload_n dX12_row_34 1 rfl ?_
  refine ev_icmp_ge 59 dX12_row_35 (by decide) (fun h9 => ?_) (fun h9 => ?_)
  · rw [if_neg h9] at hf
    obtain rfl := Option.some.inj hf
    refine ev_sub [0, 2] rfl ?_
    exact hr
  · rw [if_pos h9] at hf
    refine ev_aload_n dX12_row_38 0 rfl ?_
    refine ev_iload_n dX12_row_39 2 rfl ?_
    obtain ⟨q10, hq10, hf⟩ := Option.bind_eq_some_iff.mp hf
    refine cl_V1 (As := [vi v7]) (st := []) miX12_nearer (tX12_nearer hS (hc.w rfl rfl) v7 μ hq10) dX12_row_40 lkX12_324 inX12_nearer rfl (hS.lt (hc 75 rfl)) rfl ⟨rfl, rfl⟩ ⟨⟨Nat.le_of_ble_eq_true rfl, Nat.le_of_ble_eq_true rfl⟩, Nat.zero_le _, Nat.zero_le _⟩ (Nat.le_of_ble_eq_true rfl) ?_
    refine ev_istore (al2 := [(4, vi q10.1), (0, vr g 75), (1, vi i0), (2, vi v7), (3, vi v8)]) dX12_row_43 (by decide) rfl ?_
    refine ev_aload_n dX12_row_45 1 rfl ?_
    refine ev_getK 27 dX12_row_46 (hS.lt (hc 75 rfl)) rfl (hS.K1 (hc 75 rfl) rfl) ciX12 (by decide) rfl flX12_110 ?_
    refine ev_iload dX12_row_49 0 rfl ?_
    obtain ⟨g11, hf⟩ := gd_elim hf
    refine ev_iald dX12_row_51 (hS.lt (hc 93 rfl)) rfl (hS.mem _ (hc 93 rfl)) g11 ?_
    obtain ⟨v12, hv12, hf⟩ := lt_elim hf
    refine ev_rni hv12 ?_
    refine ev_istore_n (al2 := [(2, vi v12), (4, vi q10.1), (0, vr g 75), (1, vi i0), (3, vi v8)]) dX12_row_52 2 rfl (by decide) rfl ?_
    refine ev_iinc (al2 := [(3, vi (v8 + 1)), (2, vi v12), (4, vi q10.1), (0, vr g 75), (1, vi i0)]) dX12_row_53 4 rfl (by decide) rfl ?_
    refine ev_goto 33 dX12_row_56 (by decide) ?_
    obtain rfl := Option.some.inj hf
    refine ev_sub [3, 4, 1, 0] rfl ?_
    exact hr
def fX12_row (i0 : Int) (μ : Mem) : Option (Int × Mem) :=
  lt (upd2 μ 75 0 0) fun μ1 =>
  (fX12_laysFewest μ1).bind fun μ2 =>
  lt (μ2 88 0) fun v3 =>
  if w32 i0 < 0 then
    some (((-1), μ2))
  else
    (fX12_leastOf v3 μ2).bind fun v5 =>
    if w32 i0 < w32 v5 then
      (loopN (fun s => fX12_row_b33 i0 s.1 s.2.1 s.2.2) FU (v3, 0, μ2)).bind fun q13 =>
      (fX12_nearer q13.1 q13.2).bind fun q14 =>
      some ((q14.1, q14.2))
    else
      some (((-1), μ2))
set_option maxRecDepth 4000 in
theorem eX12_row (hS : Sd M K P L) (hc : CIn P 75 95) (i0 : Int) (μ : Mem)  {o : Int × Mem} (hf : fX12_row i0 μ = some o) (hr : (fun o : Int × Mem => Φ (some (vi o.1)) M x (L o.2)) o) : Ev l D cy g K yX12_row cX12_row 5 (some .int) (rmd 7 0 0) (MX D cy g K (rmd 7 0 0) Φ) 0 0 M x (L μ) 0 [(0, vr g 75), (1, vi i0)] [] := by
  unfold fX12_row at hf
  refine ev_aload_n dX12_row_0 0 rfl ?_
  refine ev_iconst dX12_row_1 ?_
  obtain ⟨μ1, hμ1, hf⟩ := lt_elim hf
  refine ev_putI 0 dX12_row_2 (hS.lt (hc 75 rfl)) rfl ciX12 (by decide) (Or.inl rfl) rfl rfl flX12_1 (hS.up (hc 75 rfl) hμ1) ?_
  refine ev_aload_n dX12_row_5 0 rfl ?_
  obtain ⟨μ2, hμ2, hf⟩ := Option.bind_eq_some_iff.mp hf
  refine cl_V0 (As := []) (st := []) miX12_laysFewest (tX12_laysFewest hS (hc.w rfl rfl) μ1 hμ2) dX12_row_6 lkX12_315 inX12_laysFewest rfl (hS.lt (hc 75 rfl)) rfl ⟨rfl, rfl⟩ ⟨⟨Nat.le_of_ble_eq_true rfl, Nat.le_of_ble_eq_true rfl⟩, Nat.zero_le _, Nat.zero_le _⟩ (Nat.le_of_ble_eq_true rfl) ?_
  refine ev_aload_n dX12_row_9 0 rfl ?_
  refine ev_getK 19 dX12_row_10 (hS.lt (hc 75 rfl)) rfl (hS.K1 (hc 75 rfl) rfl) ciX12 (by decide) rfl flX12_94 ?_
  refine ev_iconst dX12_row_13 ?_
  refine ev_iald dX12_row_14 (hS.lt (hc 88 rfl)) rfl (hS.mem _ (hc 88 rfl)) ⟨by decide, by decide⟩ ?_
  refine ev_rn (w := vi (μ2 88 0)) (by rw [show (w32 0).toNat = 0 from by decide]) ?_
  obtain ⟨v3, hv3, hf⟩ := lt_elim hf
  refine ev_rni hv3 ?_
  refine ev_istore_n (al2 := [(2, vi v3), (0, vr g 75), (1, vi i0)]) dX12_row_15 2 rfl (by decide) rfl ?_
  refine ev_iload_n dX12_row_16 2 rfl ?_
  refine ev_if_lt 29 dX12_row_17 (by decide) (fun h4 => ?_) (fun h4 => ?_)
  · rw [if_pos h4] at hf
    refine ev_iconst dX12_row_29 ?_
    obtain rfl := Option.some.inj hf
    exact ev_iret dX12_row_30 rfl ⟨Nat.zero_le _, Nat.zero_le _⟩ hr
  · rw [if_neg h4] at hf
    refine ev_iload_n dX12_row_20 2 rfl ?_
    refine ev_aload_n dX12_row_21 1 rfl ?_
    refine ev_iload_n dX12_row_22 0 rfl ?_
    obtain ⟨v5, hv5, hf⟩ := Option.bind_eq_some_iff.mp hf
    refine cl_V1 (As := [vi v3]) (st := [vi i0]) miX12_leastOf (tX12_leastOf hS (hc.w rfl rfl) v3 μ2 hv5) dX12_row_23 lkX12_318 inX12_leastOf rfl (hS.lt (hc 75 rfl)) rfl ⟨rfl, rfl⟩ ⟨⟨Nat.le_of_ble_eq_true rfl, Nat.le_of_ble_eq_true rfl⟩, Nat.zero_le _, Nat.zero_le _⟩ (Nat.le_of_ble_eq_true rfl) ?_
    refine ev_icmp_lt 31 dX12_row_26 (by decide) (fun h6 => ?_) (fun h6 => ?_)
    · rw [if_pos h6] at hf
      refine ev_iconst dX12_row_31 ?_
      refine ev_istore_n (al2 := [(3, vi 0), (2, vi v3), (0, vr g 75), (1, vi i0)]) dX12_row_32 3 rfl (by decide) rfl ?_
      obtain ⟨q13, hq13, hf⟩ := Option.bind_eq_some_iff.mp hf
      refine ev_sub [2, 3, 1, 0] rfl ?_
      refine loop_ev (H := (fun s : Int × Int × Mem => Ev l D cy g K yX12_row cX12_row 5 (some .int) (rmd 7 0 0) (MX D cy g K (rmd 7 0 0) Φ) 0 0 M x (L s.2.2) 33 [(0, vr g 75), (1, vi i0), (2, vi s.1), (3, vi s.2.1)] [])) (Hx := (fun e : Int × Mem => Ev l D cy g K yX12_row cX12_row 5 (some .int) (rmd 7 0 0) (MX D cy g K (rmd 7 0 0) Φ) 0 0 M x (L e.2) 59 [(0, vr g 75), (2, vi e.1)] [])) (fun s o hb hr => tX12_row_b33 hS hc i0 s.1 s.2.1 s.2.2 hb hr) FU _ _ hq13 ?_
      show Ev l D cy g K yX12_row cX12_row 5 (some .int) (rmd 7 0 0) (MX D cy g K (rmd 7 0 0) Φ) 0 0 M x (L q13.2) 59 [(0, vr g 75), (2, vi q13.1)] []
      refine ev_aload_n dX12_row_59 0 rfl ?_
      refine ev_iload_n dX12_row_60 1 rfl ?_
      obtain ⟨q14, hq14, hf⟩ := Option.bind_eq_some_iff.mp hf
      refine cl_V1 (As := [vi q13.1]) (st := []) miX12_nearer (tX12_nearer hS (hc.w rfl rfl) q13.1 q13.2 hq14) dX12_row_61 lkX12_324 inX12_nearer rfl (hS.lt (hc 75 rfl)) rfl ⟨rfl, rfl⟩ ⟨⟨Nat.le_of_ble_eq_true rfl, Nat.le_of_ble_eq_true rfl⟩, Nat.zero_le _, Nat.zero_le _⟩ (Nat.le_of_ble_eq_true rfl) ?_
      obtain rfl := Option.some.inj hf
      exact ev_iret dX12_row_64 rfl ⟨Nat.zero_le _, Nat.zero_le _⟩ hr
    · rw [if_neg h6] at hf
      refine ev_iconst dX12_row_29 ?_
      obtain rfl := Option.some.inj hf
      exact ev_iret dX12_row_30 rfl ⟨Nat.zero_le _, Nat.zero_le _⟩ hr
theorem tX12_row (hS : Sd M K P L) (hc : CIn P 75 95) (i0 : Int) (μ : Mem) {o : Int × Mem} (hf : fX12_row i0 μ = some o) : Cn l D cy g K K yX12_row cX12_row 5 (some .int) (rmd 7 0 0) [vr g 75, vi i0] M x (L μ) (PE (some (vi o.1)) M x (L o.2)) :=
 Cn.of (by decide) (Nat.le_of_ble_eq_true rfl) (eX12_row hS hc i0 μ hf (PE_i _ _ _ _))
def fX12_without (many : Int) (μ : Mem) : Option (Int × Mem) :=
  lt (upd2 μ 75 0 0) fun μ1 =>
  lt (fX12_within many 1 (μ1 81 0)) fun v2 =>
  if v2 = true then
    lt (upd2 μ1 75 26 0) fun μ4 =>
    (fX12_fewest false many μ4).bind fun μ5 =>
    (fX12_leastOf (μ5 88 0) μ5).bind fun v6 =>
    some ((v6, μ5))
  else
    some (((-1), μ1))
set_option maxRecDepth 4000 in
theorem eX12_without (hS : Sd M K P L) (hc : CIn P 75 93) (many : Int) (μ : Mem)  {o : Int × Mem} (hf : fX12_without many μ = some o) (hr : (fun o : Int × Mem => Φ (some (vi o.1)) M x (L o.2)) o) : Ev l D cy g K yX12_without cX12_without 2 (some .int) (rmd 6 0 0) (MX D cy g K (rmd 6 0 0) Φ) 0 0 M x (L μ) 0 [(0, vr g 75), (1, vi many)] [] := by
  unfold fX12_without at hf
  refine ev_aload_n dX12_without_0 0 rfl ?_
  refine ev_iconst dX12_without_1 ?_
  obtain ⟨μ1, hμ1, hf⟩ := lt_elim hf
  refine ev_putI 0 dX12_without_2 (hS.lt (hc 75 rfl)) rfl ciX12 (by decide) (Or.inl rfl) rfl rfl flX12_1 (hS.up (hc 75 rfl) hμ1) ?_
  refine ev_iload_n dX12_without_5 1 rfl ?_
  refine ev_iconst dX12_without_6 ?_
  refine ev_aload_n dX12_without_7 0 rfl ?_
  refine cl_V1 (As := []) (st := [vi 1, vi many]) miX12_cakes (tX12_cakes hS (hc.w rfl rfl) μ1 (o := (μ1 81 0)) rfl) dX12_without_8 lkX12_209 inX12_cakes rfl (hS.lt (hc 75 rfl)) rfl ⟨rfl, rfl⟩ ⟨⟨Nat.le_of_ble_eq_true rfl, Nat.le_of_ble_eq_true rfl⟩, Nat.zero_le _, Nat.zero_le _⟩ (Nat.le_of_ble_eq_true rfl) ?_
  obtain ⟨v2, hv2, hf⟩ := lt_elim hf
  refine cl_S1 (As := [vi many, vi 1, vi (μ1 81 0)]) (st := []) miX12_within (tX12_within many 1 (μ1 81 0) (L μ1) hv2.symm) dX12_without_11 lkX12_270 stX12_within rfl ⟨⟨Nat.le_of_ble_eq_true rfl, Nat.le_of_ble_eq_true rfl⟩, Nat.zero_le _, Nat.zero_le _⟩ (Nat.le_of_ble_eq_true rfl) ?_
  refine ev_ifb_ne 19 dX12_without_14 (by decide) (fun h3 => ?_) (fun h3 => ?_)
  · rw [if_pos h3] at hf
    refine ev_aload_n dX12_without_19 0 rfl ?_
    refine ev_iconst dX12_without_20 ?_
    obtain ⟨μ4, hμ4, hf⟩ := lt_elim hf
    refine ev_putI 26 dX12_without_21 (hS.lt (hc 75 rfl)) rfl ciX12 (by decide) (Or.inl rfl) rfl rfl flX12_251 (hS.up (hc 75 rfl) hμ4) ?_
    refine ev_aload_n dX12_without_24 0 rfl ?_
    refine ev_iconst dX12_without_25 ?_
    refine ev_iload_n dX12_without_26 1 rfl ?_
    obtain ⟨μ5, hμ5, hf⟩ := Option.bind_eq_some_iff.mp hf
    refine cl_V0 (As := [vb false, vi many]) (st := []) miX12_fewest (tX12_fewest hS (hc.w rfl rfl) false many μ4 hμ5) dX12_without_27 lkX12_311 inX12_fewest rfl (hS.lt (hc 75 rfl)) rfl ⟨rfl, rfl⟩ ⟨⟨Nat.le_of_ble_eq_true rfl, Nat.le_of_ble_eq_true rfl⟩, Nat.zero_le _, Nat.zero_le _⟩ (Nat.le_of_ble_eq_true rfl) ?_
    refine ev_aload_n dX12_without_30 0 rfl ?_
    refine ev_aload_n dX12_without_31 0 rfl ?_
    refine ev_getK 19 dX12_without_32 (hS.lt (hc 75 rfl)) rfl (hS.K1 (hc 75 rfl) rfl) ciX12 (by decide) rfl flX12_94 ?_
    refine ev_iconst dX12_without_35 ?_
    refine ev_iald dX12_without_36 (hS.lt (hc 88 rfl)) rfl (hS.mem _ (hc 88 rfl)) ⟨by decide, by decide⟩ ?_
    refine ev_rn (w := vi (μ5 88 0)) (by rw [show (w32 0).toNat = 0 from by decide]) ?_
    obtain ⟨v6, hv6, hf⟩ := Option.bind_eq_some_iff.mp hf
    refine cl_V1 (As := [vi (μ5 88 0)]) (st := []) miX12_leastOf (tX12_leastOf hS (hc.w rfl rfl) (μ5 88 0) μ5 hv6) dX12_without_37 lkX12_318 inX12_leastOf rfl (hS.lt (hc 75 rfl)) rfl ⟨rfl, rfl⟩ ⟨⟨Nat.le_of_ble_eq_true rfl, Nat.le_of_ble_eq_true rfl⟩, Nat.zero_le _, Nat.zero_le _⟩ (Nat.le_of_ble_eq_true rfl) ?_
    obtain rfl := Option.some.inj hf
    exact ev_iret dX12_without_40 rfl ⟨Nat.zero_le _, Nat.zero_le _⟩ hr
  · rw [if_neg h3] at hf
    refine ev_iconst dX12_without_17 ?_
    obtain rfl := Option.some.inj hf
    exact ev_iret dX12_without_18 rfl ⟨Nat.zero_le _, Nat.zero_le _⟩ hr
theorem tX12_without (hS : Sd M K P L) (hc : CIn P 75 93) (many : Int) (μ : Mem) {o : Int × Mem} (hf : fX12_without many μ = some o) : Cn l D cy g K K yX12_without cX12_without 2 (some .int) (rmd 6 0 0) [vr g 75, vi many] M x (L μ) (PE (some (vi o.1)) M x (L o.2)) :=
 Cn.of (by decide) (Nat.le_of_ble_eq_true rfl) (eX12_without hS hc many μ hf (PE_i _ _ _ _))
def fX12_needed_b33 (v6 : Int) (v7 : Int) (μ : Mem) : Option ((Int × Int × Mem) ⊕ (Int × Mem)) :=
  if w32 v7 ≤ w32 (μ 81 0) then
    (fX12_fewest false v7 μ).bind fun μ9 =>
    (fX12_leastOf (μ9 88 0) μ9).bind fun v10 =>
    lt (if w32 v10 < 0 then
        (i_shl 1 (v7 - 1))
      else
        0) fun v11 =>
    lt (i_or v6 v11) fun v13 =>
    some (.inl (v13, (v7 + 1), μ9))
  else
    some (.inr (v6, μ))
set_option maxRecDepth 4000 in
theorem tX12_needed_b33 (hS : Sd M K P L) (hc : CIn P 75 93) (v6 : Int) (v7 : Int) (μ : Mem)  {o : (Int × Int × Mem) ⊕ (Int × Mem)} (hf : fX12_needed_b33 v6 v7 μ = some o) (hr : (Sum.elim (fun s : Int × Int × Mem => Ev l D cy g K yX12_needed cX12_needed 3 (some .int) (rmd 7 0 0) (MX D cy g K (rmd 7 0 0) Φ) 0 0 M x (L s.2.2) 33 [(0, vr g 75), (1, vi s.1), (2, vi s.2.1)] []) (fun e : Int × Mem => Ev l D cy g K yX12_needed cX12_needed 3 (some .int) (rmd 7 0 0) (MX D cy g K (rmd 7 0 0) Φ) 0 0 M x (L e.2) 78 [(1, vi e.1)] [])) o) : Ev l D cy g K yX12_needed cX12_needed 3 (some .int) (rmd 7 0 0) (MX D cy g K (rmd 7 0 0) Φ) 0 0 M x (L μ) 33 [(0, vr g 75), (1, vi v6), (2, vi v7)] [] := by
  unfold fX12_needed_b33 at hf
  refine ev_iload_n dX12_needed_33 2 rfl ?_
  refine ev_aload_n dX12_needed_34 0 rfl ?_
  refine cl_V1 (As := []) (st := [vi v7]) miX12_cakes (tX12_cakes hS (hc.w rfl rfl) μ (o := (μ 81 0)) rfl) dX12_needed_35 lkX12_209 inX12_cakes rfl (hS.lt (hc 75 rfl)) rfl ⟨rfl, rfl⟩ ⟨⟨Nat.le_of_ble_eq_true rfl, Nat.le_of_ble_eq_true rfl⟩, Nat.zero_le _, Nat.zero_le _⟩ (Nat.le_of_ble_eq_true rfl) ?_
  refine ev_icmp_gt 78 dX12_needed_38 (by decide) (fun h8 => ?_) (fun h8 => ?_)
  · rw [if_neg h8] at hf
    obtain rfl := Option.some.inj hf
    refine ev_sub [1] rfl ?_
    exact hr
  · rw [if_pos h8] at hf
    refine ev_aload_n dX12_needed_41 0 rfl ?_
    refine ev_iconst dX12_needed_42 ?_
    refine ev_iload_n dX12_needed_43 2 rfl ?_
    obtain ⟨μ9, hμ9, hf⟩ := Option.bind_eq_some_iff.mp hf
    refine cl_V0 (As := [vb false, vi v7]) (st := []) miX12_fewest (tX12_fewest hS (hc.w rfl rfl) false v7 μ hμ9) dX12_needed_44 lkX12_311 inX12_fewest rfl (hS.lt (hc 75 rfl)) rfl ⟨rfl, rfl⟩ ⟨⟨Nat.le_of_ble_eq_true rfl, Nat.le_of_ble_eq_true rfl⟩, Nat.zero_le _, Nat.zero_le _⟩ (Nat.le_of_ble_eq_true rfl) ?_
    refine ev_iload_n dX12_needed_47 1 rfl ?_
    refine ev_aload_n dX12_needed_48 0 rfl ?_
    refine ev_aload_n dX12_needed_49 0 rfl ?_
    refine ev_getK 19 dX12_needed_50 (hS.lt (hc 75 rfl)) rfl (hS.K1 (hc 75 rfl) rfl) ciX12 (by decide) rfl flX12_94 ?_
    refine ev_iconst dX12_needed_53 ?_
    refine ev_iald dX12_needed_54 (hS.lt (hc 88 rfl)) rfl (hS.mem _ (hc 88 rfl)) ⟨by decide, by decide⟩ ?_
    refine ev_rn (w := vi (μ9 88 0)) (by rw [show (w32 0).toNat = 0 from by decide]) ?_
    obtain ⟨v10, hv10, hf⟩ := Option.bind_eq_some_iff.mp hf
    refine cl_V1 (As := [vi (μ9 88 0)]) (st := [vi v6]) miX12_leastOf (tX12_leastOf hS (hc.w rfl rfl) (μ9 88 0) μ9 hv10) dX12_needed_55 lkX12_318 inX12_leastOf rfl (hS.lt (hc 75 rfl)) rfl ⟨rfl, rfl⟩ ⟨⟨Nat.le_of_ble_eq_true rfl, Nat.le_of_ble_eq_true rfl⟩, Nat.zero_le _, Nat.zero_le _⟩ (Nat.le_of_ble_eq_true rfl) ?_
    obtain ⟨v11, hv11, hf⟩ := lt_elim hf
    have hJv11 : Ev l D cy g K yX12_needed cX12_needed 3 (some .int) (rmd 7 0 0) (MX D cy g K (rmd 7 0 0) Φ) 0 0 M x (L μ9) 70 [(0, vr g 75), (1, vi v6), (2, vi v7)] [vi v11, vi v6] := by
      refine ev_ior dX12_needed_70 ?_
      obtain ⟨v13, hv13, hf⟩ := lt_elim hf
      refine ev_rni hv13 ?_
      refine ev_istore_n (al2 := [(1, vi v13), (0, vr g 75), (2, vi v7)]) dX12_needed_71 1 rfl (by decide) rfl ?_
      refine ev_iinc (al2 := [(2, vi (v7 + 1)), (1, vi v13), (0, vr g 75)]) dX12_needed_72 2 rfl (by decide) rfl ?_
      refine ev_goto 33 dX12_needed_75 (by decide) ?_
      obtain rfl := Option.some.inj hf
      refine ev_sub [2, 1, 0] rfl ?_
      exact hr
    refine ev_if_ge 69 dX12_needed_58 (by decide) (fun h12 => ?_) (fun h12 => ?_)
    · refine ev_iconst dX12_needed_69 ?_
      have e9 : v11 = 0 := hv11.trans ((if_neg h12))
      subst e9
      exact hJv11
    · refine ev_iconst dX12_needed_61 ?_
      refine ev_iload_n dX12_needed_62 2 rfl ?_
      refine ev_iconst dX12_needed_63 ?_
      refine ev_isub dX12_needed_64 ?_
      refine ev_ishl dX12_needed_65 ?_
      refine ev_goto 70 dX12_needed_66 (by decide) ?_
      have e9 : v11 = (i_shl 1 (v7 - 1)) := hv11.trans ((if_pos h12))
      subst e9
      exact hJv11
def fX12_needed  (μ : Mem) : Option (Int × Mem) :=
  lt (upd2 μ 75 0 0) fun μ1 =>
  (fX12_laysFewest μ1).bind fun μ2 =>
  (fX12_leastOf (μ2 88 0) μ2).bind fun v3 =>
  if w32 v3 < 0 then
    some (((-1), μ2))
  else
    lt (upd2 μ2 75 26 0) fun μ5 =>
    (loopN (fun s => fX12_needed_b33 s.1 s.2.1 s.2.2) FU (0, 1, μ5)).bind fun q14 =>
    some ((q14.1, q14.2))
set_option maxRecDepth 4000 in
theorem eX12_needed (hS : Sd M K P L) (hc : CIn P 75 93)  (μ : Mem)  {o : Int × Mem} (hf : fX12_needed  μ = some o) (hr : (fun o : Int × Mem => Φ (some (vi o.1)) M x (L o.2)) o) : Ev l D cy g K yX12_needed cX12_needed 3 (some .int) (rmd 7 0 0) (MX D cy g K (rmd 7 0 0) Φ) 0 0 M x (L μ) 0 [(0, vr g 75)] [] := by
  unfold fX12_needed at hf
  refine ev_aload_n dX12_needed_0 0 rfl ?_
  refine ev_iconst dX12_needed_1 ?_
  obtain ⟨μ1, hμ1, hf⟩ := lt_elim hf
  refine ev_putI 0 dX12_needed_2 (hS.lt (hc 75 rfl)) rfl ciX12 (by decide) (Or.inl rfl) rfl rfl flX12_1 (hS.up (hc 75 rfl) hμ1) ?_
  refine ev_aload_n dX12_needed_5 0 rfl ?_
  obtain ⟨μ2, hμ2, hf⟩ := Option.bind_eq_some_iff.mp hf
  refine cl_V0 (As := []) (st := []) miX12_laysFewest (tX12_laysFewest hS (hc.w rfl rfl) μ1 hμ2) dX12_needed_6 lkX12_315 inX12_laysFewest rfl (hS.lt (hc 75 rfl)) rfl ⟨rfl, rfl⟩ ⟨⟨Nat.le_of_ble_eq_true rfl, Nat.le_of_ble_eq_true rfl⟩, Nat.zero_le _, Nat.zero_le _⟩ (Nat.le_of_ble_eq_true rfl) ?_
  refine ev_aload_n dX12_needed_9 0 rfl ?_
  refine ev_aload_n dX12_needed_10 0 rfl ?_
  refine ev_getK 19 dX12_needed_11 (hS.lt (hc 75 rfl)) rfl (hS.K1 (hc 75 rfl) rfl) ciX12 (by decide) rfl flX12_94 ?_
  refine ev_iconst dX12_needed_14 ?_
  refine ev_iald dX12_needed_15 (hS.lt (hc 88 rfl)) rfl (hS.mem _ (hc 88 rfl)) ⟨by decide, by decide⟩ ?_
  refine ev_rn (w := vi (μ2 88 0)) (by rw [show (w32 0).toNat = 0 from by decide]) ?_
  obtain ⟨v3, hv3, hf⟩ := Option.bind_eq_some_iff.mp hf
  refine cl_V1 (As := [vi (μ2 88 0)]) (st := []) miX12_leastOf (tX12_leastOf hS (hc.w rfl rfl) (μ2 88 0) μ2 hv3) dX12_needed_16 lkX12_318 inX12_leastOf rfl (hS.lt (hc 75 rfl)) rfl ⟨rfl, rfl⟩ ⟨⟨Nat.le_of_ble_eq_true rfl, Nat.le_of_ble_eq_true rfl⟩, Nat.zero_le _, Nat.zero_le _⟩ (Nat.le_of_ble_eq_true rfl) ?_
  refine ev_if_ge 24 dX12_needed_19 (by decide) (fun h4 => ?_) (fun h4 => ?_)
  · rw [if_neg h4] at hf
    refine ev_iconst dX12_needed_24 ?_
    refine ev_istore_n (al2 := [(1, vi 0), (0, vr g 75)]) dX12_needed_25 1 rfl (by decide) rfl ?_
    refine ev_aload_n dX12_needed_26 1 rfl ?_
    refine ev_iconst dX12_needed_27 ?_
    obtain ⟨μ5, hμ5, hf⟩ := lt_elim hf
    refine ev_putI 26 dX12_needed_28 (hS.lt (hc 75 rfl)) rfl ciX12 (by decide) (Or.inl rfl) rfl rfl flX12_251 (hS.up (hc 75 rfl) hμ5) ?_
    refine ev_iconst dX12_needed_31 ?_
    refine ev_istore_n (al2 := [(2, vi 1), (1, vi 0), (0, vr g 75)]) dX12_needed_32 2 rfl (by decide) rfl ?_
    obtain ⟨q14, hq14, hf⟩ := Option.bind_eq_some_iff.mp hf
    refine ev_sub [2, 1, 0] rfl ?_
    refine loop_ev (H := (fun s : Int × Int × Mem => Ev l D cy g K yX12_needed cX12_needed 3 (some .int) (rmd 7 0 0) (MX D cy g K (rmd 7 0 0) Φ) 0 0 M x (L s.2.2) 33 [(0, vr g 75), (1, vi s.1), (2, vi s.2.1)] [])) (Hx := (fun e : Int × Mem => Ev l D cy g K yX12_needed cX12_needed 3 (some .int) (rmd 7 0 0) (MX D cy g K (rmd 7 0 0) Φ) 0 0 M x (L e.2) 78 [(1, vi e.1)] [])) (fun s o hb hr => tX12_needed_b33 hS hc s.1 s.2.1 s.2.2 hb hr) FU _ _ hq14 ?_
    show Ev l D cy g K yX12_needed cX12_needed 3 (some .int) (rmd 7 0 0) (MX D cy g K (rmd 7 0 0) Φ) 0 0 M x (L q14.2) 78 [(1, vi q14.1)] []
    refine ev_iload_n dX12_needed_78 0 rfl ?_
    obtain rfl := Option.some.inj hf
    exact ev_iret dX12_needed_79 rfl ⟨Nat.zero_le _, Nat.zero_le _⟩ hr
  · rw [if_pos h4] at hf
    refine ev_iconst dX12_needed_22 ?_
    obtain rfl := Option.some.inj hf
    exact ev_iret dX12_needed_23 rfl ⟨Nat.zero_le _, Nat.zero_le _⟩ hr
theorem tX12_needed (hS : Sd M K P L) (hc : CIn P 75 93) (μ : Mem) {o : Int × Mem} (hf : fX12_needed μ = some o) : Cn l D cy g K K yX12_needed cX12_needed 3 (some .int) (rmd 7 0 0) [vr g 75] M x (L μ) (PE (some (vi o.1)) M x (L o.2)) :=
 Cn.of (by decide) (Nat.le_of_ble_eq_true rfl) (eX12_needed hS hc μ hf (PE_i _ _ _ _))
def fX12_far  (μ : Mem) : Option (Int × Mem) :=
  lt (upd2 μ 75 0 0) fun μ1 =>
  if ((μ1 75 16) != 0) = true then
    lt (upd2 μ1 75 26 0) fun μ3 =>
    (fX12_fewest true 0 μ3).bind fun μ4 =>
    (fX12_leastOf (μ4 88 0) μ4).bind fun v5 =>
    some ((v5, μ4))
  else
    some (((-1), μ1))
set_option maxRecDepth 4000 in
theorem eX12_far (hS : Sd M K P L) (hc : CIn P 75 93)  (μ : Mem)  {o : Int × Mem} (hf : fX12_far  μ = some o) (hr : (fun o : Int × Mem => Φ (some (vi o.1)) M x (L o.2)) o) : Ev l D cy g K yX12_far cX12_far 1 (some .int) (rmd 6 0 0) (MX D cy g K (rmd 6 0 0) Φ) 0 0 M x (L μ) 0 [(0, vr g 75)] [] := by
  unfold fX12_far at hf
  refine ev_aload_n dX12_far_0 0 rfl ?_
  refine ev_iconst dX12_far_1 ?_
  obtain ⟨μ1, hμ1, hf⟩ := lt_elim hf
  refine ev_putI 0 dX12_far_2 (hS.lt (hc 75 rfl)) rfl ciX12 (by decide) (Or.inl rfl) rfl rfl flX12_1 (hS.up (hc 75 rfl) hμ1) ?_
  refine ev_aload_n dX12_far_5 0 rfl ?_
  refine ev_getZ 16 dX12_far_6 (hS.lt (hc 75 rfl)) rfl (hS.mem _ (hc 75 rfl)) ciX12 (by decide) rfl flX12_213 ?_
  refine ev_ifb_ne 14 dX12_far_9 (by decide) (fun h2 => ?_) (fun h2 => ?_)
  · rw [if_pos h2] at hf
    refine ev_aload_n dX12_far_14 0 rfl ?_
    refine ev_iconst dX12_far_15 ?_
    obtain ⟨μ3, hμ3, hf⟩ := lt_elim hf
    refine ev_putI 26 dX12_far_16 (hS.lt (hc 75 rfl)) rfl ciX12 (by decide) (Or.inl rfl) rfl rfl flX12_251 (hS.up (hc 75 rfl) hμ3) ?_
    refine ev_aload_n dX12_far_19 0 rfl ?_
    refine ev_iconst dX12_far_20 ?_
    refine ev_iconst dX12_far_21 ?_
    obtain ⟨μ4, hμ4, hf⟩ := Option.bind_eq_some_iff.mp hf
    refine cl_V0 (As := [vb true, vi 0]) (st := []) miX12_fewest (tX12_fewest hS (hc.w rfl rfl) true 0 μ3 hμ4) dX12_far_22 lkX12_311 inX12_fewest rfl (hS.lt (hc 75 rfl)) rfl ⟨rfl, rfl⟩ ⟨⟨Nat.le_of_ble_eq_true rfl, Nat.le_of_ble_eq_true rfl⟩, Nat.zero_le _, Nat.zero_le _⟩ (Nat.le_of_ble_eq_true rfl) ?_
    refine ev_aload_n dX12_far_25 0 rfl ?_
    refine ev_aload_n dX12_far_26 0 rfl ?_
    refine ev_getK 19 dX12_far_27 (hS.lt (hc 75 rfl)) rfl (hS.K1 (hc 75 rfl) rfl) ciX12 (by decide) rfl flX12_94 ?_
    refine ev_iconst dX12_far_30 ?_
    refine ev_iald dX12_far_31 (hS.lt (hc 88 rfl)) rfl (hS.mem _ (hc 88 rfl)) ⟨by decide, by decide⟩ ?_
    refine ev_rn (w := vi (μ4 88 0)) (by rw [show (w32 0).toNat = 0 from by decide]) ?_
    obtain ⟨v5, hv5, hf⟩ := Option.bind_eq_some_iff.mp hf
    refine cl_V1 (As := [vi (μ4 88 0)]) (st := []) miX12_leastOf (tX12_leastOf hS (hc.w rfl rfl) (μ4 88 0) μ4 hv5) dX12_far_32 lkX12_318 inX12_leastOf rfl (hS.lt (hc 75 rfl)) rfl ⟨rfl, rfl⟩ ⟨⟨Nat.le_of_ble_eq_true rfl, Nat.le_of_ble_eq_true rfl⟩, Nat.zero_le _, Nat.zero_le _⟩ (Nat.le_of_ble_eq_true rfl) ?_
    obtain rfl := Option.some.inj hf
    exact ev_iret dX12_far_35 rfl ⟨Nat.zero_le _, Nat.zero_le _⟩ hr
  · rw [if_neg h2] at hf
    refine ev_iconst dX12_far_12 ?_
    obtain rfl := Option.some.inj hf
    exact ev_iret dX12_far_13 rfl ⟨Nat.zero_le _, Nat.zero_le _⟩ hr
theorem tX12_far (hS : Sd M K P L) (hc : CIn P 75 93) (μ : Mem) {o : Int × Mem} (hf : fX12_far μ = some o) : Cn l D cy g K K yX12_far cX12_far 1 (some .int) (rmd 6 0 0) [vr g 75] M x (L μ) (PE (some (vi o.1)) M x (L o.2)) :=
 Cn.of (by decide) (Nat.le_of_ble_eq_true rfl) (eX12_far hS hc μ hf (PE_i _ _ _ _))
def fX12_toward  (μ : Mem) : Option (Int × Mem) :=
  lt (upd2 μ 75 0 0) fun μ1 =>
  if ((μ1 75 16) != 0) = true then
    lt (upd2 μ1 75 26 0) fun μ3 =>
    (fX12_fewest true 0 μ3).bind fun μ4 =>
    (fX12_nearer (μ4 88 0) μ4).bind fun q5 =>
    some ((q5.1, q5.2))
  else
    some (((-1), μ1))
set_option maxRecDepth 4000 in
theorem eX12_toward (hS : Sd M K P L) (hc : CIn P 75 95)  (μ : Mem)  {o : Int × Mem} (hf : fX12_toward  μ = some o) (hr : (fun o : Int × Mem => Φ (some (vi o.1)) M x (L o.2)) o) : Ev l D cy g K yX12_toward cX12_toward 1 (some .int) (rmd 7 0 0) (MX D cy g K (rmd 7 0 0) Φ) 0 0 M x (L μ) 0 [(0, vr g 75)] [] := by
  unfold fX12_toward at hf
  refine ev_aload_n dX12_toward_0 0 rfl ?_
  refine ev_iconst dX12_toward_1 ?_
  obtain ⟨μ1, hμ1, hf⟩ := lt_elim hf
  refine ev_putI 0 dX12_toward_2 (hS.lt (hc 75 rfl)) rfl ciX12 (by decide) (Or.inl rfl) rfl rfl flX12_1 (hS.up (hc 75 rfl) hμ1) ?_
  refine ev_aload_n dX12_toward_5 0 rfl ?_
  refine ev_getZ 16 dX12_toward_6 (hS.lt (hc 75 rfl)) rfl (hS.mem _ (hc 75 rfl)) ciX12 (by decide) rfl flX12_213 ?_
  refine ev_ifb_ne 14 dX12_toward_9 (by decide) (fun h2 => ?_) (fun h2 => ?_)
  · rw [if_pos h2] at hf
    refine ev_aload_n dX12_toward_14 0 rfl ?_
    refine ev_iconst dX12_toward_15 ?_
    obtain ⟨μ3, hμ3, hf⟩ := lt_elim hf
    refine ev_putI 26 dX12_toward_16 (hS.lt (hc 75 rfl)) rfl ciX12 (by decide) (Or.inl rfl) rfl rfl flX12_251 (hS.up (hc 75 rfl) hμ3) ?_
    refine ev_aload_n dX12_toward_19 0 rfl ?_
    refine ev_iconst dX12_toward_20 ?_
    refine ev_iconst dX12_toward_21 ?_
    obtain ⟨μ4, hμ4, hf⟩ := Option.bind_eq_some_iff.mp hf
    refine cl_V0 (As := [vb true, vi 0]) (st := []) miX12_fewest (tX12_fewest hS (hc.w rfl rfl) true 0 μ3 hμ4) dX12_toward_22 lkX12_311 inX12_fewest rfl (hS.lt (hc 75 rfl)) rfl ⟨rfl, rfl⟩ ⟨⟨Nat.le_of_ble_eq_true rfl, Nat.le_of_ble_eq_true rfl⟩, Nat.zero_le _, Nat.zero_le _⟩ (Nat.le_of_ble_eq_true rfl) ?_
    refine ev_aload_n dX12_toward_25 0 rfl ?_
    refine ev_aload_n dX12_toward_26 0 rfl ?_
    refine ev_getK 19 dX12_toward_27 (hS.lt (hc 75 rfl)) rfl (hS.K1 (hc 75 rfl) rfl) ciX12 (by decide) rfl flX12_94 ?_
    refine ev_iconst dX12_toward_30 ?_
    refine ev_iald dX12_toward_31 (hS.lt (hc 88 rfl)) rfl (hS.mem _ (hc 88 rfl)) ⟨by decide, by decide⟩ ?_
    refine ev_rn (w := vi (μ4 88 0)) (by rw [show (w32 0).toNat = 0 from by decide]) ?_
    obtain ⟨q5, hq5, hf⟩ := Option.bind_eq_some_iff.mp hf
    refine cl_V1 (As := [vi (μ4 88 0)]) (st := []) miX12_nearer (tX12_nearer hS (hc.w rfl rfl) (μ4 88 0) μ4 hq5) dX12_toward_32 lkX12_324 inX12_nearer rfl (hS.lt (hc 75 rfl)) rfl ⟨rfl, rfl⟩ ⟨⟨Nat.le_of_ble_eq_true rfl, Nat.le_of_ble_eq_true rfl⟩, Nat.zero_le _, Nat.zero_le _⟩ (Nat.le_of_ble_eq_true rfl) ?_
    obtain rfl := Option.some.inj hf
    exact ev_iret dX12_toward_35 rfl ⟨Nat.zero_le _, Nat.zero_le _⟩ hr
  · rw [if_neg h2] at hf
    refine ev_iconst dX12_toward_12 ?_
    obtain rfl := Option.some.inj hf
    exact ev_iret dX12_toward_13 rfl ⟨Nat.zero_le _, Nat.zero_le _⟩ hr
theorem tX12_toward (hS : Sd M K P L) (hc : CIn P 75 95) (μ : Mem) {o : Int × Mem} (hf : fX12_toward μ = some o) : Cn l D cy g K K yX12_toward cX12_toward 1 (some .int) (rmd 7 0 0) [vr g 75] M x (L μ) (PE (some (vi o.1)) M x (L o.2)) :=
 Cn.of (by decide) (Nat.le_of_ble_eq_true rfl) (eX12_toward hS hc μ hf (PE_i _ _ _ _))
def fX12_never_b13 (v3 : Int) (v4 : Int) (μ : Mem) : Option ((Int × Int × Mem) ⊕ (Int × Mem)) :=
  (fX12_stacks μ).bind fun v5 =>
  if w32 v4 < w32 v5 then
    (fX12_leastOf v4 μ).bind fun v7 =>
    lt (if w32 v7 < 0 then
        1
      else
        0) fun v8 =>
    lt (v3 + v8) fun v10 =>
    some (.inl (v10, (v4 + 1), μ))
  else
    some (.inr (v3, μ))
set_option maxRecDepth 4000 in
theorem tX12_never_b13 (hS : Sd M K P L) (hc : CIn P 75 93) (v3 : Int) (v4 : Int) (μ : Mem)  {o : (Int × Int × Mem) ⊕ (Int × Mem)} (hf : fX12_never_b13 v3 v4 μ = some o) (hr : (Sum.elim (fun s : Int × Int × Mem => Ev l D cy g K yX12_never cX12_never 3 (some .int) (rmd 7 0 0) (MX D cy g K (rmd 7 0 0) Φ) 0 0 M x (L s.2.2) 13 [(0, vr g 75), (1, vi s.1), (2, vi s.2.1)] []) (fun e : Int × Mem => Ev l D cy g K yX12_never cX12_never 3 (some .int) (rmd 7 0 0) (MX D cy g K (rmd 7 0 0) Φ) 0 0 M x (L e.2) 43 [(1, vi e.1)] [])) o) : Ev l D cy g K yX12_never cX12_never 3 (some .int) (rmd 7 0 0) (MX D cy g K (rmd 7 0 0) Φ) 0 0 M x (L μ) 13 [(0, vr g 75), (1, vi v3), (2, vi v4)] [] := by
  unfold fX12_never_b13 at hf
  refine ev_iload_n dX12_never_13 2 rfl ?_
  refine ev_aload_n dX12_never_14 0 rfl ?_
  obtain ⟨v5, hv5, hf⟩ := Option.bind_eq_some_iff.mp hf
  refine cl_V1 (As := []) (st := [vi v4]) miX12_stacks (tX12_stacks hS (hc.w rfl rfl) μ hv5) dX12_never_15 lkX12_294 inX12_stacks rfl (hS.lt (hc 75 rfl)) rfl ⟨rfl, rfl⟩ ⟨⟨Nat.le_of_ble_eq_true rfl, Nat.le_of_ble_eq_true rfl⟩, Nat.zero_le _, Nat.zero_le _⟩ (Nat.le_of_ble_eq_true rfl) ?_
  refine ev_icmp_ge 43 dX12_never_18 (by decide) (fun h6 => ?_) (fun h6 => ?_)
  · rw [if_neg h6] at hf
    obtain rfl := Option.some.inj hf
    refine ev_sub [1] rfl ?_
    exact hr
  · rw [if_pos h6] at hf
    refine ev_iload_n dX12_never_21 1 rfl ?_
    refine ev_aload_n dX12_never_22 0 rfl ?_
    refine ev_iload_n dX12_never_23 2 rfl ?_
    obtain ⟨v7, hv7, hf⟩ := Option.bind_eq_some_iff.mp hf
    refine cl_V1 (As := [vi v4]) (st := [vi v3]) miX12_leastOf (tX12_leastOf hS (hc.w rfl rfl) v4 μ hv7) dX12_never_24 lkX12_318 inX12_leastOf rfl (hS.lt (hc 75 rfl)) rfl ⟨rfl, rfl⟩ ⟨⟨Nat.le_of_ble_eq_true rfl, Nat.le_of_ble_eq_true rfl⟩, Nat.zero_le _, Nat.zero_le _⟩ (Nat.le_of_ble_eq_true rfl) ?_
    obtain ⟨v8, hv8, hf⟩ := lt_elim hf
    have hJv8 : Ev l D cy g K yX12_never cX12_never 3 (some .int) (rmd 7 0 0) (MX D cy g K (rmd 7 0 0) Φ) 0 0 M x (L μ) 35 [(0, vr g 75), (1, vi v3), (2, vi v4)] [vi v8, vi v3] := by
      refine ev_iadd dX12_never_35 ?_
      obtain ⟨v10, hv10, hf⟩ := lt_elim hf
      refine ev_rni hv10 ?_
      refine ev_istore_n (al2 := [(1, vi v10), (0, vr g 75), (2, vi v4)]) dX12_never_36 1 rfl (by decide) rfl ?_
      refine ev_iinc (al2 := [(2, vi (v4 + 1)), (1, vi v10), (0, vr g 75)]) dX12_never_37 2 rfl (by decide) rfl ?_
      refine ev_goto 13 dX12_never_40 (by decide) ?_
      obtain rfl := Option.some.inj hf
      refine ev_sub [2, 1, 0] rfl ?_
      exact hr
    refine ev_if_ge 34 dX12_never_27 (by decide) (fun h9 => ?_) (fun h9 => ?_)
    · refine ev_iconst dX12_never_34 ?_
      have e9 : v8 = 0 := hv8.trans ((if_neg h9))
      subst e9
      exact hJv8
    · refine ev_iconst dX12_never_30 ?_
      refine ev_goto 35 dX12_never_31 (by decide) ?_
      have e9 : v8 = 1 := hv8.trans ((if_pos h9))
      subst e9
      exact hJv8
def fX12_never  (μ : Mem) : Option (Int × Mem) :=
  lt (upd2 μ 75 0 0) fun μ1 =>
  (fX12_laysFewest μ1).bind fun μ2 =>
  (loopN (fun s => fX12_never_b13 s.1 s.2.1 s.2.2) FU (0, 0, μ2)).bind fun q11 =>
  some ((q11.1, q11.2))
set_option maxRecDepth 4000 in
theorem eX12_never (hS : Sd M K P L) (hc : CIn P 75 93)  (μ : Mem)  {o : Int × Mem} (hf : fX12_never  μ = some o) (hr : (fun o : Int × Mem => Φ (some (vi o.1)) M x (L o.2)) o) : Ev l D cy g K yX12_never cX12_never 3 (some .int) (rmd 7 0 0) (MX D cy g K (rmd 7 0 0) Φ) 0 0 M x (L μ) 0 [(0, vr g 75)] [] := by
  unfold fX12_never at hf
  refine ev_aload_n dX12_never_0 0 rfl ?_
  refine ev_iconst dX12_never_1 ?_
  obtain ⟨μ1, hμ1, hf⟩ := lt_elim hf
  refine ev_putI 0 dX12_never_2 (hS.lt (hc 75 rfl)) rfl ciX12 (by decide) (Or.inl rfl) rfl rfl flX12_1 (hS.up (hc 75 rfl) hμ1) ?_
  refine ev_aload_n dX12_never_5 0 rfl ?_
  obtain ⟨μ2, hμ2, hf⟩ := Option.bind_eq_some_iff.mp hf
  refine cl_V0 (As := []) (st := []) miX12_laysFewest (tX12_laysFewest hS (hc.w rfl rfl) μ1 hμ2) dX12_never_6 lkX12_315 inX12_laysFewest rfl (hS.lt (hc 75 rfl)) rfl ⟨rfl, rfl⟩ ⟨⟨Nat.le_of_ble_eq_true rfl, Nat.le_of_ble_eq_true rfl⟩, Nat.zero_le _, Nat.zero_le _⟩ (Nat.le_of_ble_eq_true rfl) ?_
  refine ev_iconst dX12_never_9 ?_
  refine ev_istore_n (al2 := [(1, vi 0), (0, vr g 75)]) dX12_never_10 1 rfl (by decide) rfl ?_
  refine ev_iconst dX12_never_11 ?_
  refine ev_istore_n (al2 := [(2, vi 0), (1, vi 0), (0, vr g 75)]) dX12_never_12 2 rfl (by decide) rfl ?_
  obtain ⟨q11, hq11, hf⟩ := Option.bind_eq_some_iff.mp hf
  refine ev_sub [2, 1, 0] rfl ?_
  refine loop_ev (H := (fun s : Int × Int × Mem => Ev l D cy g K yX12_never cX12_never 3 (some .int) (rmd 7 0 0) (MX D cy g K (rmd 7 0 0) Φ) 0 0 M x (L s.2.2) 13 [(0, vr g 75), (1, vi s.1), (2, vi s.2.1)] [])) (Hx := (fun e : Int × Mem => Ev l D cy g K yX12_never cX12_never 3 (some .int) (rmd 7 0 0) (MX D cy g K (rmd 7 0 0) Φ) 0 0 M x (L e.2) 43 [(1, vi e.1)] [])) (fun s o hb hr => tX12_never_b13 hS hc s.1 s.2.1 s.2.2 hb hr) FU _ _ hq11 ?_
  show Ev l D cy g K yX12_never cX12_never 3 (some .int) (rmd 7 0 0) (MX D cy g K (rmd 7 0 0) Φ) 0 0 M x (L q11.2) 43 [(1, vi q11.1)] []
  refine ev_iload_n dX12_never_43 0 rfl ?_
  obtain rfl := Option.some.inj hf
  exact ev_iret dX12_never_44 rfl ⟨Nat.zero_le _, Nat.zero_le _⟩ hr
theorem tX12_never (hS : Sd M K P L) (hc : CIn P 75 93) (μ : Mem) {o : Int × Mem} (hf : fX12_never μ = some o) : Cn l D cy g K K yX12_never cX12_never 3 (some .int) (rmd 7 0 0) [vr g 75] M x (L μ) (PE (some (vi o.1)) M x (L o.2)) :=
 Cn.of (by decide) (Nat.le_of_ble_eq_true rfl) (eX12_never hS hc μ hf (PE_i _ _ _ _))
def fX12_spreadOf_b4 (turns : Int) (v1 : Int) (v2 : Int) (μ : Mem) : Option ((Int × Int) ⊕ (Int)) :=
  (fX12_stacks μ).bind fun v3 =>
  if w32 v2 < w32 v3 then
    (fX12_leastOf v2 μ).bind fun v5 =>
    lt (if w32 v5 = w32 turns then
        1
      else
        0) fun v6 =>
    lt (v1 + v6) fun v8 =>
    some (.inl (v8, (v2 + 1)))
  else
    some (.inr v1)
set_option maxRecDepth 4000 in
theorem tX12_spreadOf_b4 (hS : Sd M K P L) (hc : CIn P 75 93) (turns : Int) (v1 : Int) (v2 : Int) (μ : Mem)  {o : (Int × Int) ⊕ (Int)} (hf : fX12_spreadOf_b4 turns v1 v2 μ = some o) (hr : (Sum.elim (fun s : Int × Int => Ev l D cy g K yX12_spreadOf cX12_spreadOf 4 (some .int) (rmd 5 0 0) (MX D cy g K (rmd 5 0 0) Φ) 0 0 M x (L μ) 4 [(0, vr g 75), (1, vi turns), (2, vi s.1), (3, vi s.2)] []) (fun e : Int => Ev l D cy g K yX12_spreadOf cX12_spreadOf 4 (some .int) (rmd 5 0 0) (MX D cy g K (rmd 5 0 0) Φ) 0 0 M x (L μ) 35 [(2, vi e)] [])) o) : Ev l D cy g K yX12_spreadOf cX12_spreadOf 4 (some .int) (rmd 5 0 0) (MX D cy g K (rmd 5 0 0) Φ) 0 0 M x (L μ) 4 [(0, vr g 75), (1, vi turns), (2, vi v1), (3, vi v2)] [] := by
  unfold fX12_spreadOf_b4 at hf
  refine ev_iload_n dX12_spreadOf_4 3 rfl ?_
  refine ev_aload_n dX12_spreadOf_5 0 rfl ?_
  obtain ⟨v3, hv3, hf⟩ := Option.bind_eq_some_iff.mp hf
  refine cl_V1 (As := []) (st := [vi v2]) miX12_stacks (tX12_stacks hS (hc.w rfl rfl) μ hv3) dX12_spreadOf_6 lkX12_294 inX12_stacks rfl (hS.lt (hc 75 rfl)) rfl ⟨rfl, rfl⟩ ⟨⟨Nat.le_of_ble_eq_true rfl, Nat.le_of_ble_eq_true rfl⟩, Nat.zero_le _, Nat.zero_le _⟩ (Nat.le_of_ble_eq_true rfl) ?_
  refine ev_icmp_ge 35 dX12_spreadOf_9 (by decide) (fun h4 => ?_) (fun h4 => ?_)
  · rw [if_neg h4] at hf
    obtain rfl := Option.some.inj hf
    refine ev_sub [2] rfl ?_
    exact hr
  · rw [if_pos h4] at hf
    refine ev_iload_n dX12_spreadOf_12 2 rfl ?_
    refine ev_aload_n dX12_spreadOf_13 0 rfl ?_
    refine ev_iload_n dX12_spreadOf_14 3 rfl ?_
    obtain ⟨v5, hv5, hf⟩ := Option.bind_eq_some_iff.mp hf
    refine cl_V1 (As := [vi v2]) (st := [vi v1]) miX12_leastOf (tX12_leastOf hS (hc.w rfl rfl) v2 μ hv5) dX12_spreadOf_15 lkX12_318 inX12_leastOf rfl (hS.lt (hc 75 rfl)) rfl ⟨rfl, rfl⟩ ⟨⟨Nat.le_of_ble_eq_true rfl, Nat.le_of_ble_eq_true rfl⟩, Nat.zero_le _, Nat.zero_le _⟩ (Nat.le_of_ble_eq_true rfl) ?_
    refine ev_iload_n dX12_spreadOf_18 1 rfl ?_
    obtain ⟨v6, hv6, hf⟩ := lt_elim hf
    have hJv6 : Ev l D cy g K yX12_spreadOf cX12_spreadOf 4 (some .int) (rmd 5 0 0) (MX D cy g K (rmd 5 0 0) Φ) 0 0 M x (L μ) 27 [(0, vr g 75), (1, vi turns), (2, vi v1), (3, vi v2)] [vi v6, vi v1] := by
      refine ev_iadd dX12_spreadOf_27 ?_
      obtain ⟨v8, hv8, hf⟩ := lt_elim hf
      refine ev_rni hv8 ?_
      refine ev_istore_n (al2 := [(2, vi v8), (0, vr g 75), (1, vi turns), (3, vi v2)]) dX12_spreadOf_28 2 rfl (by decide) rfl ?_
      refine ev_iinc (al2 := [(3, vi (v2 + 1)), (2, vi v8), (0, vr g 75), (1, vi turns)]) dX12_spreadOf_29 3 rfl (by decide) rfl ?_
      refine ev_goto 4 dX12_spreadOf_32 (by decide) ?_
      obtain rfl := Option.some.inj hf
      refine ev_sub [2, 3, 1, 0] rfl ?_
      exact hr
    refine ev_icmp_ne 26 dX12_spreadOf_19 (by decide) (fun h7 => ?_) (fun h7 => ?_)
    · refine ev_iconst dX12_spreadOf_26 ?_
      have e9 : v6 = 0 := hv6.trans ((if_neg h7))
      subst e9
      exact hJv6
    · refine ev_iconst dX12_spreadOf_22 ?_
      refine ev_goto 27 dX12_spreadOf_23 (by decide) ?_
      have e9 : v6 = 1 := hv6.trans ((if_pos h7))
      subst e9
      exact hJv6
def fX12_spreadOf (turns : Int) (μ : Mem) : Option (Int) :=
  (loopN (fun s => fX12_spreadOf_b4 turns s.1 s.2 μ) FU (0, 0)).bind fun q9 =>
  some (q9)
set_option maxRecDepth 4000 in
theorem eX12_spreadOf (hS : Sd M K P L) (hc : CIn P 75 93) (turns : Int) (μ : Mem)  {o : Int} (hf : fX12_spreadOf turns μ = some o) (hr : (fun o : Int => Φ (some (vi o)) M x (L μ)) o) : Ev l D cy g K yX12_spreadOf cX12_spreadOf 4 (some .int) (rmd 5 0 0) (MX D cy g K (rmd 5 0 0) Φ) 0 0 M x (L μ) 0 [(0, vr g 75), (1, vi turns)] [] := by
  unfold fX12_spreadOf at hf
  refine ev_iconst dX12_spreadOf_0 ?_
  refine ev_istore_n (al2 := [(2, vi 0), (0, vr g 75), (1, vi turns)]) dX12_spreadOf_1 2 rfl (by decide) rfl ?_
  refine ev_iconst dX12_spreadOf_2 ?_
  refine ev_istore_n (al2 := [(3, vi 0), (2, vi 0), (0, vr g 75), (1, vi turns)]) dX12_spreadOf_3 3 rfl (by decide) rfl ?_
  obtain ⟨q9, hq9, hf⟩ := Option.bind_eq_some_iff.mp hf
  refine ev_sub [2, 3, 1, 0] rfl ?_
  refine loop_ev (H := (fun s : Int × Int => Ev l D cy g K yX12_spreadOf cX12_spreadOf 4 (some .int) (rmd 5 0 0) (MX D cy g K (rmd 5 0 0) Φ) 0 0 M x (L μ) 4 [(0, vr g 75), (1, vi turns), (2, vi s.1), (3, vi s.2)] [])) (Hx := (fun e : Int => Ev l D cy g K yX12_spreadOf cX12_spreadOf 4 (some .int) (rmd 5 0 0) (MX D cy g K (rmd 5 0 0) Φ) 0 0 M x (L μ) 35 [(2, vi e)] [])) (fun s o hb hr => tX12_spreadOf_b4 hS hc turns s.1 s.2 μ hb hr) FU _ _ hq9 ?_
  show Ev l D cy g K yX12_spreadOf cX12_spreadOf 4 (some .int) (rmd 5 0 0) (MX D cy g K (rmd 5 0 0) Φ) 0 0 M x (L μ) 35 [(2, vi q9)] []
  refine ev_iload_n dX12_spreadOf_35 0 rfl ?_
  obtain rfl := Option.some.inj hf
  exact ev_iret dX12_spreadOf_36 rfl ⟨Nat.zero_le _, Nat.zero_le _⟩ hr
theorem tX12_spreadOf (hS : Sd M K P L) (hc : CIn P 75 93) (turns : Int) (μ : Mem) {o : Int} (hf : fX12_spreadOf turns μ = some o) : Cn l D cy g K K yX12_spreadOf cX12_spreadOf 4 (some .int) (rmd 5 0 0) [vr g 75, vi turns] M x (L μ) (PE (some (vi o)) M x (L μ)) :=
 Cn.of (by decide) (Nat.le_of_ble_eq_true rfl) (eX12_spreadOf hS hc turns μ hf (PE_i _ _ _ _))
def fX12_hard_b24 (what : Int) (v4 : Int) (v5 : Int) (μ : Mem) : Option ((Int × Int × Mem) ⊕ (Int × Mem)) :=
  (fX12_stacks μ).bind fun v6 =>
  if w32 v5 < w32 v6 then
    (fX12_leastOf v5 μ).bind fun v8 =>
    if w32 v8 ≤ w32 v4 then
      some (.inl (v4, (v5 + 1), μ))
    else
      (fX12_leastOf v5 μ).bind fun v10 =>
      some (.inl (v10, (v5 + 1), μ))
  else
    some (.inr (v4, μ))
set_option maxRecDepth 4000 in
theorem tX12_hard_b24 (hS : Sd M K P L) (hc : CIn P 75 93) (what : Int) (v4 : Int) (v5 : Int) (μ : Mem)  {o : (Int × Int × Mem) ⊕ (Int × Mem)} (hf : fX12_hard_b24 what v4 v5 μ = some o) (hr : (Sum.elim (fun s : Int × Int × Mem => Ev l D cy g K yX12_hard cX12_hard 4 (some .int) (rmd 7 0 0) (MX D cy g K (rmd 7 0 0) Φ) 0 0 M x (L s.2.2) 24 [(0, vr g 75), (1, vi what), (2, vi s.1), (3, vi s.2.1)] []) (fun e : Int × Mem => Ev l D cy g K yX12_hard cX12_hard 4 (some .int) (rmd 7 0 0) (MX D cy g K (rmd 7 0 0) Φ) 0 0 M x (L e.2) 57 [(0, vr g 75), (1, vi what), (2, vi e.1)] [])) o) : Ev l D cy g K yX12_hard cX12_hard 4 (some .int) (rmd 7 0 0) (MX D cy g K (rmd 7 0 0) Φ) 0 0 M x (L μ) 24 [(0, vr g 75), (1, vi what), (2, vi v4), (3, vi v5)] [] := by
  unfold fX12_hard_b24 at hf
  refine ev_iload_n dX12_hard_24 3 rfl ?_
  refine ev_aload_n dX12_hard_25 0 rfl ?_
  obtain ⟨v6, hv6, hf⟩ := Option.bind_eq_some_iff.mp hf
  refine cl_V1 (As := []) (st := [vi v5]) miX12_stacks (tX12_stacks hS (hc.w rfl rfl) μ hv6) dX12_hard_26 lkX12_294 inX12_stacks rfl (hS.lt (hc 75 rfl)) rfl ⟨rfl, rfl⟩ ⟨⟨Nat.le_of_ble_eq_true rfl, Nat.le_of_ble_eq_true rfl⟩, Nat.zero_le _, Nat.zero_le _⟩ (Nat.le_of_ble_eq_true rfl) ?_
  refine ev_icmp_ge 57 dX12_hard_29 (by decide) (fun h7 => ?_) (fun h7 => ?_)
  · rw [if_neg h7] at hf
    obtain rfl := Option.some.inj hf
    refine ev_sub [0, 1, 2] rfl ?_
    exact hr
  · rw [if_pos h7] at hf
    refine ev_aload_n dX12_hard_32 0 rfl ?_
    refine ev_iload_n dX12_hard_33 3 rfl ?_
    obtain ⟨v8, hv8, hf⟩ := Option.bind_eq_some_iff.mp hf
    refine cl_V1 (As := [vi v5]) (st := []) miX12_leastOf (tX12_leastOf hS (hc.w rfl rfl) v5 μ hv8) dX12_hard_34 lkX12_318 inX12_leastOf rfl (hS.lt (hc 75 rfl)) rfl ⟨rfl, rfl⟩ ⟨⟨Nat.le_of_ble_eq_true rfl, Nat.le_of_ble_eq_true rfl⟩, Nat.zero_le _, Nat.zero_le _⟩ (Nat.le_of_ble_eq_true rfl) ?_
    refine ev_iload_n dX12_hard_37 2 rfl ?_
    refine ev_icmp_le 49 dX12_hard_38 (by decide) (fun h9 => ?_) (fun h9 => ?_)
    · rw [if_pos h9] at hf
      refine ev_iload_n dX12_hard_49 2 rfl ?_
      refine ev_istore_n (al2 := [(2, vi v4), (0, vr g 75), (1, vi what), (3, vi v5)]) dX12_hard_50 2 rfl (by decide) rfl ?_
      refine ev_iinc (al2 := [(3, vi (v5 + 1)), (2, vi v4), (0, vr g 75), (1, vi what)]) dX12_hard_51 3 rfl (by decide) rfl ?_
      refine ev_goto 24 dX12_hard_54 (by decide) ?_
      obtain rfl := Option.some.inj hf
      refine ev_sub [2, 3, 1, 0] rfl ?_
      exact hr
    · rw [if_neg h9] at hf
      refine ev_aload_n dX12_hard_41 0 rfl ?_
      refine ev_iload_n dX12_hard_42 3 rfl ?_
      obtain ⟨v10, hv10, hf⟩ := Option.bind_eq_some_iff.mp hf
      refine cl_V1 (As := [vi v5]) (st := []) miX12_leastOf (tX12_leastOf hS (hc.w rfl rfl) v5 μ hv10) dX12_hard_43 lkX12_318 inX12_leastOf rfl (hS.lt (hc 75 rfl)) rfl ⟨rfl, rfl⟩ ⟨⟨Nat.le_of_ble_eq_true rfl, Nat.le_of_ble_eq_true rfl⟩, Nat.zero_le _, Nat.zero_le _⟩ (Nat.le_of_ble_eq_true rfl) ?_
      refine ev_goto 50 dX12_hard_46 (by decide) ?_
      refine ev_istore_n (al2 := [(2, vi v10), (0, vr g 75), (1, vi what), (3, vi v5)]) dX12_hard_50 2 rfl (by decide) rfl ?_
      refine ev_iinc (al2 := [(3, vi (v5 + 1)), (2, vi v10), (0, vr g 75), (1, vi what)]) dX12_hard_51 3 rfl (by decide) rfl ?_
      refine ev_goto 24 dX12_hard_54 (by decide) ?_
      obtain rfl := Option.some.inj hf
      refine ev_sub [2, 3, 1, 0] rfl ?_
      exact hr
def fX12_hard (what : Int) (μ : Mem) : Option (Int × Mem) :=
  lt (upd2 μ 75 0 0) fun μ1 =>
  if (fX12_within what 0 1) = true then
    (fX12_laysFewest μ1).bind fun μ3 =>
    (loopN (fun s => fX12_hard_b24 what s.1 s.2.1 s.2.2) FU (0, 0, μ3)).bind fun q11 =>
    if w32 what = 0 then
      some ((q11.1, q11.2))
    else
      (fX12_spreadOf q11.1 q11.2).bind fun v13 =>
      some ((v13, q11.2))
  else
    some (((-1), μ1))
set_option maxRecDepth 4000 in
theorem eX12_hard (hS : Sd M K P L) (hc : CIn P 75 93) (what : Int) (μ : Mem)  {o : Int × Mem} (hf : fX12_hard what μ = some o) (hr : (fun o : Int × Mem => Φ (some (vi o.1)) M x (L o.2)) o) : Ev l D cy g K yX12_hard cX12_hard 4 (some .int) (rmd 7 0 0) (MX D cy g K (rmd 7 0 0) Φ) 0 0 M x (L μ) 0 [(0, vr g 75), (1, vi what)] [] := by
  unfold fX12_hard at hf
  refine ev_aload_n dX12_hard_0 0 rfl ?_
  refine ev_iconst dX12_hard_1 ?_
  obtain ⟨μ1, hμ1, hf⟩ := lt_elim hf
  refine ev_putI 0 dX12_hard_2 (hS.lt (hc 75 rfl)) rfl ciX12 (by decide) (Or.inl rfl) rfl rfl flX12_1 (hS.up (hc 75 rfl) hμ1) ?_
  refine ev_iload_n dX12_hard_5 1 rfl ?_
  refine ev_iconst dX12_hard_6 ?_
  refine ev_iconst dX12_hard_7 ?_
  refine cl_S1 (As := [vi what, vi 0, vi 1]) (st := []) miX12_within (tX12_within what 0 1 (L μ1) (o := (fX12_within what 0 1)) rfl) dX12_hard_8 lkX12_270 stX12_within rfl ⟨⟨Nat.le_of_ble_eq_true rfl, Nat.le_of_ble_eq_true rfl⟩, Nat.zero_le _, Nat.zero_le _⟩ (Nat.le_of_ble_eq_true rfl) ?_
  refine ev_ifb_ne 16 dX12_hard_11 (by decide) (fun h2 => ?_) (fun h2 => ?_)
  · rw [if_pos h2] at hf
    refine ev_aload_n dX12_hard_16 0 rfl ?_
    obtain ⟨μ3, hμ3, hf⟩ := Option.bind_eq_some_iff.mp hf
    refine cl_V0 (As := []) (st := []) miX12_laysFewest (tX12_laysFewest hS (hc.w rfl rfl) μ1 hμ3) dX12_hard_17 lkX12_315 inX12_laysFewest rfl (hS.lt (hc 75 rfl)) rfl ⟨rfl, rfl⟩ ⟨⟨Nat.le_of_ble_eq_true rfl, Nat.le_of_ble_eq_true rfl⟩, Nat.zero_le _, Nat.zero_le _⟩ (Nat.le_of_ble_eq_true rfl) ?_
    refine ev_iconst dX12_hard_20 ?_
    refine ev_istore_n (al2 := [(2, vi 0), (0, vr g 75), (1, vi what)]) dX12_hard_21 2 rfl (by decide) rfl ?_
    refine ev_iconst dX12_hard_22 ?_
    refine ev_istore_n (al2 := [(3, vi 0), (2, vi 0), (0, vr g 75), (1, vi what)]) dX12_hard_23 3 rfl (by decide) rfl ?_
    obtain ⟨q11, hq11, hf⟩ := Option.bind_eq_some_iff.mp hf
    refine ev_sub [2, 3, 1, 0] rfl ?_
    refine loop_ev (H := (fun s : Int × Int × Mem => Ev l D cy g K yX12_hard cX12_hard 4 (some .int) (rmd 7 0 0) (MX D cy g K (rmd 7 0 0) Φ) 0 0 M x (L s.2.2) 24 [(0, vr g 75), (1, vi what), (2, vi s.1), (3, vi s.2.1)] [])) (Hx := (fun e : Int × Mem => Ev l D cy g K yX12_hard cX12_hard 4 (some .int) (rmd 7 0 0) (MX D cy g K (rmd 7 0 0) Φ) 0 0 M x (L e.2) 57 [(0, vr g 75), (1, vi what), (2, vi e.1)] [])) (fun s o hb hr => tX12_hard_b24 hS hc what s.1 s.2.1 s.2.2 hb hr) FU _ _ hq11 ?_
    show Ev l D cy g K yX12_hard cX12_hard 4 (some .int) (rmd 7 0 0) (MX D cy g K (rmd 7 0 0) Φ) 0 0 M x (L q11.2) 57 [(0, vr g 75), (1, vi what), (2, vi q11.1)] []
    refine ev_iload_n dX12_hard_57 1 rfl ?_
    refine ev_if_ne 65 dX12_hard_58 (by decide) (fun h12 => ?_) (fun h12 => ?_)
    · rw [if_neg h12] at hf
      refine ev_aload_n dX12_hard_65 0 rfl ?_
      refine ev_iload_n dX12_hard_66 2 rfl ?_
      obtain ⟨v13, hv13, hf⟩ := Option.bind_eq_some_iff.mp hf
      refine cl_V1 (As := [vi q11.1]) (st := []) miX12_spreadOf (tX12_spreadOf hS (hc.w rfl rfl) q11.1 q11.2 hv13) dX12_hard_67 lkX12_327 inX12_spreadOf rfl (hS.lt (hc 75 rfl)) rfl ⟨rfl, rfl⟩ ⟨⟨Nat.le_of_ble_eq_true rfl, Nat.le_of_ble_eq_true rfl⟩, Nat.zero_le _, Nat.zero_le _⟩ (Nat.le_of_ble_eq_true rfl) ?_
      obtain rfl := Option.some.inj hf
      exact ev_iret dX12_hard_70 rfl ⟨Nat.zero_le _, Nat.zero_le _⟩ hr
    · rw [if_pos h12] at hf
      refine ev_iload_n dX12_hard_61 2 rfl ?_
      refine ev_goto 70 dX12_hard_62 (by decide) ?_
      obtain rfl := Option.some.inj hf
      exact ev_iret dX12_hard_70 rfl ⟨Nat.zero_le _, Nat.zero_le _⟩ hr
  · rw [if_neg h2] at hf
    refine ev_iconst dX12_hard_14 ?_
    obtain rfl := Option.some.inj hf
    exact ev_iret dX12_hard_15 rfl ⟨Nat.zero_le _, Nat.zero_le _⟩ hr
theorem tX12_hard (hS : Sd M K P L) (hc : CIn P 75 93) (what : Int) (μ : Mem) {o : Int × Mem} (hf : fX12_hard what μ = some o) : Cn l D cy g K K yX12_hard cX12_hard 4 (some .int) (rmd 7 0 0) [vr g 75, vi what] M x (L μ) (PE (some (vi o.1)) M x (L o.2)) :=
 Cn.of (by decide) (Nat.le_of_ble_eq_true rfl) (eX12_hard hS hc what μ hf (PE_i _ _ _ _))
def fX12_spread (turns : Int) (μ : Mem) : Option (Int × Mem) :=
  lt (upd2 μ 75 0 0) fun μ1 =>
  if (fX12_within turns 0 60) = true then
    (fX12_laysFewest μ1).bind fun μ3 =>
    (fX12_spreadOf turns μ3).bind fun v4 =>
    some ((v4, μ3))
  else
    some (((-1), μ1))
set_option maxRecDepth 4000 in
theorem eX12_spread (hS : Sd M K P L) (hc : CIn P 75 93) (turns : Int) (μ : Mem)  {o : Int × Mem} (hf : fX12_spread turns μ = some o) (hr : (fun o : Int × Mem => Φ (some (vi o.1)) M x (L o.2)) o) : Ev l D cy g K yX12_spread cX12_spread 2 (some .int) (rmd 7 0 0) (MX D cy g K (rmd 7 0 0) Φ) 0 0 M x (L μ) 0 [(0, vr g 75), (1, vi turns)] [] := by
  unfold fX12_spread at hf
  refine ev_aload_n dX12_spread_0 0 rfl ?_
  refine ev_iconst dX12_spread_1 ?_
  obtain ⟨μ1, hμ1, hf⟩ := lt_elim hf
  refine ev_putI 0 dX12_spread_2 (hS.lt (hc 75 rfl)) rfl ciX12 (by decide) (Or.inl rfl) rfl rfl flX12_1 (hS.up (hc 75 rfl) hμ1) ?_
  refine ev_iload_n dX12_spread_5 1 rfl ?_
  refine ev_iconst dX12_spread_6 ?_
  refine ev_bipush dX12_spread_7 (by decide) ?_
  refine cl_S1 (As := [vi turns, vi 0, vi 60]) (st := []) miX12_within (tX12_within turns 0 60 (L μ1) (o := (fX12_within turns 0 60)) rfl) dX12_spread_9 lkX12_270 stX12_within rfl ⟨⟨Nat.le_of_ble_eq_true rfl, Nat.le_of_ble_eq_true rfl⟩, Nat.zero_le _, Nat.zero_le _⟩ (Nat.le_of_ble_eq_true rfl) ?_
  refine ev_ifb_ne 17 dX12_spread_12 (by decide) (fun h2 => ?_) (fun h2 => ?_)
  · rw [if_pos h2] at hf
    refine ev_aload_n dX12_spread_17 0 rfl ?_
    obtain ⟨μ3, hμ3, hf⟩ := Option.bind_eq_some_iff.mp hf
    refine cl_V0 (As := []) (st := []) miX12_laysFewest (tX12_laysFewest hS (hc.w rfl rfl) μ1 hμ3) dX12_spread_18 lkX12_315 inX12_laysFewest rfl (hS.lt (hc 75 rfl)) rfl ⟨rfl, rfl⟩ ⟨⟨Nat.le_of_ble_eq_true rfl, Nat.le_of_ble_eq_true rfl⟩, Nat.zero_le _, Nat.zero_le _⟩ (Nat.le_of_ble_eq_true rfl) ?_
    refine ev_aload_n dX12_spread_21 0 rfl ?_
    refine ev_iload_n dX12_spread_22 1 rfl ?_
    obtain ⟨v4, hv4, hf⟩ := Option.bind_eq_some_iff.mp hf
    refine cl_V1 (As := [vi turns]) (st := []) miX12_spreadOf (tX12_spreadOf hS (hc.w rfl rfl) turns μ3 hv4) dX12_spread_23 lkX12_327 inX12_spreadOf rfl (hS.lt (hc 75 rfl)) rfl ⟨rfl, rfl⟩ ⟨⟨Nat.le_of_ble_eq_true rfl, Nat.le_of_ble_eq_true rfl⟩, Nat.zero_le _, Nat.zero_le _⟩ (Nat.le_of_ble_eq_true rfl) ?_
    obtain rfl := Option.some.inj hf
    exact ev_iret dX12_spread_26 rfl ⟨Nat.zero_le _, Nat.zero_le _⟩ hr
  · rw [if_neg h2] at hf
    refine ev_iconst dX12_spread_15 ?_
    obtain rfl := Option.some.inj hf
    exact ev_iret dX12_spread_16 rfl ⟨Nat.zero_le _, Nat.zero_le _⟩ hr
theorem tX12_spread (hS : Sd M K P L) (hc : CIn P 75 93) (turns : Int) (μ : Mem) {o : Int × Mem} (hf : fX12_spread turns μ = some o) : Cn l D cy g K K yX12_spread cX12_spread 2 (some .int) (rmd 7 0 0) [vr g 75, vi turns] M x (L μ) (PE (some (vi o.1)) M x (L o.2)) :=
 Cn.of (by decide) (Nat.le_of_ble_eq_true rfl) (eX12_spread hS hc turns μ hf (PE_i _ _ _ _))
def fX12_isNextWider_j69 (k0 : Int) (than : Int) (v12 : Int) (μ : Mem) : Option ((Bool × Int) ⊕ (Bool)) :=
  some (.inl (true, (v12 + 1)))
set_option maxRecDepth 4000 in
theorem tX12_isNextWider_j69 (hS : Sd M K P L) (hc : CIn P 75 82) (k0 : Int) (than : Int) (v12 : Int) (μ : Mem)  {o : (Bool × Int) ⊕ (Bool)} (hf : fX12_isNextWider_j69 k0 than v12 μ = some o) (hr : (Sum.elim (fun s : Bool × Int => Ev l D cy g K yX12_isNextWider cX12_isNextWider 5 (some .boolean) (rmd 2 0 0) (MX D cy g K (rmd 2 0 0) Φ) 0 0 M x (L μ) 24 [(0, vr g 75), (1, vi k0), (2, vi than), (3, vb s.1), (4, vi s.2)] []) (fun e : Bool => Ev l D cy g K yX12_isNextWider cX12_isNextWider 5 (some .boolean) (rmd 2 0 0) (MX D cy g K (rmd 2 0 0) Φ) 0 0 M x (L μ) 81 [(3, vb e)] [])) o) : Ev l D cy g K yX12_isNextWider cX12_isNextWider 5 (some .boolean) (rmd 2 0 0) (MX D cy g K (rmd 2 0 0) Φ) 0 0 M x (L μ) 69 [(0, vr g 75), (1, vi k0), (2, vi than), (4, vi v12)] [] := by
  unfold fX12_isNextWider_j69 at hf
  refine ev_iconst dX12_isNextWider_69 ?_
  refine ev_goto 74 dX12_isNextWider_70 (by decide) ?_
  refine ev_istore_n (al2 := [(3, vi 1), (0, vr g 75), (1, vi k0), (2, vi than), (4, vi v12)]) dX12_isNextWider_74 3 rfl (by decide) rfl ?_
  refine ev_iinc (al2 := [(4, vi (v12 + 1)), (3, vi 1), (0, vr g 75), (1, vi k0), (2, vi than)]) dX12_isNextWider_75 4 rfl (by decide) rfl ?_
  refine ev_goto 24 dX12_isNextWider_78 (by decide) ?_
  obtain rfl := Option.some.inj hf
  refine ev_sub [2, 3, 4, 1, 0] rfl ?_
  exact hr
def fX12_isNextWider_b24 (k0 : Int) (than : Int) (v5 : Bool) (v6 : Int) (μ : Mem) : Option ((Bool × Int) ⊕ (Bool)) :=
  if w32 v6 < w32 (μ 81 0) then
    if v5 = true then
      (fX12_cakeOf v6 1 μ).bind fun v9 =>
      (fX12_cakeOf than 1 μ).bind fun v10 =>
      if w32 v9 ≤ w32 v10 then
        fX12_isNextWider_j69 k0 than v6 μ
      else
        (fX12_cakeOf v6 1 μ).bind fun v13 =>
        (fX12_cakeOf k0 1 μ).bind fun v14 =>
        lt (if w32 v13 < w32 v14 then
            false
          else
            true) fun v15 =>
        some (.inl (v15, (v6 + 1)))
    else
      some (.inl (false, (v6 + 1)))
  else
    some (.inr v5)
set_option maxRecDepth 4000 in
theorem tX12_isNextWider_b24 (hS : Sd M K P L) (hc : CIn P 75 82) (k0 : Int) (than : Int) (v5 : Bool) (v6 : Int) (μ : Mem)  {o : (Bool × Int) ⊕ (Bool)} (hf : fX12_isNextWider_b24 k0 than v5 v6 μ = some o) (hr : (Sum.elim (fun s : Bool × Int => Ev l D cy g K yX12_isNextWider cX12_isNextWider 5 (some .boolean) (rmd 2 0 0) (MX D cy g K (rmd 2 0 0) Φ) 0 0 M x (L μ) 24 [(0, vr g 75), (1, vi k0), (2, vi than), (3, vb s.1), (4, vi s.2)] []) (fun e : Bool => Ev l D cy g K yX12_isNextWider cX12_isNextWider 5 (some .boolean) (rmd 2 0 0) (MX D cy g K (rmd 2 0 0) Φ) 0 0 M x (L μ) 81 [(3, vb e)] [])) o) : Ev l D cy g K yX12_isNextWider cX12_isNextWider 5 (some .boolean) (rmd 2 0 0) (MX D cy g K (rmd 2 0 0) Φ) 0 0 M x (L μ) 24 [(0, vr g 75), (1, vi k0), (2, vi than), (3, vb v5), (4, vi v6)] [] := by
  unfold fX12_isNextWider_b24 at hf
  refine ev_iload dX12_isNextWider_24 4 rfl ?_
  refine ev_aload_n dX12_isNextWider_26 0 rfl ?_
  refine cl_V1 (As := []) (st := [vi v6]) miX12_cakes (tX12_cakes hS (hc.w rfl rfl) μ (o := (μ 81 0)) rfl) dX12_isNextWider_27 lkX12_209 inX12_cakes rfl (hS.lt (hc 75 rfl)) rfl ⟨rfl, rfl⟩ ⟨⟨Nat.le_of_ble_eq_true rfl, Nat.le_of_ble_eq_true rfl⟩, Nat.zero_le _, Nat.zero_le _⟩ (Nat.le_of_ble_eq_true rfl) ?_
  refine ev_icmp_ge 81 dX12_isNextWider_30 (by decide) (fun h7 => ?_) (fun h7 => ?_)
  · rw [if_neg h7] at hf
    obtain rfl := Option.some.inj hf
    refine ev_sub [3] rfl ?_
    exact hr
  · rw [if_pos h7] at hf
    refine ev_iload_n dX12_isNextWider_33 3 rfl ?_
    refine ev_ifb_eq 73 dX12_isNextWider_34 (by decide) (fun h8 => ?_) (fun h8 => ?_)
    · rw [if_neg h8] at hf
      refine ev_iconst dX12_isNextWider_73 ?_
      refine ev_istore_n (al2 := [(3, vi 0), (0, vr g 75), (1, vi k0), (2, vi than), (4, vi v6)]) dX12_isNextWider_74 3 rfl (by decide) rfl ?_
      refine ev_iinc (al2 := [(4, vi (v6 + 1)), (3, vi 0), (0, vr g 75), (1, vi k0), (2, vi than)]) dX12_isNextWider_75 4 rfl (by decide) rfl ?_
      refine ev_goto 24 dX12_isNextWider_78 (by decide) ?_
      obtain rfl := Option.some.inj hf
      refine ev_sub [2, 3, 4, 1, 0] rfl ?_
      exact hr
    · rw [if_pos h8] at hf
      refine ev_aload_n dX12_isNextWider_37 0 rfl ?_
      refine ev_iload dX12_isNextWider_38 4 rfl ?_
      refine ev_iconst dX12_isNextWider_40 ?_
      obtain ⟨v9, hv9, hf⟩ := Option.bind_eq_some_iff.mp hf
      refine cl_V1 (As := [vi v6, vi 1]) (st := []) miX12_cakeOf (tX12_cakeOf hS (hc.w rfl rfl) v6 1 μ hv9) dX12_isNextWider_41 lkX12_239 inX12_cakeOf rfl (hS.lt (hc 75 rfl)) rfl ⟨rfl, rfl⟩ ⟨⟨Nat.le_of_ble_eq_true rfl, Nat.le_of_ble_eq_true rfl⟩, Nat.zero_le _, Nat.zero_le _⟩ (Nat.le_of_ble_eq_true rfl) ?_
      refine ev_aload_n dX12_isNextWider_44 0 rfl ?_
      refine ev_iload_n dX12_isNextWider_45 2 rfl ?_
      refine ev_iconst dX12_isNextWider_46 ?_
      obtain ⟨v10, hv10, hf⟩ := Option.bind_eq_some_iff.mp hf
      refine cl_V1 (As := [vi than, vi 1]) (st := [vi v9]) miX12_cakeOf (tX12_cakeOf hS (hc.w rfl rfl) than 1 μ hv10) dX12_isNextWider_47 lkX12_239 inX12_cakeOf rfl (hS.lt (hc 75 rfl)) rfl ⟨rfl, rfl⟩ ⟨⟨Nat.le_of_ble_eq_true rfl, Nat.le_of_ble_eq_true rfl⟩, Nat.zero_le _, Nat.zero_le _⟩ (Nat.le_of_ble_eq_true rfl) ?_
      refine ev_icmp_le 69 dX12_isNextWider_50 (by decide) (fun h11 => ?_) (fun h11 => ?_)
      · rw [if_pos h11] at hf
        refine ev_sub [0, 1, 2, 4] rfl ?_
        exact tX12_isNextWider_j69 hS hc k0 than v6 μ hf hr
      · rw [if_neg h11] at hf
        refine ev_aload_n dX12_isNextWider_53 0 rfl ?_
        refine ev_iload dX12_isNextWider_54 4 rfl ?_
        refine ev_iconst dX12_isNextWider_56 ?_
        obtain ⟨v13, hv13, hf⟩ := Option.bind_eq_some_iff.mp hf
        refine cl_V1 (As := [vi v6, vi 1]) (st := []) miX12_cakeOf (tX12_cakeOf hS (hc.w rfl rfl) v6 1 μ hv13) dX12_isNextWider_57 lkX12_239 inX12_cakeOf rfl (hS.lt (hc 75 rfl)) rfl ⟨rfl, rfl⟩ ⟨⟨Nat.le_of_ble_eq_true rfl, Nat.le_of_ble_eq_true rfl⟩, Nat.zero_le _, Nat.zero_le _⟩ (Nat.le_of_ble_eq_true rfl) ?_
        refine ev_aload_n dX12_isNextWider_60 0 rfl ?_
        refine ev_iload_n dX12_isNextWider_61 1 rfl ?_
        refine ev_iconst dX12_isNextWider_62 ?_
        obtain ⟨v14, hv14, hf⟩ := Option.bind_eq_some_iff.mp hf
        refine cl_V1 (As := [vi k0, vi 1]) (st := [vi v13]) miX12_cakeOf (tX12_cakeOf hS (hc.w rfl rfl) k0 1 μ hv14) dX12_isNextWider_63 lkX12_239 inX12_cakeOf rfl (hS.lt (hc 75 rfl)) rfl ⟨rfl, rfl⟩ ⟨⟨Nat.le_of_ble_eq_true rfl, Nat.le_of_ble_eq_true rfl⟩, Nat.zero_le _, Nat.zero_le _⟩ (Nat.le_of_ble_eq_true rfl) ?_
        obtain ⟨v15, hv15, hf⟩ := lt_elim hf
        have hJv15 : Ev l D cy g K yX12_isNextWider cX12_isNextWider 5 (some .boolean) (rmd 2 0 0) (MX D cy g K (rmd 2 0 0) Φ) 0 0 M x (L μ) 74 [(0, vr g 75), (1, vi k0), (2, vi than), (3, vb v5), (4, vi v6)] [vb v15] := by
          refine ev_istore_n (al2 := [(3, vb v15), (0, vr g 75), (1, vi k0), (2, vi than), (4, vi v6)]) dX12_isNextWider_74 3 rfl (by decide) rfl ?_
          refine ev_iinc (al2 := [(4, vi (v6 + 1)), (3, vb v15), (0, vr g 75), (1, vi k0), (2, vi than)]) dX12_isNextWider_75 4 rfl (by decide) rfl ?_
          refine ev_goto 24 dX12_isNextWider_78 (by decide) ?_
          obtain rfl := Option.some.inj hf
          refine ev_sub [2, 3, 4, 1, 0] rfl ?_
          exact hr
        refine ev_icmp_lt 73 dX12_isNextWider_66 (by decide) (fun h16 => ?_) (fun h16 => ?_)
        · refine ev_iconst dX12_isNextWider_73 ?_
          have e9 : v15 = false := hv15.trans ((if_pos h16))
          subst e9
          exact hJv15
        · refine ev_iconst dX12_isNextWider_69 ?_
          refine ev_goto 74 dX12_isNextWider_70 (by decide) ?_
          have e9 : v15 = true := hv15.trans ((if_neg h16))
          subst e9
          exact hJv15
def fX12_isNextWider (k0 : Int) (than : Int) (μ : Mem) : Option (Bool) :=
  (fX12_cakeOf k0 1 μ).bind fun v1 =>
  (fX12_cakeOf than 1 μ).bind fun v2 =>
  lt (if w32 v1 ≤ w32 v2 then
      false
    else
      true) fun v3 =>
  (loopN (fun s => fX12_isNextWider_b24 k0 than s.1 s.2 μ) FU (v3, 0)).bind fun q17 =>
  some (q17)
set_option maxRecDepth 4000 in
theorem eX12_isNextWider (hS : Sd M K P L) (hc : CIn P 75 82) (k0 : Int) (than : Int) (μ : Mem)  {o : Bool} (hf : fX12_isNextWider k0 than μ = some o) (hr : (fun o : Bool => Φ (some (vb o)) M x (L μ)) o) : Ev l D cy g K yX12_isNextWider cX12_isNextWider 5 (some .boolean) (rmd 2 0 0) (MX D cy g K (rmd 2 0 0) Φ) 0 0 M x (L μ) 0 [(0, vr g 75), (1, vi k0), (2, vi than)] [] := by
  unfold fX12_isNextWider at hf
  refine ev_aload_n dX12_isNextWider_0 0 rfl ?_
  refine ev_iload_n dX12_isNextWider_1 1 rfl ?_
  refine ev_iconst dX12_isNextWider_2 ?_
  obtain ⟨v1, hv1, hf⟩ := Option.bind_eq_some_iff.mp hf
  refine cl_V1 (As := [vi k0, vi 1]) (st := []) miX12_cakeOf (tX12_cakeOf hS (hc.w rfl rfl) k0 1 μ hv1) dX12_isNextWider_3 lkX12_239 inX12_cakeOf rfl (hS.lt (hc 75 rfl)) rfl ⟨rfl, rfl⟩ ⟨⟨Nat.le_of_ble_eq_true rfl, Nat.le_of_ble_eq_true rfl⟩, Nat.zero_le _, Nat.zero_le _⟩ (Nat.le_of_ble_eq_true rfl) ?_
  refine ev_aload_n dX12_isNextWider_6 0 rfl ?_
  refine ev_iload_n dX12_isNextWider_7 2 rfl ?_
  refine ev_iconst dX12_isNextWider_8 ?_
  obtain ⟨v2, hv2, hf⟩ := Option.bind_eq_some_iff.mp hf
  refine cl_V1 (As := [vi than, vi 1]) (st := [vi v1]) miX12_cakeOf (tX12_cakeOf hS (hc.w rfl rfl) than 1 μ hv2) dX12_isNextWider_9 lkX12_239 inX12_cakeOf rfl (hS.lt (hc 75 rfl)) rfl ⟨rfl, rfl⟩ ⟨⟨Nat.le_of_ble_eq_true rfl, Nat.le_of_ble_eq_true rfl⟩, Nat.zero_le _, Nat.zero_le _⟩ (Nat.le_of_ble_eq_true rfl) ?_
  obtain ⟨v3, hv3, hf⟩ := lt_elim hf
  have hJv3 : Ev l D cy g K yX12_isNextWider cX12_isNextWider 5 (some .boolean) (rmd 2 0 0) (MX D cy g K (rmd 2 0 0) Φ) 0 0 M x (L μ) 20 [(0, vr g 75), (1, vi k0), (2, vi than)] [vb v3] := by
    refine ev_istore_n (al2 := [(3, vb v3), (0, vr g 75), (1, vi k0), (2, vi than)]) dX12_isNextWider_20 3 rfl (by decide) rfl ?_
    refine ev_iconst dX12_isNextWider_21 ?_
    refine ev_istore (al2 := [(4, vi 0), (3, vb v3), (0, vr g 75), (1, vi k0), (2, vi than)]) dX12_isNextWider_22 (by decide) rfl ?_
    obtain ⟨q17, hq17, hf⟩ := Option.bind_eq_some_iff.mp hf
    refine ev_sub [2, 3, 4, 1, 0] rfl ?_
    refine loop_ev (H := (fun s : Bool × Int => Ev l D cy g K yX12_isNextWider cX12_isNextWider 5 (some .boolean) (rmd 2 0 0) (MX D cy g K (rmd 2 0 0) Φ) 0 0 M x (L μ) 24 [(0, vr g 75), (1, vi k0), (2, vi than), (3, vb s.1), (4, vi s.2)] [])) (Hx := (fun e : Bool => Ev l D cy g K yX12_isNextWider cX12_isNextWider 5 (some .boolean) (rmd 2 0 0) (MX D cy g K (rmd 2 0 0) Φ) 0 0 M x (L μ) 81 [(3, vb e)] [])) (fun s o hb hr => tX12_isNextWider_b24 hS hc k0 than s.1 s.2 μ hb hr) FU _ _ hq17 ?_
    show Ev l D cy g K yX12_isNextWider cX12_isNextWider 5 (some .boolean) (rmd 2 0 0) (MX D cy g K (rmd 2 0 0) Φ) 0 0 M x (L μ) 81 [(3, vb q17)] []
    refine ev_iload_n dX12_isNextWider_81 0 rfl ?_
    obtain rfl := Option.some.inj hf
    exact ev_bret (b := q17) dX12_isNextWider_82 rfl ⟨Nat.zero_le _, Nat.zero_le _⟩ hr
  refine ev_icmp_le 19 dX12_isNextWider_12 (by decide) (fun h4 => ?_) (fun h4 => ?_)
  · refine ev_iconst dX12_isNextWider_19 ?_
    have e9 : v3 = false := hv3.trans ((if_pos h4))
    subst e9
    exact hJv3
  · refine ev_iconst dX12_isNextWider_15 ?_
    refine ev_goto 20 dX12_isNextWider_16 (by decide) ?_
    have e9 : v3 = true := hv3.trans ((if_neg h4))
    subst e9
    exact hJv3
theorem tX12_isNextWider (hS : Sd M K P L) (hc : CIn P 75 82) (k0 : Int) (than : Int) (μ : Mem) {o : Bool} (hf : fX12_isNextWider k0 than μ = some o) : Cn l D cy g K K yX12_isNextWider cX12_isNextWider 5 (some .boolean) (rmd 2 0 0) [vr g 75, vi k0, vi than] M x (L μ) (PE (some (vb o)) M x (L μ)) :=
 Cn.of (by decide) (Nat.le_of_ble_eq_true rfl) (eX12_isNextWider hS hc k0 than μ hf (PE_i _ _ _ _))
def fX12_liesBy (k0 : Int) (isUp : Bool) (μ : Mem) : Option (Bool) :=
  (fX12_hasSide k0 μ).bind fun v1 =>
  if v1 = true then
    gd (0 ≤ w32 k0 ∧ w32 k0 < 5) <|
    lt (if w32 (b2i ((μ 91 (w32 k0).toNat) != 0)) = w32 (b2i isUp) then
        true
      else
        false) fun v4 =>
    some (v4)
  else
    some (true)
set_option maxRecDepth 4000 in
theorem eX12_liesBy (hS : Sd M K P L) (hc : CIn P 75 92) (k0 : Int) (isUp : Bool) (μ : Mem)  {o : Bool} (hf : fX12_liesBy k0 isUp μ = some o) (hr : (fun o : Bool => Φ (some (vb o)) M x (L μ)) o) : Ev l D cy g K yX12_liesBy cX12_liesBy 3 (some .boolean) (rmd 3 0 0) (MX D cy g K (rmd 3 0 0) Φ) 0 0 M x (L μ) 0 [(0, vr g 75), (1, vi k0), (2, vb isUp)] [] := by
  unfold fX12_liesBy at hf
  refine ev_aload_n dX12_liesBy_0 0 rfl ?_
  refine ev_iload_n dX12_liesBy_1 1 rfl ?_
  obtain ⟨v1, hv1, hf⟩ := Option.bind_eq_some_iff.mp hf
  refine cl_V1 (As := [vi k0]) (st := []) miX12_hasSide (tX12_hasSide hS (hc.w rfl rfl) k0 μ hv1) dX12_liesBy_2 lkX12_236 inX12_hasSide rfl (hS.lt (hc 75 rfl)) rfl ⟨rfl, rfl⟩ ⟨⟨Nat.le_of_ble_eq_true rfl, Nat.le_of_ble_eq_true rfl⟩, Nat.zero_le _, Nat.zero_le _⟩ (Nat.le_of_ble_eq_true rfl) ?_
  refine ev_ifb_eq 18 dX12_liesBy_5 (by decide) (fun h2 => ?_) (fun h2 => ?_)
  · rw [if_neg h2] at hf
    refine ev_iconst dX12_liesBy_18 ?_
    refine ev_goto 23 dX12_liesBy_19 (by decide) ?_
    obtain rfl := Option.some.inj hf
    exact ev_bret (b := true) dX12_liesBy_23 rfl ⟨Nat.zero_le _, Nat.zero_le _⟩ hr
  · rw [if_pos h2] at hf
    refine ev_aload_n dX12_liesBy_8 0 rfl ?_
    refine ev_getK 24 dX12_liesBy_9 (hS.lt (hc 75 rfl)) rfl (hS.K1 (hc 75 rfl) rfl) ciX12 (by decide) rfl flX12_104 ?_
    refine ev_iload_n dX12_liesBy_12 1 rfl ?_
    obtain ⟨g3, hf⟩ := gd_elim hf
    refine ev_zald dX12_liesBy_13 (hS.lt (hc 91 rfl)) rfl (hS.mem _ (hc 91 rfl)) g3 ?_
    refine ev_iload_n dX12_liesBy_14 2 rfl ?_
    obtain ⟨v4, hv4, hf⟩ := lt_elim hf
    have hJv4 : Ev l D cy g K yX12_liesBy cX12_liesBy 3 (some .boolean) (rmd 3 0 0) (MX D cy g K (rmd 3 0 0) Φ) 0 0 M x (L μ) 23 [(0, vr g 75), (1, vi k0), (2, vb isUp)] [vb v4] := by
      obtain rfl := Option.some.inj hf
      exact ev_bret (b := v4) dX12_liesBy_23 rfl ⟨Nat.zero_le _, Nat.zero_le _⟩ hr
    refine ev_icmp_ne 22 dX12_liesBy_15 (by decide) (fun h5 => ?_) (fun h5 => ?_)
    · refine ev_iconst dX12_liesBy_22 ?_
      have e9 : v4 = false := hv4.trans ((if_neg h5))
      subst e9
      exact hJv4
    · refine ev_iconst dX12_liesBy_18 ?_
      refine ev_goto 23 dX12_liesBy_19 (by decide) ?_
      have e9 : v4 = true := hv4.trans ((if_pos h5))
      subst e9
      exact hJv4
theorem tX12_liesBy (hS : Sd M K P L) (hc : CIn P 75 92) (k0 : Int) (isUp : Bool) (μ : Mem) {o : Bool} (hf : fX12_liesBy k0 isUp μ = some o) : Cn l D cy g K K yX12_liesBy cX12_liesBy 3 (some .boolean) (rmd 3 0 0) [vr g 75, vi k0, vb isUp] M x (L μ) (PE (some (vb o)) M x (L μ)) :=
 Cn.of (by decide) (Nat.le_of_ble_eq_true rfl) (eX12_liesBy hS hc k0 isUp μ hf (PE_i _ _ _ _))
def fX12_gapsNow_b128 (v2 : Int) (v3 : Int) (v6 : Int) (v9 : Bool) (v10 : Int) (μ : Mem) : Option ((Bool × Int × Mem) ⊕ (Bool × Mem)) :=
  if w32 v10 < w32 (μ 81 0) then
    if v9 = true then
      (fX12_cakeOf v10 1 μ).bind fun v13 =>
      (fX12_cakeOf v6 1 μ).bind fun v14 =>
      lt (if w32 v13 ≤ w32 v14 then
          true
        else
          false) fun v15 =>
      some (.inl (v15, (v10 + 1), μ))
    else
      some (.inl (false, (v10 + 1), μ))
  else
    some (.inr (v9, μ))
set_option maxRecDepth 4000 in
theorem tX12_gapsNow_b128 (hS : Sd M K P L) (hc : CIn P 75 92) (v2 : Int) (v3 : Int) (v6 : Int) (v9 : Bool) (v10 : Int) (μ : Mem)  {o : (Bool × Int × Mem) ⊕ (Bool × Mem)} (hf : fX12_gapsNow_b128 v2 v3 v6 v9 v10 μ = some o) (hr : (Sum.elim (fun s : Bool × Int × Mem => Ev l D cy g K yX12_gapsNow cX12_gapsNow 6 (some .int) (rmd 5 0 0) (MX D cy g K (rmd 5 0 0) Φ) 0 0 M x (L s.2.2) 128 [(0, vr g 75), (1, vi v2), (2, vi v3), (3, vi v6), (4, vb s.1), (5, vi s.2.1)] []) (fun e : Bool × Mem => Ev l D cy g K yX12_gapsNow cX12_gapsNow 6 (some .int) (rmd 5 0 0) (MX D cy g K (rmd 5 0 0) Φ) 0 0 M x (L e.2) 171 [(0, vr g 75), (1, vi v2), (2, vi v3), (4, vb e.1)] [])) o) : Ev l D cy g K yX12_gapsNow cX12_gapsNow 6 (some .int) (rmd 5 0 0) (MX D cy g K (rmd 5 0 0) Φ) 0 0 M x (L μ) 128 [(0, vr g 75), (1, vi v2), (2, vi v3), (3, vi v6), (4, vb v9), (5, vi v10)] [] := by
  unfold fX12_gapsNow_b128 at hf
  refine ev_iload dX12_gapsNow_128 5 rfl ?_
  refine ev_aload_n dX12_gapsNow_130 0 rfl ?_
  refine cl_V1 (As := []) (st := [vi v10]) miX12_cakes (tX12_cakes hS (hc.w rfl rfl) μ (o := (μ 81 0)) rfl) dX12_gapsNow_131 lkX12_209 inX12_cakes rfl (hS.lt (hc 75 rfl)) rfl ⟨rfl, rfl⟩ ⟨⟨Nat.le_of_ble_eq_true rfl, Nat.le_of_ble_eq_true rfl⟩, Nat.zero_le _, Nat.zero_le _⟩ (Nat.le_of_ble_eq_true rfl) ?_
  refine ev_icmp_ge 171 dX12_gapsNow_134 (by decide) (fun h11 => ?_) (fun h11 => ?_)
  · rw [if_neg h11] at hf
    obtain rfl := Option.some.inj hf
    refine ev_sub [0, 1, 2, 4] rfl ?_
    exact hr
  · rw [if_pos h11] at hf
    refine ev_iload dX12_gapsNow_137 4 rfl ?_
    refine ev_ifb_eq 162 dX12_gapsNow_139 (by decide) (fun h12 => ?_) (fun h12 => ?_)
    · rw [if_neg h12] at hf
      refine ev_iconst dX12_gapsNow_162 ?_
      refine ev_istore (al2 := [(4, vi 0), (0, vr g 75), (1, vi v2), (2, vi v3), (3, vi v6), (5, vi v10)]) dX12_gapsNow_163 (by decide) rfl ?_
      refine ev_iinc (al2 := [(5, vi (v10 + 1)), (4, vi 0), (0, vr g 75), (1, vi v2), (2, vi v3), (3, vi v6)]) dX12_gapsNow_165 5 rfl (by decide) rfl ?_
      refine ev_goto 128 dX12_gapsNow_168 (by decide) ?_
      obtain rfl := Option.some.inj hf
      refine ev_sub [2, 3, 4, 5, 1, 0] rfl ?_
      exact hr
    · rw [if_pos h12] at hf
      refine ev_aload_n dX12_gapsNow_142 0 rfl ?_
      refine ev_iload dX12_gapsNow_143 5 rfl ?_
      refine ev_iconst dX12_gapsNow_145 ?_
      obtain ⟨v13, hv13, hf⟩ := Option.bind_eq_some_iff.mp hf
      refine cl_V1 (As := [vi v10, vi 1]) (st := []) miX12_cakeOf (tX12_cakeOf hS (hc.w rfl rfl) v10 1 μ hv13) dX12_gapsNow_146 lkX12_239 inX12_cakeOf rfl (hS.lt (hc 75 rfl)) rfl ⟨rfl, rfl⟩ ⟨⟨Nat.le_of_ble_eq_true rfl, Nat.le_of_ble_eq_true rfl⟩, Nat.zero_le _, Nat.zero_le _⟩ (Nat.le_of_ble_eq_true rfl) ?_
      refine ev_aload_n dX12_gapsNow_149 0 rfl ?_
      refine ev_iload_n dX12_gapsNow_150 3 rfl ?_
      refine ev_iconst dX12_gapsNow_151 ?_
      obtain ⟨v14, hv14, hf⟩ := Option.bind_eq_some_iff.mp hf
      refine cl_V1 (As := [vi v6, vi 1]) (st := [vi v13]) miX12_cakeOf (tX12_cakeOf hS (hc.w rfl rfl) v6 1 μ hv14) dX12_gapsNow_152 lkX12_239 inX12_cakeOf rfl (hS.lt (hc 75 rfl)) rfl ⟨rfl, rfl⟩ ⟨⟨Nat.le_of_ble_eq_true rfl, Nat.le_of_ble_eq_true rfl⟩, Nat.zero_le _, Nat.zero_le _⟩ (Nat.le_of_ble_eq_true rfl) ?_
      obtain ⟨v15, hv15, hf⟩ := lt_elim hf
      have hJv15 : Ev l D cy g K yX12_gapsNow cX12_gapsNow 6 (some .int) (rmd 5 0 0) (MX D cy g K (rmd 5 0 0) Φ) 0 0 M x (L μ) 163 [(0, vr g 75), (1, vi v2), (2, vi v3), (3, vi v6), (4, vb v9), (5, vi v10)] [vb v15] := by
        refine ev_istore (al2 := [(4, vb v15), (0, vr g 75), (1, vi v2), (2, vi v3), (3, vi v6), (5, vi v10)]) dX12_gapsNow_163 (by decide) rfl ?_
        refine ev_iinc (al2 := [(5, vi (v10 + 1)), (4, vb v15), (0, vr g 75), (1, vi v2), (2, vi v3), (3, vi v6)]) dX12_gapsNow_165 5 rfl (by decide) rfl ?_
        refine ev_goto 128 dX12_gapsNow_168 (by decide) ?_
        obtain rfl := Option.some.inj hf
        refine ev_sub [2, 3, 4, 5, 1, 0] rfl ?_
        exact hr
      refine ev_icmp_gt 162 dX12_gapsNow_155 (by decide) (fun h16 => ?_) (fun h16 => ?_)
      · refine ev_iconst dX12_gapsNow_162 ?_
        have e9 : v15 = false := hv15.trans ((if_neg h16))
        subst e9
        exact hJv15
      · refine ev_iconst dX12_gapsNow_158 ?_
        refine ev_goto 163 dX12_gapsNow_159 (by decide) ?_
        have e9 : v15 = true := hv15.trans ((if_pos h16))
        subst e9
        exact hJv15
def fX12_gapsNow_j171 (v18 : Int) (v19 : Int) (v20 : Bool) (μ : Mem) : Option ((Int × Int × Mem) ⊕ (Int × Mem)) :=
  lt (if v20 = true then
      0
    else
      1) fun v21 =>
  lt (v18 + v21) fun v23 =>
  some (.inl (v23, (v19 + 1), μ))
set_option maxRecDepth 4000 in
theorem tX12_gapsNow_j171 (hS : Sd M K P L) (hc : CIn P 75 92) (v18 : Int) (v19 : Int) (v20 : Bool) (μ : Mem)  {o : (Int × Int × Mem) ⊕ (Int × Mem)} (hf : fX12_gapsNow_j171 v18 v19 v20 μ = some o) (hr : (Sum.elim (fun s : Int × Int × Mem => Ev l D cy g K yX12_gapsNow cX12_gapsNow 6 (some .int) (rmd 5 0 0) (MX D cy g K (rmd 5 0 0) Φ) 0 0 M x (L s.2.2) 14 [(0, vr g 75), (1, vi s.1), (2, vi s.2.1)] []) (fun e : Int × Mem => Ev l D cy g K yX12_gapsNow cX12_gapsNow 6 (some .int) (rmd 5 0 0) (MX D cy g K (rmd 5 0 0) Φ) 0 0 M x (L e.2) 190 [(1, vi e.1)] [])) o) : Ev l D cy g K yX12_gapsNow cX12_gapsNow 6 (some .int) (rmd 5 0 0) (MX D cy g K (rmd 5 0 0) Φ) 0 0 M x (L μ) 171 [(0, vr g 75), (1, vi v18), (2, vi v19), (4, vb v20)] [] := by
  unfold fX12_gapsNow_j171 at hf
  refine ev_iload_n dX12_gapsNow_171 1 rfl ?_
  refine ev_iload dX12_gapsNow_172 3 rfl ?_
  obtain ⟨v21, hv21, hf⟩ := lt_elim hf
  have hJv21 : Ev l D cy g K yX12_gapsNow cX12_gapsNow 6 (some .int) (rmd 5 0 0) (MX D cy g K (rmd 5 0 0) Φ) 0 0 M x (L μ) 182 [(0, vr g 75), (1, vi v18), (2, vi v19), (4, vb v20)] [vi v21, vi v18] := by
    refine ev_iadd dX12_gapsNow_182 ?_
    obtain ⟨v23, hv23, hf⟩ := lt_elim hf
    refine ev_rni hv23 ?_
    refine ev_istore_n (al2 := [(1, vi v23), (0, vr g 75), (2, vi v19), (4, vb v20)]) dX12_gapsNow_183 1 rfl (by decide) rfl ?_
    refine ev_iinc (al2 := [(2, vi (v19 + 1)), (1, vi v23), (0, vr g 75), (4, vb v20)]) dX12_gapsNow_184 2 rfl (by decide) rfl ?_
    refine ev_goto 14 dX12_gapsNow_187 (by decide) ?_
    obtain rfl := Option.some.inj hf
    refine ev_sub [2, 1, 0] rfl ?_
    exact hr
  refine ev_ifb_eq 181 dX12_gapsNow_174 (by decide) (fun h22 => ?_) (fun h22 => ?_)
  · refine ev_iconst dX12_gapsNow_181 ?_
    have e9 : v21 = 1 := hv21.trans ((if_neg h22))
    subst e9
    exact hJv21
  · refine ev_iconst dX12_gapsNow_177 ?_
    refine ev_goto 182 dX12_gapsNow_178 (by decide) ?_
    have e9 : v21 = 0 := hv21.trans ((if_pos h22))
    subst e9
    exact hJv21
def fX12_gapsNow_j112 (v36 : Int) (v37 : Int) (w38 : Bool) (μ : Mem) : Option ((Int × Int × Mem) ⊕ (Int × Mem)) :=
  fX12_gapsNow_j171 v36 v37 w38 μ
set_option maxRecDepth 4000 in
theorem tX12_gapsNow_j112 (hS : Sd M K P L) (hc : CIn P 75 92) (v36 : Int) (v37 : Int) (w38 : Bool) (μ : Mem)  {o : (Int × Int × Mem) ⊕ (Int × Mem)} (hf : fX12_gapsNow_j112 v36 v37 w38 μ = some o) (hr : (Sum.elim (fun s : Int × Int × Mem => Ev l D cy g K yX12_gapsNow cX12_gapsNow 6 (some .int) (rmd 5 0 0) (MX D cy g K (rmd 5 0 0) Φ) 0 0 M x (L s.2.2) 14 [(0, vr g 75), (1, vi s.1), (2, vi s.2.1)] []) (fun e : Int × Mem => Ev l D cy g K yX12_gapsNow cX12_gapsNow 6 (some .int) (rmd 5 0 0) (MX D cy g K (rmd 5 0 0) Φ) 0 0 M x (L e.2) 190 [(1, vi e.1)] [])) o) : Ev l D cy g K yX12_gapsNow cX12_gapsNow 6 (some .int) (rmd 5 0 0) (MX D cy g K (rmd 5 0 0) Φ) 0 0 M x (L μ) 112 [(0, vr g 75), (1, vi v36), (2, vi v37)] [vb w38] := by
  unfold fX12_gapsNow_j112 at hf
  refine ev_istore (al2 := [(4, vb w38), (0, vr g 75), (1, vi v36), (2, vi v37)]) dX12_gapsNow_112 (by decide) rfl ?_
  refine ev_goto 171 dX12_gapsNow_114 (by decide) ?_
  refine ev_sub [1, 2, 3, 0] rfl ?_
  exact tX12_gapsNow_j171 hS hc v36 v37 w38 μ hf hr
def fX12_gapsNow_j111 (v34 : Int) (v35 : Int) (μ : Mem) : Option ((Int × Int × Mem) ⊕ (Int × Mem)) :=
  fX12_gapsNow_j112 v34 v35 false μ
set_option maxRecDepth 4000 in
theorem tX12_gapsNow_j111 (hS : Sd M K P L) (hc : CIn P 75 92) (v34 : Int) (v35 : Int) (μ : Mem)  {o : (Int × Int × Mem) ⊕ (Int × Mem)} (hf : fX12_gapsNow_j111 v34 v35 μ = some o) (hr : (Sum.elim (fun s : Int × Int × Mem => Ev l D cy g K yX12_gapsNow cX12_gapsNow 6 (some .int) (rmd 5 0 0) (MX D cy g K (rmd 5 0 0) Φ) 0 0 M x (L s.2.2) 14 [(0, vr g 75), (1, vi s.1), (2, vi s.2.1)] []) (fun e : Int × Mem => Ev l D cy g K yX12_gapsNow cX12_gapsNow 6 (some .int) (rmd 5 0 0) (MX D cy g K (rmd 5 0 0) Φ) 0 0 M x (L e.2) 190 [(1, vi e.1)] [])) o) : Ev l D cy g K yX12_gapsNow cX12_gapsNow 6 (some .int) (rmd 5 0 0) (MX D cy g K (rmd 5 0 0) Φ) 0 0 M x (L μ) 111 [(0, vr g 75), (1, vi v34), (2, vi v35)] [] := by
  unfold fX12_gapsNow_j111 at hf
  refine ev_iconst dX12_gapsNow_111 ?_
  refine ev_sub [0, 1, 2] rfl ?_
  exact tX12_gapsNow_j112 hS hc v34 v35 false μ hf hr
def fX12_gapsNow_j78 (v28 : Int) (v29 : Int) (v30 : Int) (v31 : Int) (μ : Mem) : Option ((Int × Int × Mem) ⊕ (Int × Mem)) :=
  (fX12_isNextWider v30 v31 μ).bind fun v32 =>
  if v32 = true then
    (fX12_liesBy v30 true μ).bind fun v42 =>
    if v42 = true then
      (fX12_liesBy v31 true μ).bind fun v46 =>
      lt (if v46 = true then
          true
        else
          false) fun v47 =>
      fX12_gapsNow_j171 v28 v29 v47 μ
    else
      fX12_gapsNow_j111 v28 v29 μ
  else
    fX12_gapsNow_j111 v28 v29 μ
set_option maxRecDepth 4000 in
theorem tX12_gapsNow_j78 (hS : Sd M K P L) (hc : CIn P 75 92) (v28 : Int) (v29 : Int) (v30 : Int) (v31 : Int) (μ : Mem)  {o : (Int × Int × Mem) ⊕ (Int × Mem)} (hf : fX12_gapsNow_j78 v28 v29 v30 v31 μ = some o) (hr : (Sum.elim (fun s : Int × Int × Mem => Ev l D cy g K yX12_gapsNow cX12_gapsNow 6 (some .int) (rmd 5 0 0) (MX D cy g K (rmd 5 0 0) Φ) 0 0 M x (L s.2.2) 14 [(0, vr g 75), (1, vi s.1), (2, vi s.2.1)] []) (fun e : Int × Mem => Ev l D cy g K yX12_gapsNow cX12_gapsNow 6 (some .int) (rmd 5 0 0) (MX D cy g K (rmd 5 0 0) Φ) 0 0 M x (L e.2) 190 [(1, vi e.1)] [])) o) : Ev l D cy g K yX12_gapsNow cX12_gapsNow 6 (some .int) (rmd 5 0 0) (MX D cy g K (rmd 5 0 0) Φ) 0 0 M x (L μ) 78 [(0, vr g 75), (1, vi v28), (2, vi v29), (3, vi v30), (5, vi v31)] [] := by
  unfold fX12_gapsNow_j78 at hf
  refine ev_aload_n dX12_gapsNow_78 0 rfl ?_
  refine ev_iload_n dX12_gapsNow_79 3 rfl ?_
  refine ev_iload dX12_gapsNow_80 4 rfl ?_
  obtain ⟨v32, hv32, hf⟩ := Option.bind_eq_some_iff.mp hf
  refine cl_V1 (As := [vi v30, vi v31]) (st := []) miX12_isNextWider (tX12_isNextWider hS (hc.w rfl rfl) v30 v31 μ hv32) dX12_gapsNow_82 lkX12_341 inX12_isNextWider rfl (hS.lt (hc 75 rfl)) rfl ⟨rfl, rfl⟩ ⟨⟨Nat.le_of_ble_eq_true rfl, Nat.le_of_ble_eq_true rfl⟩, Nat.zero_le _, Nat.zero_le _⟩ (Nat.le_of_ble_eq_true rfl) ?_
  refine ev_ifb_eq 111 dX12_gapsNow_85 (by decide) (fun h33 => ?_) (fun h33 => ?_)
  · rw [if_neg h33] at hf
    refine ev_sub [0, 1, 2] rfl ?_
    exact tX12_gapsNow_j111 hS hc v28 v29 μ hf hr
  · rw [if_pos h33] at hf
    refine ev_aload_n dX12_gapsNow_88 0 rfl ?_
    refine ev_iload_n dX12_gapsNow_89 3 rfl ?_
    refine ev_iconst dX12_gapsNow_90 ?_
    obtain ⟨v42, hv42, hf⟩ := Option.bind_eq_some_iff.mp hf
    refine cl_V1 (As := [vi v30, vb true]) (st := []) miX12_liesBy (tX12_liesBy hS (hc.w rfl rfl) v30 true μ hv42) dX12_gapsNow_91 lkX12_345 inX12_liesBy rfl (hS.lt (hc 75 rfl)) rfl ⟨rfl, rfl⟩ ⟨⟨Nat.le_of_ble_eq_true rfl, Nat.le_of_ble_eq_true rfl⟩, Nat.zero_le _, Nat.zero_le _⟩ (Nat.le_of_ble_eq_true rfl) ?_
    refine ev_ifb_eq 111 dX12_gapsNow_94 (by decide) (fun h43 => ?_) (fun h43 => ?_)
    · rw [if_neg h43] at hf
      refine ev_sub [0, 1, 2] rfl ?_
      exact tX12_gapsNow_j111 hS hc v28 v29 μ hf hr
    · rw [if_pos h43] at hf
      refine ev_aload_n dX12_gapsNow_97 0 rfl ?_
      refine ev_iload dX12_gapsNow_98 4 rfl ?_
      refine ev_iconst dX12_gapsNow_100 ?_
      obtain ⟨v46, hv46, hf⟩ := Option.bind_eq_some_iff.mp hf
      refine cl_V1 (As := [vi v31, vb true]) (st := []) miX12_liesBy (tX12_liesBy hS (hc.w rfl rfl) v31 true μ hv46) dX12_gapsNow_101 lkX12_345 inX12_liesBy rfl (hS.lt (hc 75 rfl)) rfl ⟨rfl, rfl⟩ ⟨⟨Nat.le_of_ble_eq_true rfl, Nat.le_of_ble_eq_true rfl⟩, Nat.zero_le _, Nat.zero_le _⟩ (Nat.le_of_ble_eq_true rfl) ?_
      obtain ⟨v47, hv47, hf⟩ := lt_elim hf
      have hJv47 : Ev l D cy g K yX12_gapsNow cX12_gapsNow 6 (some .int) (rmd 5 0 0) (MX D cy g K (rmd 5 0 0) Φ) 0 0 M x (L μ) 112 [(0, vr g 75), (1, vi v28), (2, vi v29), (3, vi v30), (5, vi v31)] [vb v47] := by
        refine ev_istore (al2 := [(4, vb v47), (0, vr g 75), (1, vi v28), (2, vi v29), (3, vi v30), (5, vi v31)]) dX12_gapsNow_112 (by decide) rfl ?_
        refine ev_goto 171 dX12_gapsNow_114 (by decide) ?_
        refine ev_sub [1, 2, 3, 0] rfl ?_
        exact tX12_gapsNow_j171 hS hc v28 v29 v47 μ hf hr
      refine ev_ifb_eq 111 dX12_gapsNow_104 (by decide) (fun h48 => ?_) (fun h48 => ?_)
      · refine ev_iconst dX12_gapsNow_111 ?_
        have e9 : v47 = false := hv47.trans ((if_neg h48))
        subst e9
        exact hJv47
      · refine ev_iconst dX12_gapsNow_107 ?_
        refine ev_goto 112 dX12_gapsNow_108 (by decide) ?_
        have e9 : v47 = true := hv47.trans ((if_pos h48))
        subst e9
        exact hJv47
def fX12_gapsNow_j107 (v60 : Int) (v61 : Int) (μ : Mem) : Option ((Int × Int × Mem) ⊕ (Int × Mem)) :=
  fX12_gapsNow_j112 v60 v61 true μ
set_option maxRecDepth 4000 in
theorem tX12_gapsNow_j107 (hS : Sd M K P L) (hc : CIn P 75 92) (v60 : Int) (v61 : Int) (μ : Mem)  {o : (Int × Int × Mem) ⊕ (Int × Mem)} (hf : fX12_gapsNow_j107 v60 v61 μ = some o) (hr : (Sum.elim (fun s : Int × Int × Mem => Ev l D cy g K yX12_gapsNow cX12_gapsNow 6 (some .int) (rmd 5 0 0) (MX D cy g K (rmd 5 0 0) Φ) 0 0 M x (L s.2.2) 14 [(0, vr g 75), (1, vi s.1), (2, vi s.2.1)] []) (fun e : Int × Mem => Ev l D cy g K yX12_gapsNow cX12_gapsNow 6 (some .int) (rmd 5 0 0) (MX D cy g K (rmd 5 0 0) Φ) 0 0 M x (L e.2) 190 [(1, vi e.1)] [])) o) : Ev l D cy g K yX12_gapsNow cX12_gapsNow 6 (some .int) (rmd 5 0 0) (MX D cy g K (rmd 5 0 0) Φ) 0 0 M x (L μ) 107 [(0, vr g 75), (1, vi v60), (2, vi v61)] [] := by
  unfold fX12_gapsNow_j107 at hf
  refine ev_iconst dX12_gapsNow_107 ?_
  refine ev_goto 112 dX12_gapsNow_108 (by decide) ?_
  refine ev_sub [0, 1, 2] rfl ?_
  exact tX12_gapsNow_j112 hS hc v60 v61 true μ hf hr
def fX12_gapsNow_b14 (v2 : Int) (v3 : Int) (μ : Mem) : Option ((Int × Int × Mem) ⊕ (Int × Mem)) :=
  if w32 v3 < w32 (μ 81 0) then
    gd (0 ≤ w32 v3 ∧ w32 v3 < 5) <|
    lt (μ 90 (w32 v3).toNat) fun v6 =>
    if w32 (v3 + 1) < w32 (μ 81 0) then
      gd (0 ≤ w32 (v3 + 1) ∧ w32 (v3 + 1) < 5) <|
      lt (μ 90 (w32 (v3 + 1)).toNat) fun v25 =>
      (fX12_isNextWider v25 v6 μ).bind fun v26 =>
      if v26 = true then
        (fX12_liesBy v6 false μ).bind fun v52 =>
        if v52 = true then
          (fX12_liesBy v25 false μ).bind fun v58 =>
          if v58 = true then
            fX12_gapsNow_j107 v2 v3 μ
          else
            fX12_gapsNow_j78 v2 v3 v6 v25 μ
        else
          fX12_gapsNow_j78 v2 v3 v6 v25 μ
      else
        fX12_gapsNow_j78 v2 v3 v6 v25 μ
    else
      (fX12_liesBy v6 false μ).bind fun v8 =>
      (loopN (fun s => fX12_gapsNow_b128 v2 v3 v6 s.1 s.2.1 s.2.2) FU (v8, 0, μ)).bind fun q17 =>
      fX12_gapsNow_j171 v2 v3 q17.1 q17.2
  else
    some (.inr (v2, μ))
set_option maxRecDepth 4000 in
theorem tX12_gapsNow_b14 (hS : Sd M K P L) (hc : CIn P 75 92) (v2 : Int) (v3 : Int) (μ : Mem)  {o : (Int × Int × Mem) ⊕ (Int × Mem)} (hf : fX12_gapsNow_b14 v2 v3 μ = some o) (hr : (Sum.elim (fun s : Int × Int × Mem => Ev l D cy g K yX12_gapsNow cX12_gapsNow 6 (some .int) (rmd 5 0 0) (MX D cy g K (rmd 5 0 0) Φ) 0 0 M x (L s.2.2) 14 [(0, vr g 75), (1, vi s.1), (2, vi s.2.1)] []) (fun e : Int × Mem => Ev l D cy g K yX12_gapsNow cX12_gapsNow 6 (some .int) (rmd 5 0 0) (MX D cy g K (rmd 5 0 0) Φ) 0 0 M x (L e.2) 190 [(1, vi e.1)] [])) o) : Ev l D cy g K yX12_gapsNow cX12_gapsNow 6 (some .int) (rmd 5 0 0) (MX D cy g K (rmd 5 0 0) Φ) 0 0 M x (L μ) 14 [(0, vr g 75), (1, vi v2), (2, vi v3)] [] := by
  unfold fX12_gapsNow_b14 at hf
  refine ev_iload_n dX12_gapsNow_14 2 rfl ?_
  refine ev_aload_n dX12_gapsNow_15 0 rfl ?_
  refine cl_V1 (As := []) (st := [vi v3]) miX12_cakes (tX12_cakes hS (hc.w rfl rfl) μ (o := (μ 81 0)) rfl) dX12_gapsNow_16 lkX12_209 inX12_cakes rfl (hS.lt (hc 75 rfl)) rfl ⟨rfl, rfl⟩ ⟨⟨Nat.le_of_ble_eq_true rfl, Nat.le_of_ble_eq_true rfl⟩, Nat.zero_le _, Nat.zero_le _⟩ (Nat.le_of_ble_eq_true rfl) ?_
  refine ev_icmp_ge 190 dX12_gapsNow_19 (by decide) (fun h4 => ?_) (fun h4 => ?_)
  · rw [if_neg h4] at hf
    obtain rfl := Option.some.inj hf
    refine ev_sub [1] rfl ?_
    exact hr
  · rw [if_pos h4] at hf
    refine ev_aload_n dX12_gapsNow_22 0 rfl ?_
    refine ev_getK 23 dX12_gapsNow_23 (hS.lt (hc 75 rfl)) rfl (hS.K1 (hc 75 rfl) rfl) ciX12 (by decide) rfl flX12_101 ?_
    refine ev_iload_n dX12_gapsNow_26 2 rfl ?_
    obtain ⟨g5, hf⟩ := gd_elim hf
    refine ev_iald dX12_gapsNow_27 (hS.lt (hc 90 rfl)) rfl (hS.mem _ (hc 90 rfl)) g5 ?_
    obtain ⟨v6, hv6, hf⟩ := lt_elim hf
    refine ev_rni hv6 ?_
    refine ev_istore_n (al2 := [(3, vi v6), (0, vr g 75), (1, vi v2), (2, vi v3)]) dX12_gapsNow_28 3 rfl (by decide) rfl ?_
    refine ev_iload_n dX12_gapsNow_29 3 rfl ?_
    refine ev_iconst dX12_gapsNow_30 ?_
    refine ev_iadd dX12_gapsNow_31 ?_
    refine ev_aload_n dX12_gapsNow_32 1 rfl ?_
    refine cl_V1 (As := []) (st := [vi (v3 + 1)]) miX12_cakes (tX12_cakes hS (hc.w rfl rfl) μ (o := (μ 81 0)) rfl) dX12_gapsNow_33 lkX12_209 inX12_cakes rfl (hS.lt (hc 75 rfl)) rfl ⟨rfl, rfl⟩ ⟨⟨Nat.le_of_ble_eq_true rfl, Nat.le_of_ble_eq_true rfl⟩, Nat.zero_le _, Nat.zero_le _⟩ (Nat.le_of_ble_eq_true rfl) ?_
    refine ev_icmp_ge 117 dX12_gapsNow_36 (by decide) (fun h7 => ?_) (fun h7 => ?_)
    · rw [if_neg h7] at hf
      refine ev_aload_n dX12_gapsNow_117 1 rfl ?_
      refine ev_iload_n dX12_gapsNow_118 0 rfl ?_
      refine ev_iconst dX12_gapsNow_119 ?_
      obtain ⟨v8, hv8, hf⟩ := Option.bind_eq_some_iff.mp hf
      refine cl_V1 (As := [vi v6, vb false]) (st := []) miX12_liesBy (tX12_liesBy hS (hc.w rfl rfl) v6 false μ hv8) dX12_gapsNow_120 lkX12_345 inX12_liesBy rfl (hS.lt (hc 75 rfl)) rfl ⟨rfl, rfl⟩ ⟨⟨Nat.le_of_ble_eq_true rfl, Nat.le_of_ble_eq_true rfl⟩, Nat.zero_le _, Nat.zero_le _⟩ (Nat.le_of_ble_eq_true rfl) ?_
      refine ev_istore (al2 := [(4, vb v8), (3, vi v6), (0, vr g 75), (1, vi v2), (2, vi v3)]) dX12_gapsNow_123 (by decide) rfl ?_
      refine ev_iconst dX12_gapsNow_125 ?_
      refine ev_istore (al2 := [(5, vi 0), (4, vb v8), (3, vi v6), (0, vr g 75), (1, vi v2), (2, vi v3)]) dX12_gapsNow_126 (by decide) rfl ?_
      obtain ⟨q17, hq17, hf⟩ := Option.bind_eq_some_iff.mp hf
      refine ev_sub [3, 4, 5, 2, 1, 0] rfl ?_
      refine loop_ev (H := (fun s : Bool × Int × Mem => Ev l D cy g K yX12_gapsNow cX12_gapsNow 6 (some .int) (rmd 5 0 0) (MX D cy g K (rmd 5 0 0) Φ) 0 0 M x (L s.2.2) 128 [(0, vr g 75), (1, vi v2), (2, vi v3), (3, vi v6), (4, vb s.1), (5, vi s.2.1)] [])) (Hx := (fun e : Bool × Mem => Ev l D cy g K yX12_gapsNow cX12_gapsNow 6 (some .int) (rmd 5 0 0) (MX D cy g K (rmd 5 0 0) Φ) 0 0 M x (L e.2) 171 [(0, vr g 75), (1, vi v2), (2, vi v3), (4, vb e.1)] [])) (fun s o hb hr => tX12_gapsNow_b128 hS hc v2 v3 v6 s.1 s.2.1 s.2.2 hb hr) FU _ _ hq17 ?_
      show Ev l D cy g K yX12_gapsNow cX12_gapsNow 6 (some .int) (rmd 5 0 0) (MX D cy g K (rmd 5 0 0) Φ) 0 0 M x (L q17.2) 171 [(0, vr g 75), (1, vi v2), (2, vi v3), (4, vb q17.1)] []
      refine ev_sub [0, 1, 2, 3] rfl ?_
      exact tX12_gapsNow_j171 hS hc v2 v3 q17.1 q17.2 hf hr
    · rw [if_pos h7] at hf
      refine ev_aload_n dX12_gapsNow_39 1 rfl ?_
      refine ev_getK 23 dX12_gapsNow_40 (hS.lt (hc 75 rfl)) rfl (hS.K1 (hc 75 rfl) rfl) ciX12 (by decide) rfl flX12_101 ?_
      refine ev_iload_n dX12_gapsNow_43 3 rfl ?_
      refine ev_iconst dX12_gapsNow_44 ?_
      refine ev_iadd dX12_gapsNow_45 ?_
      obtain ⟨g24, hf⟩ := gd_elim hf
      refine ev_iald dX12_gapsNow_46 (hS.lt (hc 90 rfl)) rfl (hS.mem _ (hc 90 rfl)) g24 ?_
      obtain ⟨v25, hv25, hf⟩ := lt_elim hf
      refine ev_rni hv25 ?_
      refine ev_istore (al2 := [(5, vi v25), (3, vi v6), (0, vr g 75), (1, vi v2), (2, vi v3)]) dX12_gapsNow_47 (by decide) rfl ?_
      refine ev_aload_n dX12_gapsNow_49 2 rfl ?_
      refine ev_iload dX12_gapsNow_50 0 rfl ?_
      refine ev_iload_n dX12_gapsNow_52 1 rfl ?_
      obtain ⟨v26, hv26, hf⟩ := Option.bind_eq_some_iff.mp hf
      refine cl_V1 (As := [vi v25, vi v6]) (st := []) miX12_isNextWider (tX12_isNextWider hS (hc.w rfl rfl) v25 v6 μ hv26) dX12_gapsNow_53 lkX12_341 inX12_isNextWider rfl (hS.lt (hc 75 rfl)) rfl ⟨rfl, rfl⟩ ⟨⟨Nat.le_of_ble_eq_true rfl, Nat.le_of_ble_eq_true rfl⟩, Nat.zero_le _, Nat.zero_le _⟩ (Nat.le_of_ble_eq_true rfl) ?_
      refine ev_ifb_eq 78 dX12_gapsNow_56 (by decide) (fun h27 => ?_) (fun h27 => ?_)
      · rw [if_neg h27] at hf
        refine ev_sub [2, 3, 4, 1, 0] rfl ?_
        exact tX12_gapsNow_j78 hS hc v2 v3 v6 v25 μ hf hr
      · rw [if_pos h27] at hf
        refine ev_aload_n dX12_gapsNow_59 2 rfl ?_
        refine ev_iload_n dX12_gapsNow_60 1 rfl ?_
        refine ev_iconst dX12_gapsNow_61 ?_
        obtain ⟨v52, hv52, hf⟩ := Option.bind_eq_some_iff.mp hf
        refine cl_V1 (As := [vi v6, vb false]) (st := []) miX12_liesBy (tX12_liesBy hS (hc.w rfl rfl) v6 false μ hv52) dX12_gapsNow_62 lkX12_345 inX12_liesBy rfl (hS.lt (hc 75 rfl)) rfl ⟨rfl, rfl⟩ ⟨⟨Nat.le_of_ble_eq_true rfl, Nat.le_of_ble_eq_true rfl⟩, Nat.zero_le _, Nat.zero_le _⟩ (Nat.le_of_ble_eq_true rfl) ?_
        refine ev_ifb_eq 78 dX12_gapsNow_65 (by decide) (fun h53 => ?_) (fun h53 => ?_)
        · rw [if_neg h53] at hf
          refine ev_sub [2, 3, 4, 1, 0] rfl ?_
          exact tX12_gapsNow_j78 hS hc v2 v3 v6 v25 μ hf hr
        · rw [if_pos h53] at hf
          refine ev_aload_n dX12_gapsNow_68 2 rfl ?_
          refine ev_iload dX12_gapsNow_69 0 rfl ?_
          refine ev_iconst dX12_gapsNow_71 ?_
          obtain ⟨v58, hv58, hf⟩ := Option.bind_eq_some_iff.mp hf
          refine cl_V1 (As := [vi v25, vb false]) (st := []) miX12_liesBy (tX12_liesBy hS (hc.w rfl rfl) v25 false μ hv58) dX12_gapsNow_72 lkX12_345 inX12_liesBy rfl (hS.lt (hc 75 rfl)) rfl ⟨rfl, rfl⟩ ⟨⟨Nat.le_of_ble_eq_true rfl, Nat.le_of_ble_eq_true rfl⟩, Nat.zero_le _, Nat.zero_le _⟩ (Nat.le_of_ble_eq_true rfl) ?_
          refine ev_ifb_ne 107 dX12_gapsNow_75 (by decide) (fun h59 => ?_) (fun h59 => ?_)
          · rw [if_pos h59] at hf
            refine ev_sub [2, 3, 4] rfl ?_
            exact tX12_gapsNow_j107 hS hc v2 v3 μ hf hr
          · rw [if_neg h59] at hf
            refine ev_sub [2, 3, 4, 1, 0] rfl ?_
            exact tX12_gapsNow_j78 hS hc v2 v3 v6 v25 μ hf hr
def fX12_gapsNow  (μ : Mem) : Option (Int × Mem) :=
  (fX12_lays (μ 88 0) μ).bind fun μ1 =>
  (loopN (fun s => fX12_gapsNow_b14 s.1 s.2.1 s.2.2) FU (0, 0, μ1)).bind fun q69 =>
  some ((q69.1, q69.2))
set_option maxRecDepth 4000 in
theorem eX12_gapsNow (hS : Sd M K P L) (hc : CIn P 75 92)  (μ : Mem)  {o : Int × Mem} (hf : fX12_gapsNow  μ = some o) (hr : (fun o : Int × Mem => Φ (some (vi o.1)) M x (L o.2)) o) : Ev l D cy g K yX12_gapsNow cX12_gapsNow 6 (some .int) (rmd 5 0 0) (MX D cy g K (rmd 5 0 0) Φ) 0 0 M x (L μ) 0 [(0, vr g 75)] [] := by
  unfold fX12_gapsNow at hf
  refine ev_aload_n dX12_gapsNow_0 0 rfl ?_
  refine ev_aload_n dX12_gapsNow_1 0 rfl ?_
  refine ev_getK 19 dX12_gapsNow_2 (hS.lt (hc 75 rfl)) rfl (hS.K1 (hc 75 rfl) rfl) ciX12 (by decide) rfl flX12_94 ?_
  refine ev_iconst dX12_gapsNow_5 ?_
  refine ev_iald dX12_gapsNow_6 (hS.lt (hc 88 rfl)) rfl (hS.mem _ (hc 88 rfl)) ⟨by decide, by decide⟩ ?_
  refine ev_rn (w := vi (μ 88 0)) (by rw [show (w32 0).toNat = 0 from by decide]) ?_
  obtain ⟨μ1, hμ1, hf⟩ := Option.bind_eq_some_iff.mp hf
  refine cl_V0 (As := [vi (μ 88 0)]) (st := []) miX12_lays (tX12_lays hS (hc.w rfl rfl) (μ 88 0) μ hμ1) dX12_gapsNow_7 lkX12_274 inX12_lays rfl (hS.lt (hc 75 rfl)) rfl ⟨rfl, rfl⟩ ⟨⟨Nat.le_of_ble_eq_true rfl, Nat.le_of_ble_eq_true rfl⟩, Nat.zero_le _, Nat.zero_le _⟩ (Nat.le_of_ble_eq_true rfl) ?_
  refine ev_iconst dX12_gapsNow_10 ?_
  refine ev_istore_n (al2 := [(1, vi 0), (0, vr g 75)]) dX12_gapsNow_11 1 rfl (by decide) rfl ?_
  refine ev_iconst dX12_gapsNow_12 ?_
  refine ev_istore_n (al2 := [(2, vi 0), (1, vi 0), (0, vr g 75)]) dX12_gapsNow_13 2 rfl (by decide) rfl ?_
  obtain ⟨q69, hq69, hf⟩ := Option.bind_eq_some_iff.mp hf
  refine ev_sub [2, 1, 0] rfl ?_
  refine loop_ev (H := (fun s : Int × Int × Mem => Ev l D cy g K yX12_gapsNow cX12_gapsNow 6 (some .int) (rmd 5 0 0) (MX D cy g K (rmd 5 0 0) Φ) 0 0 M x (L s.2.2) 14 [(0, vr g 75), (1, vi s.1), (2, vi s.2.1)] [])) (Hx := (fun e : Int × Mem => Ev l D cy g K yX12_gapsNow cX12_gapsNow 6 (some .int) (rmd 5 0 0) (MX D cy g K (rmd 5 0 0) Φ) 0 0 M x (L e.2) 190 [(1, vi e.1)] [])) (fun s o hb hr => tX12_gapsNow_b14 hS hc s.1 s.2.1 s.2.2 hb hr) FU _ _ hq69 ?_
  show Ev l D cy g K yX12_gapsNow cX12_gapsNow 6 (some .int) (rmd 5 0 0) (MX D cy g K (rmd 5 0 0) Φ) 0 0 M x (L q69.2) 190 [(1, vi q69.1)] []
  refine ev_iload_n dX12_gapsNow_190 0 rfl ?_
  obtain rfl := Option.some.inj hf
  exact ev_iret dX12_gapsNow_191 rfl ⟨Nat.zero_le _, Nat.zero_le _⟩ hr
theorem tX12_gapsNow (hS : Sd M K P L) (hc : CIn P 75 92) (μ : Mem) {o : Int × Mem} (hf : fX12_gapsNow μ = some o) : Cn l D cy g K K yX12_gapsNow cX12_gapsNow 6 (some .int) (rmd 5 0 0) [vr g 75] M x (L μ) (PE (some (vi o.1)) M x (L o.2)) :=
 Cn.of (by decide) (Nat.le_of_ble_eq_true rfl) (eX12_gapsNow hS hc μ hf (PE_i _ _ _ _))
def fX12_sharp  (μ : Mem) : Option (Bool × Mem) :=
  lt (upd2 μ 75 0 0) fun μ1 =>
  (fX12_laysFewest μ1).bind fun μ2 =>
  (fX12_leastOf (μ2 88 0) μ2).bind fun v3 =>
  (fX12_gapsNow μ2).bind fun q4 =>
  lt (if w32 v3 = w32 q4.1 then
      true
    else
      false) fun v5 =>
  some ((v5, q4.2))
set_option maxRecDepth 4000 in
theorem eX12_sharp (hS : Sd M K P L) (hc : CIn P 75 93)  (μ : Mem)  {o : Bool × Mem} (hf : fX12_sharp  μ = some o) (hr : (fun o : Bool × Mem => Φ (some (vb o.1)) M x (L o.2)) o) : Ev l D cy g K yX12_sharp cX12_sharp 1 (some .boolean) (rmd 7 0 0) (MX D cy g K (rmd 7 0 0) Φ) 0 0 M x (L μ) 0 [(0, vr g 75)] [] := by
  unfold fX12_sharp at hf
  refine ev_aload_n dX12_sharp_0 0 rfl ?_
  refine ev_iconst dX12_sharp_1 ?_
  obtain ⟨μ1, hμ1, hf⟩ := lt_elim hf
  refine ev_putI 0 dX12_sharp_2 (hS.lt (hc 75 rfl)) rfl ciX12 (by decide) (Or.inl rfl) rfl rfl flX12_1 (hS.up (hc 75 rfl) hμ1) ?_
  refine ev_aload_n dX12_sharp_5 0 rfl ?_
  obtain ⟨μ2, hμ2, hf⟩ := Option.bind_eq_some_iff.mp hf
  refine cl_V0 (As := []) (st := []) miX12_laysFewest (tX12_laysFewest hS (hc.w rfl rfl) μ1 hμ2) dX12_sharp_6 lkX12_315 inX12_laysFewest rfl (hS.lt (hc 75 rfl)) rfl ⟨rfl, rfl⟩ ⟨⟨Nat.le_of_ble_eq_true rfl, Nat.le_of_ble_eq_true rfl⟩, Nat.zero_le _, Nat.zero_le _⟩ (Nat.le_of_ble_eq_true rfl) ?_
  refine ev_aload_n dX12_sharp_9 0 rfl ?_
  refine ev_aload_n dX12_sharp_10 0 rfl ?_
  refine ev_getK 19 dX12_sharp_11 (hS.lt (hc 75 rfl)) rfl (hS.K1 (hc 75 rfl) rfl) ciX12 (by decide) rfl flX12_94 ?_
  refine ev_iconst dX12_sharp_14 ?_
  refine ev_iald dX12_sharp_15 (hS.lt (hc 88 rfl)) rfl (hS.mem _ (hc 88 rfl)) ⟨by decide, by decide⟩ ?_
  refine ev_rn (w := vi (μ2 88 0)) (by rw [show (w32 0).toNat = 0 from by decide]) ?_
  obtain ⟨v3, hv3, hf⟩ := Option.bind_eq_some_iff.mp hf
  refine cl_V1 (As := [vi (μ2 88 0)]) (st := []) miX12_leastOf (tX12_leastOf hS (hc.w rfl rfl) (μ2 88 0) μ2 hv3) dX12_sharp_16 lkX12_318 inX12_leastOf rfl (hS.lt (hc 75 rfl)) rfl ⟨rfl, rfl⟩ ⟨⟨Nat.le_of_ble_eq_true rfl, Nat.le_of_ble_eq_true rfl⟩, Nat.zero_le _, Nat.zero_le _⟩ (Nat.le_of_ble_eq_true rfl) ?_
  refine ev_aload_n dX12_sharp_19 0 rfl ?_
  obtain ⟨q4, hq4, hf⟩ := Option.bind_eq_some_iff.mp hf
  refine cl_V1 (As := []) (st := [vi v3]) miX12_gapsNow (tX12_gapsNow hS (hc.w rfl rfl) μ2 hq4) dX12_sharp_20 lkX12_330 inX12_gapsNow rfl (hS.lt (hc 75 rfl)) rfl ⟨rfl, rfl⟩ ⟨⟨Nat.le_of_ble_eq_true rfl, Nat.le_of_ble_eq_true rfl⟩, Nat.zero_le _, Nat.zero_le _⟩ (Nat.le_of_ble_eq_true rfl) ?_
  obtain ⟨v5, hv5, hf⟩ := lt_elim hf
  have hJv5 : Ev l D cy g K yX12_sharp cX12_sharp 1 (some .boolean) (rmd 7 0 0) (MX D cy g K (rmd 7 0 0) Φ) 0 0 M x (L q4.2) 31 [(0, vr g 75)] [vb v5] := by
    obtain rfl := Option.some.inj hf
    exact ev_bret (b := v5) dX12_sharp_31 rfl ⟨Nat.zero_le _, Nat.zero_le _⟩ hr
  refine ev_icmp_ne 30 dX12_sharp_23 (by decide) (fun h6 => ?_) (fun h6 => ?_)
  · refine ev_iconst dX12_sharp_30 ?_
    have e9 : v5 = false := hv5.trans ((if_neg h6))
    subst e9
    exact hJv5
  · refine ev_iconst dX12_sharp_26 ?_
    refine ev_goto 31 dX12_sharp_27 (by decide) ?_
    have e9 : v5 = true := hv5.trans ((if_pos h6))
    subst e9
    exact hJv5
theorem tX12_sharp (hS : Sd M K P L) (hc : CIn P 75 93) (μ : Mem) {o : Bool × Mem} (hf : fX12_sharp μ = some o) : Cn l D cy g K K yX12_sharp cX12_sharp 1 (some .boolean) (rmd 7 0 0) [vr g 75] M x (L μ) (PE (some (vb o.1)) M x (L o.2)) :=
 Cn.of (by decide) (Nat.le_of_ble_eq_true rfl) (eX12_sharp hS hc μ hf (PE_i _ _ _ _))
def fX12_laysCheap_b16 (v3 : Int) (μ : Mem) : Option ((Int × Mem) ⊕ (Mem)) :=
  (fX12_stacks μ).bind fun v4 =>
  if w32 v3 < w32 v4 then
    (fX12_lays v3 μ).bind fun μ6 =>
    (fX12_isServed μ6).bind fun v7 =>
    lt (if v7 = true then
        1
      else
        0) fun v8 =>
    gd (0 ≤ w32 v3 ∧ w32 v3 < 3840) <|
    lt (upd2 μ6 92 ((w32 v3).toNat) v8) fun μ11 =>
    some (.inl ((v3 + 1), μ11))
  else
    some (.inr μ)
set_option maxRecDepth 4000 in
theorem tX12_laysCheap_b16 (hS : Sd M K P L) (hc : CIn P 75 93) (v3 : Int) (μ : Mem)  {o : (Int × Mem) ⊕ (Mem)} (hf : fX12_laysCheap_b16 v3 μ = some o) (hr : (Sum.elim (fun s : Int × Mem => Ev l D cy g K yX12_laysCheap cX12_laysCheap 10 none (rmd 5 0 0) (MX D cy g K (rmd 5 0 0) Φ) 0 0 M x (L s.2) 16 [(0, vr g 75), (1, vi s.1)] []) (fun e : Mem => Ev l D cy g K yX12_laysCheap cX12_laysCheap 10 none (rmd 5 0 0) (MX D cy g K (rmd 5 0 0) Φ) 0 0 M x (L e) 53 [(0, vr g 75)] [])) o) : Ev l D cy g K yX12_laysCheap cX12_laysCheap 10 none (rmd 5 0 0) (MX D cy g K (rmd 5 0 0) Φ) 0 0 M x (L μ) 16 [(0, vr g 75), (1, vi v3)] [] := by
  unfold fX12_laysCheap_b16 at hf
  refine ev_iload_n dX12_laysCheap_16 1 rfl ?_
  refine ev_aload_n dX12_laysCheap_17 0 rfl ?_
  obtain ⟨v4, hv4, hf⟩ := Option.bind_eq_some_iff.mp hf
  refine cl_V1 (As := []) (st := [vi v3]) miX12_stacks (tX12_stacks hS (hc.w rfl rfl) μ hv4) dX12_laysCheap_18 lkX12_294 inX12_stacks rfl (hS.lt (hc 75 rfl)) rfl ⟨rfl, rfl⟩ ⟨⟨Nat.le_of_ble_eq_true rfl, Nat.le_of_ble_eq_true rfl⟩, Nat.zero_le _, Nat.zero_le _⟩ (Nat.le_of_ble_eq_true rfl) ?_
  refine ev_icmp_ge 53 dX12_laysCheap_21 (by decide) (fun h5 => ?_) (fun h5 => ?_)
  · rw [if_neg h5] at hf
    obtain rfl := Option.some.inj hf
    refine ev_sub [0] rfl ?_
    exact hr
  · rw [if_pos h5] at hf
    refine ev_aload_n dX12_laysCheap_24 0 rfl ?_
    refine ev_iload_n dX12_laysCheap_25 1 rfl ?_
    obtain ⟨μ6, hμ6, hf⟩ := Option.bind_eq_some_iff.mp hf
    refine cl_V0 (As := [vi v3]) (st := []) miX12_lays (tX12_lays hS (hc.w rfl rfl) v3 μ hμ6) dX12_laysCheap_26 lkX12_274 inX12_lays rfl (hS.lt (hc 75 rfl)) rfl ⟨rfl, rfl⟩ ⟨⟨Nat.le_of_ble_eq_true rfl, Nat.le_of_ble_eq_true rfl⟩, Nat.zero_le _, Nat.zero_le _⟩ (Nat.le_of_ble_eq_true rfl) ?_
    refine ev_aload_n dX12_laysCheap_29 0 rfl ?_
    refine ev_getK 25 dX12_laysCheap_30 (hS.lt (hc 75 rfl)) rfl (hS.K1 (hc 75 rfl) rfl) ciX12 (by decide) rfl flX12_107 ?_
    refine ev_iload_n dX12_laysCheap_33 1 rfl ?_
    refine ev_aload_n dX12_laysCheap_34 0 rfl ?_
    obtain ⟨v7, hv7, hf⟩ := Option.bind_eq_some_iff.mp hf
    refine cl_V1 (As := []) (st := [vi v3, vr g 92]) miX12_isServed (tX12_isServed hS (hc.w rfl rfl) μ6 hv7) dX12_laysCheap_35 lkX12_289 inX12_isServed rfl (hS.lt (hc 75 rfl)) rfl ⟨rfl, rfl⟩ ⟨⟨Nat.le_of_ble_eq_true rfl, Nat.le_of_ble_eq_true rfl⟩, Nat.zero_le _, Nat.zero_le _⟩ (Nat.le_of_ble_eq_true rfl) ?_
    obtain ⟨v8, hv8, hf⟩ := lt_elim hf
    have hJv8 : Ev l D cy g K yX12_laysCheap cX12_laysCheap 10 none (rmd 5 0 0) (MX D cy g K (rmd 5 0 0) Φ) 0 0 M x (L μ6) 46 [(0, vr g 75), (1, vi v3)] [vl v8, vi v3, vr g 92] := by
      obtain ⟨g10, hf⟩ := gd_elim hf
      obtain ⟨μ11, hμ11, hf⟩ := lt_elim hf
      refine ev_last dX12_laysCheap_46 (hS.lt (hc 92 rfl)) rfl g10 (hS.up (hc 92 rfl) hμ11) ?_
      refine ev_iinc (al2 := [(1, vi (v3 + 1)), (0, vr g 75)]) dX12_laysCheap_47 1 rfl (by decide) rfl ?_
      refine ev_goto 16 dX12_laysCheap_50 (by decide) ?_
      obtain rfl := Option.some.inj hf
      refine ev_sub [1, 0] rfl ?_
      exact hr
    refine ev_ifb_eq 45 dX12_laysCheap_38 (by decide) (fun h9 => ?_) (fun h9 => ?_)
    · refine ev_lconst 0 dX12_laysCheap_45 rfl ?_
      have e9 : v8 = 0 := hv8.trans ((if_neg h9))
      subst e9
      exact hJv8
    · refine ev_lconst 1 dX12_laysCheap_41 rfl ?_
      refine ev_goto 46 dX12_laysCheap_42 (by decide) ?_
      have e9 : v8 = 1 := hv8.trans ((if_pos h9))
      subst e9
      exact hJv8
def fX12_laysCheap_j180 (v14 : Int) (v17 : Int) (v38 : Int) (v39 : Int) (v40 : Int) (w41 : Int) (w42 : Int) (μ : Mem) : Option ((Int × Int × Mem) ⊕ (Int × Mem)) :=
  gd (0 ≤ w32 w42 ∧ w32 w42 < 3840) <|
  lt (upd2 μ 92 ((w32 w42).toNat) w41) fun μ44 =>
  lt (if w64 v40 ≤ w64 v38 then
      v38
    else
      v40) fun v45 =>
  some (.inl (v45, (v39 + 1), μ44))
set_option maxRecDepth 4000 in
theorem tX12_laysCheap_j180 (hS : Sd M K P L) (hc : CIn P 75 93) (v14 : Int) (v17 : Int) (v38 : Int) (v39 : Int) (v40 : Int) (w41 : Int) (w42 : Int) (μ : Mem)  {o : (Int × Int × Mem) ⊕ (Int × Mem)} (hf : fX12_laysCheap_j180 v14 v17 v38 v39 v40 w41 w42 μ = some o) (hr : (Sum.elim (fun s : Int × Int × Mem => Ev l D cy g K yX12_laysCheap cX12_laysCheap 10 none (rmd 5 0 0) (MX D cy g K (rmd 5 0 0) Φ) 0 0 M x (L s.2.2) 78 [(0, vr g 75), (1, vl s.1), (3, vl v14), (5, vi v17), (6, vi s.2.1)] []) (fun e : Int × Mem => Ev l D cy g K yX12_laysCheap cX12_laysCheap 10 none (rmd 5 0 0) (MX D cy g K (rmd 5 0 0) Φ) 0 0 M x (L e.2) 201 [(0, vr g 75), (1, vl e.1), (3, vl v14), (5, vi v17)] [])) o) : Ev l D cy g K yX12_laysCheap cX12_laysCheap 10 none (rmd 5 0 0) (MX D cy g K (rmd 5 0 0) Φ) 0 0 M x (L μ) 180 [(0, vr g 75), (1, vl v38), (3, vl v14), (5, vi v17), (6, vi v39), (8, vl v40)] [vl w41, vi w42, vr g 92] := by
  unfold fX12_laysCheap_j180 at hf
  obtain ⟨g43, hf⟩ := gd_elim hf
  obtain ⟨μ44, hμ44, hf⟩ := lt_elim hf
  refine ev_last dX12_laysCheap_180 (hS.lt (hc 92 rfl)) rfl g43 (hS.up (hc 92 rfl) hμ44) ?_
  refine ev_lload dX12_laysCheap_181 5 rfl ?_
  refine ev_lload_n dX12_laysCheap_183 1 rfl ?_
  obtain ⟨v45, hv45, hf⟩ := lt_elim hf
  have hJv45 : Ev l D cy g K yX12_laysCheap cX12_laysCheap 10 none (rmd 5 0 0) (MX D cy g K (rmd 5 0 0) Φ) 0 0 M x (L μ44) 194 [(0, vr g 75), (1, vl v38), (3, vl v14), (5, vi v17), (6, vi v39), (8, vl v40)] [vl v45] := by
    refine ev_lstore_n (al2 := [(1, vl v45), (0, vr g 75), (3, vl v14), (5, vi v17), (6, vi v39), (8, vl v40)]) dX12_laysCheap_194 1 rfl (by decide) rfl ?_
    refine ev_iinc (al2 := [(6, vi (v39 + 1)), (1, vl v45), (0, vr g 75), (3, vl v14), (5, vi v17), (8, vl v40)]) dX12_laysCheap_195 4 rfl (by decide) rfl ?_
    refine ev_goto 78 dX12_laysCheap_198 (by decide) ?_
    obtain rfl := Option.some.inj hf
    refine ev_sub [2, 1, 3, 4, 0] rfl ?_
    exact hr
  refine ev_lcmp_le 193 dX12_laysCheap_184 dX12_laysCheap_185 (by decide) (fun h46 => ?_) (fun h46 => ?_)
  · refine ev_lload_n dX12_laysCheap_193 1 rfl ?_
    have e9 : v45 = v38 := hv45.trans ((if_pos h46))
    subst e9
    exact hJv45
  · refine ev_lload dX12_laysCheap_188 5 rfl ?_
    refine ev_goto 194 dX12_laysCheap_190 (by decide) ?_
    have e9 : v45 = v40 := hv45.trans ((if_neg h46))
    subst e9
    exact hJv45
def fX12_laysCheap_j168 (v14 : Int) (v17 : Int) (v34 : Int) (v35 : Int) (v36 : Int) (w37 : Int) (μ : Mem) : Option ((Int × Int × Mem) ⊕ (Int × Mem)) :=
  fX12_laysCheap_j180 v14 v17 v34 v35 v36 v36 w37 μ
set_option maxRecDepth 4000 in
theorem tX12_laysCheap_j168 (hS : Sd M K P L) (hc : CIn P 75 93) (v14 : Int) (v17 : Int) (v34 : Int) (v35 : Int) (v36 : Int) (w37 : Int) (μ : Mem)  {o : (Int × Int × Mem) ⊕ (Int × Mem)} (hf : fX12_laysCheap_j168 v14 v17 v34 v35 v36 w37 μ = some o) (hr : (Sum.elim (fun s : Int × Int × Mem => Ev l D cy g K yX12_laysCheap cX12_laysCheap 10 none (rmd 5 0 0) (MX D cy g K (rmd 5 0 0) Φ) 0 0 M x (L s.2.2) 78 [(0, vr g 75), (1, vl s.1), (3, vl v14), (5, vi v17), (6, vi s.2.1)] []) (fun e : Int × Mem => Ev l D cy g K yX12_laysCheap cX12_laysCheap 10 none (rmd 5 0 0) (MX D cy g K (rmd 5 0 0) Φ) 0 0 M x (L e.2) 201 [(0, vr g 75), (1, vl e.1), (3, vl v14), (5, vi v17)] [])) o) : Ev l D cy g K yX12_laysCheap cX12_laysCheap 10 none (rmd 5 0 0) (MX D cy g K (rmd 5 0 0) Φ) 0 0 M x (L μ) 168 [(0, vr g 75), (1, vl v34), (3, vl v14), (5, vi v17), (6, vi v35), (8, vl v36)] [vi w37, vr g 92] := by
  unfold fX12_laysCheap_j168 at hf
  refine ev_lload dX12_laysCheap_168 5 rfl ?_
  refine ev_goto 180 dX12_laysCheap_170 (by decide) ?_
  refine ev_sub [0, 1, 2, 3, 4, 5] rfl ?_
  exact tX12_laysCheap_j180 hS hc v14 v17 v34 v35 v36 v36 w37 μ hf hr
def fX12_laysCheap_b78 (v14 : Int) (v17 : Int) (v20 : Int) (v21 : Int) (μ : Mem) : Option ((Int × Int × Mem) ⊕ (Int × Mem)) :=
  if w32 v21 ≤ w32 (μ 81 0) then
    gd (0 ≤ w32 v17 ∧ w32 v17 < 3840) <|
    if w64 (μ 92 (w32 v17).toNat) = w64 v14 then
      (fX12_lays v17 μ).bind fun μ25 =>
      (fX12_turns v21 μ25).bind fun μ26 =>
      (fX12_mayTurn v21 μ26).bind fun q27 =>
      if q27.1 = true then
        (fX12_numberNow q27.2).bind fun v29 =>
        (fX12_costOf v21 q27.2).bind fun q30 =>
        lt (v14 + (w32 q30.1)) fun v31 =>
        gd (0 ≤ w32 v29 ∧ w32 v29 < 3840) <|
        if w64 (q30.2 92 (w32 v29).toNat) = w64 0 then
          fX12_laysCheap_j168 v14 v17 v20 v21 v31 v29 q30.2
        else
          gd (0 ≤ w32 v29 ∧ w32 v29 < 3840) <|
          if w64 v31 < w64 (q30.2 92 (w32 v29).toNat) then
            fX12_laysCheap_j168 v14 v17 v20 v21 v31 v29 q30.2
          else
            gd (0 ≤ w32 v29 ∧ w32 v29 < 3840) <|
            fX12_laysCheap_j180 v14 v17 v20 v21 v31 (q30.2 92 (w32 v29).toNat) v29 q30.2
      else
        some (.inl (v20, (v21 + 1), q27.2))
    else
      some (.inr (v20, μ))
  else
    some (.inr (v20, μ))
set_option maxRecDepth 4000 in
theorem tX12_laysCheap_b78 (hS : Sd M K P L) (hc : CIn P 75 93) (v14 : Int) (v17 : Int) (v20 : Int) (v21 : Int) (μ : Mem)  {o : (Int × Int × Mem) ⊕ (Int × Mem)} (hf : fX12_laysCheap_b78 v14 v17 v20 v21 μ = some o) (hr : (Sum.elim (fun s : Int × Int × Mem => Ev l D cy g K yX12_laysCheap cX12_laysCheap 10 none (rmd 5 0 0) (MX D cy g K (rmd 5 0 0) Φ) 0 0 M x (L s.2.2) 78 [(0, vr g 75), (1, vl s.1), (3, vl v14), (5, vi v17), (6, vi s.2.1)] []) (fun e : Int × Mem => Ev l D cy g K yX12_laysCheap cX12_laysCheap 10 none (rmd 5 0 0) (MX D cy g K (rmd 5 0 0) Φ) 0 0 M x (L e.2) 201 [(0, vr g 75), (1, vl e.1), (3, vl v14), (5, vi v17)] [])) o) : Ev l D cy g K yX12_laysCheap cX12_laysCheap 10 none (rmd 5 0 0) (MX D cy g K (rmd 5 0 0) Φ) 0 0 M x (L μ) 78 [(0, vr g 75), (1, vl v20), (3, vl v14), (5, vi v17), (6, vi v21)] [] := by
  unfold fX12_laysCheap_b78 at hf
  refine ev_iload dX12_laysCheap_78 4 rfl ?_
  refine ev_aload_n dX12_laysCheap_80 0 rfl ?_
  refine cl_V1 (As := []) (st := [vi v21]) miX12_cakes (tX12_cakes hS (hc.w rfl rfl) μ (o := (μ 81 0)) rfl) dX12_laysCheap_81 lkX12_209 inX12_cakes rfl (hS.lt (hc 75 rfl)) rfl ⟨rfl, rfl⟩ ⟨⟨Nat.le_of_ble_eq_true rfl, Nat.le_of_ble_eq_true rfl⟩, Nat.zero_le _, Nat.zero_le _⟩ (Nat.le_of_ble_eq_true rfl) ?_
  refine ev_icmp_gt 201 dX12_laysCheap_84 (by decide) (fun h22 => ?_) (fun h22 => ?_)
  · rw [if_neg h22] at hf
    obtain rfl := Option.some.inj hf
    refine ev_sub [0, 1, 2, 3] rfl ?_
    exact hr
  · rw [if_pos h22] at hf
    refine ev_aload_n dX12_laysCheap_87 0 rfl ?_
    refine ev_getK 25 dX12_laysCheap_88 (hS.lt (hc 75 rfl)) rfl (hS.K1 (hc 75 rfl) rfl) ciX12 (by decide) rfl flX12_107 ?_
    refine ev_iload dX12_laysCheap_91 3 rfl ?_
    obtain ⟨g23, hf⟩ := gd_elim hf
    refine ev_lald dX12_laysCheap_93 (hS.lt (hc 92 rfl)) rfl (hS.mem _ (hc 92 rfl)) g23 ?_
    refine ev_lload_n dX12_laysCheap_94 2 rfl ?_
    refine ev_lcmp_ne 201 dX12_laysCheap_95 dX12_laysCheap_96 (by decide) (fun h24 => ?_) (fun h24 => ?_)
    · rw [if_neg h24] at hf
      obtain rfl := Option.some.inj hf
      refine ev_sub [0, 1, 2, 3] rfl ?_
      exact hr
    · rw [if_pos h24] at hf
      refine ev_aload_n dX12_laysCheap_99 0 rfl ?_
      refine ev_iload dX12_laysCheap_100 3 rfl ?_
      obtain ⟨μ25, hμ25, hf⟩ := Option.bind_eq_some_iff.mp hf
      refine cl_V0 (As := [vi v17]) (st := []) miX12_lays (tX12_lays hS (hc.w rfl rfl) v17 μ hμ25) dX12_laysCheap_102 lkX12_274 inX12_lays rfl (hS.lt (hc 75 rfl)) rfl ⟨rfl, rfl⟩ ⟨⟨Nat.le_of_ble_eq_true rfl, Nat.le_of_ble_eq_true rfl⟩, Nat.zero_le _, Nat.zero_le _⟩ (Nat.le_of_ble_eq_true rfl) ?_
      refine ev_aload_n dX12_laysCheap_105 0 rfl ?_
      refine ev_iload dX12_laysCheap_106 4 rfl ?_
      obtain ⟨μ26, hμ26, hf⟩ := Option.bind_eq_some_iff.mp hf
      refine cl_V0 (As := [vi v21]) (st := []) miX12_turns (tX12_turns hS (hc.w rfl rfl) v21 μ25 hμ26) dX12_laysCheap_108 lkX12_286 inX12_turns rfl (hS.lt (hc 75 rfl)) rfl ⟨rfl, rfl⟩ ⟨⟨Nat.le_of_ble_eq_true rfl, Nat.le_of_ble_eq_true rfl⟩, Nat.zero_le _, Nat.zero_le _⟩ (Nat.le_of_ble_eq_true rfl) ?_
      refine ev_aload_n dX12_laysCheap_111 0 rfl ?_
      refine ev_iload dX12_laysCheap_112 4 rfl ?_
      obtain ⟨q27, hq27, hf⟩ := Option.bind_eq_some_iff.mp hf
      refine cl_V1 (As := [vi v21]) (st := []) miX12_mayTurn (tX12_mayTurn hS (hc.w rfl rfl) v21 μ26 hq27) dX12_laysCheap_114 lkX12_277 inX12_mayTurn rfl (hS.lt (hc 75 rfl)) rfl ⟨rfl, rfl⟩ ⟨⟨Nat.le_of_ble_eq_true rfl, Nat.le_of_ble_eq_true rfl⟩, Nat.zero_le _, Nat.zero_le _⟩ (Nat.le_of_ble_eq_true rfl) ?_
      refine ev_ifb_eq 195 dX12_laysCheap_117 (by decide) (fun h28 => ?_) (fun h28 => ?_)
      · rw [if_neg h28] at hf
        refine ev_iinc (al2 := [(6, vi (v21 + 1)), (0, vr g 75), (1, vl v20), (3, vl v14), (5, vi v17)]) dX12_laysCheap_195 4 rfl (by decide) rfl ?_
        refine ev_goto 78 dX12_laysCheap_198 (by decide) ?_
        obtain rfl := Option.some.inj hf
        refine ev_sub [1, 2, 3, 4, 0] rfl ?_
        exact hr
      · rw [if_pos h28] at hf
        refine ev_aload_n dX12_laysCheap_120 0 rfl ?_
        obtain ⟨v29, hv29, hf⟩ := Option.bind_eq_some_iff.mp hf
        refine cl_V1 (As := []) (st := []) miX12_numberNow (tX12_numberNow hS (hc.w rfl rfl) q27.2 hv29) dX12_laysCheap_121 lkX12_242 inX12_numberNow rfl (hS.lt (hc 75 rfl)) rfl ⟨rfl, rfl⟩ ⟨⟨Nat.le_of_ble_eq_true rfl, Nat.le_of_ble_eq_true rfl⟩, Nat.zero_le _, Nat.zero_le _⟩ (Nat.le_of_ble_eq_true rfl) ?_
        refine ev_istore (al2 := [(7, vi v29), (0, vr g 75), (1, vl v20), (3, vl v14), (5, vi v17), (6, vi v21)]) dX12_laysCheap_124 (by decide) rfl ?_
        refine ev_lload_n dX12_laysCheap_126 3 rfl ?_
        refine ev_aload_n dX12_laysCheap_127 1 rfl ?_
        refine ev_iload dX12_laysCheap_128 5 rfl ?_
        obtain ⟨q30, hq30, hf⟩ := Option.bind_eq_some_iff.mp hf
        refine cl_V1 (As := [vi v21]) (st := [vl v14]) miX12_costOf (tX12_costOf hS (hc.w rfl rfl) v21 q27.2 hq30) dX12_laysCheap_130 lkX12_283 inX12_costOf rfl (hS.lt (hc 75 rfl)) rfl ⟨rfl, rfl⟩ ⟨⟨Nat.le_of_ble_eq_true rfl, Nat.le_of_ble_eq_true rfl⟩, Nat.zero_le _, Nat.zero_le _⟩ (Nat.le_of_ble_eq_true rfl) ?_
        refine ev_i2l dX12_laysCheap_133 ?_
        refine ev_ladd dX12_laysCheap_134 ?_
        obtain ⟨v31, hv31, hf⟩ := lt_elim hf
        refine ev_rnl hv31 ?_
        refine ev_lstore (al2 := [(8, vl v31), (7, vi v29), (0, vr g 75), (1, vl v20), (3, vl v14), (5, vi v17), (6, vi v21)]) dX12_laysCheap_135 (by decide) rfl ?_
        refine ev_aload_n dX12_laysCheap_137 2 rfl ?_
        refine ev_getK 25 dX12_laysCheap_138 (hS.lt (hc 75 rfl)) rfl (hS.K1 (hc 75 rfl) rfl) ciX12 (by decide) rfl flX12_107 ?_
        refine ev_iload dX12_laysCheap_141 1 rfl ?_
        refine ev_aload_n dX12_laysCheap_143 2 rfl ?_
        refine ev_getK 25 dX12_laysCheap_144 (hS.lt (hc 75 rfl)) rfl (hS.K1 (hc 75 rfl) rfl) ciX12 (by decide) rfl flX12_107 ?_
        refine ev_iload dX12_laysCheap_147 1 rfl ?_
        obtain ⟨g32, hf⟩ := gd_elim hf
        refine ev_lald dX12_laysCheap_149 (hS.lt (hc 92 rfl)) rfl (hS.mem _ (hc 92 rfl)) g32 ?_
        refine ev_lconst 0 dX12_laysCheap_150 rfl ?_
        refine ev_lcmp_eq 168 dX12_laysCheap_151 dX12_laysCheap_152 (by decide) (fun h33 => ?_) (fun h33 => ?_)
        · rw [if_pos h33] at hf
          refine ev_sub [2, 3, 4, 5, 6, 0] rfl ?_
          exact tX12_laysCheap_j168 hS hc v14 v17 v20 v21 v31 v29 q30.2 hf hr
        · rw [if_neg h33] at hf
          refine ev_lload dX12_laysCheap_155 0 rfl ?_
          refine ev_aload_n dX12_laysCheap_157 2 rfl ?_
          refine ev_getK 25 dX12_laysCheap_158 (hS.lt (hc 75 rfl)) rfl (hS.K1 (hc 75 rfl) rfl) ciX12 (by decide) rfl flX12_107 ?_
          refine ev_iload dX12_laysCheap_161 1 rfl ?_
          obtain ⟨g47, hf⟩ := gd_elim hf
          refine ev_lald dX12_laysCheap_163 (hS.lt (hc 92 rfl)) rfl (hS.mem _ (hc 92 rfl)) g47 ?_
          refine ev_lcmp_ge 173 dX12_laysCheap_164 dX12_laysCheap_165 (by decide) (fun h48 => ?_) (fun h48 => ?_)
          · rw [if_neg h48] at hf
            refine ev_aload_n dX12_laysCheap_173 2 rfl ?_
            refine ev_getK 25 dX12_laysCheap_174 (hS.lt (hc 75 rfl)) rfl (hS.K1 (hc 75 rfl) rfl) ciX12 (by decide) rfl flX12_107 ?_
            refine ev_iload dX12_laysCheap_177 1 rfl ?_
            obtain ⟨g49, hf⟩ := gd_elim hf
            refine ev_lald dX12_laysCheap_179 (hS.lt (hc 92 rfl)) rfl (hS.mem _ (hc 92 rfl)) g49 ?_
            refine ev_sub [2, 3, 4, 5, 6, 0] rfl ?_
            exact tX12_laysCheap_j180 hS hc v14 v17 v20 v21 v31 (q30.2 92 (w32 v29).toNat) v29 q30.2 hf hr
          · rw [if_pos h48] at hf
            refine ev_sub [2, 3, 4, 5, 6, 0] rfl ?_
            exact tX12_laysCheap_j168 hS hc v14 v17 v20 v21 v31 v29 q30.2 hf hr
def fX12_laysCheap_b66 (v14 : Int) (v16 : Int) (v17 : Int) (μ : Mem) : Option ((Int × Int × Mem) ⊕ (Int × Mem)) :=
  (fX12_stacks μ).bind fun v18 =>
  if w32 v17 < w32 v18 then
    (loopN (fun s => fX12_laysCheap_b78 v14 v17 s.1 s.2.1 s.2.2) FU (v16, 1, μ)).bind fun q59 =>
    some (.inl (q59.1, (v17 + 1), q59.2))
  else
    some (.inr (v16, μ))
set_option maxRecDepth 4000 in
theorem tX12_laysCheap_b66 (hS : Sd M K P L) (hc : CIn P 75 93) (v14 : Int) (v16 : Int) (v17 : Int) (μ : Mem)  {o : (Int × Int × Mem) ⊕ (Int × Mem)} (hf : fX12_laysCheap_b66 v14 v16 v17 μ = some o) (hr : (Sum.elim (fun s : Int × Int × Mem => Ev l D cy g K yX12_laysCheap cX12_laysCheap 10 none (rmd 5 0 0) (MX D cy g K (rmd 5 0 0) Φ) 0 0 M x (L s.2.2) 66 [(0, vr g 75), (1, vl s.1), (3, vl v14), (5, vi s.2.1)] []) (fun e : Int × Mem => Ev l D cy g K yX12_laysCheap cX12_laysCheap 10 none (rmd 5 0 0) (MX D cy g K (rmd 5 0 0) Φ) 0 0 M x (L e.2) 207 [(0, vr g 75), (1, vl e.1), (3, vl v14)] [])) o) : Ev l D cy g K yX12_laysCheap cX12_laysCheap 10 none (rmd 5 0 0) (MX D cy g K (rmd 5 0 0) Φ) 0 0 M x (L μ) 66 [(0, vr g 75), (1, vl v16), (3, vl v14), (5, vi v17)] [] := by
  unfold fX12_laysCheap_b66 at hf
  refine ev_iload dX12_laysCheap_66 3 rfl ?_
  refine ev_aload_n dX12_laysCheap_68 0 rfl ?_
  obtain ⟨v18, hv18, hf⟩ := Option.bind_eq_some_iff.mp hf
  refine cl_V1 (As := []) (st := [vi v17]) miX12_stacks (tX12_stacks hS (hc.w rfl rfl) μ hv18) dX12_laysCheap_69 lkX12_294 inX12_stacks rfl (hS.lt (hc 75 rfl)) rfl ⟨rfl, rfl⟩ ⟨⟨Nat.le_of_ble_eq_true rfl, Nat.le_of_ble_eq_true rfl⟩, Nat.zero_le _, Nat.zero_le _⟩ (Nat.le_of_ble_eq_true rfl) ?_
  refine ev_icmp_ge 207 dX12_laysCheap_72 (by decide) (fun h19 => ?_) (fun h19 => ?_)
  · rw [if_neg h19] at hf
    obtain rfl := Option.some.inj hf
    refine ev_sub [0, 1, 2] rfl ?_
    exact hr
  · rw [if_pos h19] at hf
    refine ev_iconst dX12_laysCheap_75 ?_
    refine ev_istore (al2 := [(6, vi 1), (0, vr g 75), (1, vl v16), (3, vl v14), (5, vi v17)]) dX12_laysCheap_76 (by decide) rfl ?_
    obtain ⟨q59, hq59, hf⟩ := Option.bind_eq_some_iff.mp hf
    refine ev_sub [1, 2, 3, 4, 0] rfl ?_
    refine loop_ev (H := (fun s : Int × Int × Mem => Ev l D cy g K yX12_laysCheap cX12_laysCheap 10 none (rmd 5 0 0) (MX D cy g K (rmd 5 0 0) Φ) 0 0 M x (L s.2.2) 78 [(0, vr g 75), (1, vl s.1), (3, vl v14), (5, vi v17), (6, vi s.2.1)] [])) (Hx := (fun e : Int × Mem => Ev l D cy g K yX12_laysCheap cX12_laysCheap 10 none (rmd 5 0 0) (MX D cy g K (rmd 5 0 0) Φ) 0 0 M x (L e.2) 201 [(0, vr g 75), (1, vl e.1), (3, vl v14), (5, vi v17)] [])) (fun s o hb hr => tX12_laysCheap_b78 hS hc v14 v17 s.1 s.2.1 s.2.2 hb hr) FU _ _ hq59 ?_
    show Ev l D cy g K yX12_laysCheap cX12_laysCheap 10 none (rmd 5 0 0) (MX D cy g K (rmd 5 0 0) Φ) 0 0 M x (L q59.2) 201 [(0, vr g 75), (1, vl q59.1), (3, vl v14), (5, vi v17)] []
    refine ev_iinc (al2 := [(5, vi (v17 + 1)), (0, vr g 75), (1, vl q59.1), (3, vl v14)]) dX12_laysCheap_201 3 rfl (by decide) rfl ?_
    refine ev_goto 66 dX12_laysCheap_204 (by decide) ?_
    obtain rfl := Option.some.inj hf
    refine ev_sub [1, 2, 3, 0] rfl ?_
    exact hr
def fX12_laysCheap_b57 (v13 : Int) (v14 : Int) (μ : Mem) : Option ((Int × Int × Mem) ⊕ (Mem)) :=
  if w64 v14 ≤ w64 v13 then
    (loopN (fun s => fX12_laysCheap_b66 v14 s.1 s.2.1 s.2.2) FU (v13, 0, μ)).bind fun q60 =>
    lt (v14 + 1) fun v61 =>
    some (.inl (q60.1, v61, q60.2))
  else
    some (.inr μ)
set_option maxRecDepth 4000 in
theorem tX12_laysCheap_b57 (hS : Sd M K P L) (hc : CIn P 75 93) (v13 : Int) (v14 : Int) (μ : Mem)  {o : (Int × Int × Mem) ⊕ (Mem)} (hf : fX12_laysCheap_b57 v13 v14 μ = some o) (hr : (Sum.elim (fun s : Int × Int × Mem => Ev l D cy g K yX12_laysCheap cX12_laysCheap 10 none (rmd 5 0 0) (MX D cy g K (rmd 5 0 0) Φ) 0 0 M x (L s.2.2) 57 [(0, vr g 75), (1, vl s.1), (3, vl s.2.1)] []) (fun e : Mem => Ev l D cy g K yX12_laysCheap cX12_laysCheap 10 none (rmd 5 0 0) (MX D cy g K (rmd 5 0 0) Φ) 0 0 M x (L e) 214 [] [])) o) : Ev l D cy g K yX12_laysCheap cX12_laysCheap 10 none (rmd 5 0 0) (MX D cy g K (rmd 5 0 0) Φ) 0 0 M x (L μ) 57 [(0, vr g 75), (1, vl v13), (3, vl v14)] [] := by
  unfold fX12_laysCheap_b57 at hf
  refine ev_lload_n dX12_laysCheap_57 2 rfl ?_
  refine ev_lload_n dX12_laysCheap_58 1 rfl ?_
  refine ev_lcmp_gt 214 dX12_laysCheap_59 dX12_laysCheap_60 (by decide) (fun h15 => ?_) (fun h15 => ?_)
  · rw [if_neg h15] at hf
    obtain rfl := Option.some.inj hf
    refine ev_sub [] rfl ?_
    exact hr
  · rw [if_pos h15] at hf
    refine ev_iconst dX12_laysCheap_63 ?_
    refine ev_istore (al2 := [(5, vi 0), (0, vr g 75), (1, vl v13), (3, vl v14)]) dX12_laysCheap_64 (by decide) rfl ?_
    obtain ⟨q60, hq60, hf⟩ := Option.bind_eq_some_iff.mp hf
    refine ev_sub [1, 2, 3, 0] rfl ?_
    refine loop_ev (H := (fun s : Int × Int × Mem => Ev l D cy g K yX12_laysCheap cX12_laysCheap 10 none (rmd 5 0 0) (MX D cy g K (rmd 5 0 0) Φ) 0 0 M x (L s.2.2) 66 [(0, vr g 75), (1, vl s.1), (3, vl v14), (5, vi s.2.1)] [])) (Hx := (fun e : Int × Mem => Ev l D cy g K yX12_laysCheap cX12_laysCheap 10 none (rmd 5 0 0) (MX D cy g K (rmd 5 0 0) Φ) 0 0 M x (L e.2) 207 [(0, vr g 75), (1, vl e.1), (3, vl v14)] [])) (fun s o hb hr => tX12_laysCheap_b66 hS hc v14 s.1 s.2.1 s.2.2 hb hr) FU _ _ hq60 ?_
    show Ev l D cy g K yX12_laysCheap cX12_laysCheap 10 none (rmd 5 0 0) (MX D cy g K (rmd 5 0 0) Φ) 0 0 M x (L q60.2) 207 [(0, vr g 75), (1, vl q60.1), (3, vl v14)] []
    refine ev_lload_n dX12_laysCheap_207 2 rfl ?_
    refine ev_lconst 1 dX12_laysCheap_208 rfl ?_
    refine ev_ladd dX12_laysCheap_209 ?_
    obtain ⟨v61, hv61, hf⟩ := lt_elim hf
    refine ev_rnl hv61 ?_
    refine ev_lstore_n (al2 := [(3, vl v61), (0, vr g 75), (1, vl q60.1)]) dX12_laysCheap_210 3 rfl (by decide) rfl ?_
    refine ev_goto 57 dX12_laysCheap_211 (by decide) ?_
    obtain rfl := Option.some.inj hf
    refine ev_sub [1, 2, 0] rfl ?_
    exact hr
def fX12_laysCheap  (μ : Mem) : Option (Mem) :=
  if w32 (μ 75 26) = w32 2 then
    some (μ)
  else
    lt (upd2 μ 75 26 2) fun μ2 =>
    (loopN (fun s => fX12_laysCheap_b16 s.1 s.2) FU (0, μ2)).bind fun q12 =>
    (loopN (fun s => fX12_laysCheap_b57 s.1 s.2.1 s.2.2) FU (1, 1, q12)).bind fun q62 =>
    some (q62)
set_option maxRecDepth 4000 in
theorem eX12_laysCheap (hS : Sd M K P L) (hc : CIn P 75 93)  (μ : Mem)  {o : Mem} (hf : fX12_laysCheap  μ = some o) (hr : (fun o : Mem => Φ none M x (L o)) o) : Ev l D cy g K yX12_laysCheap cX12_laysCheap 10 none (rmd 5 0 0) (MX D cy g K (rmd 5 0 0) Φ) 0 0 M x (L μ) 0 [(0, vr g 75)] [] := by
  unfold fX12_laysCheap at hf
  refine ev_aload_n dX12_laysCheap_0 0 rfl ?_
  refine ev_getI 26 dX12_laysCheap_1 (hS.lt (hc 75 rfl)) rfl (hS.mem _ (hc 75 rfl)) ciX12 (by decide) rfl flX12_251 ?_
  refine ev_iconst dX12_laysCheap_4 ?_
  refine ev_icmp_ne 9 dX12_laysCheap_5 (by decide) (fun h1 => ?_) (fun h1 => ?_)
  · rw [if_neg h1] at hf
    refine ev_aload_n dX12_laysCheap_9 0 rfl ?_
    refine ev_iconst dX12_laysCheap_10 ?_
    obtain ⟨μ2, hμ2, hf⟩ := lt_elim hf
    refine ev_putI 26 dX12_laysCheap_11 (hS.lt (hc 75 rfl)) rfl ciX12 (by decide) (Or.inl rfl) rfl rfl flX12_251 (hS.up (hc 75 rfl) hμ2) ?_
    refine ev_iconst dX12_laysCheap_14 ?_
    refine ev_istore_n (al2 := [(1, vi 0), (0, vr g 75)]) dX12_laysCheap_15 1 rfl (by decide) rfl ?_
    obtain ⟨q12, hq12, hf⟩ := Option.bind_eq_some_iff.mp hf
    refine ev_sub [1, 0] rfl ?_
    refine loop_ev (H := (fun s : Int × Mem => Ev l D cy g K yX12_laysCheap cX12_laysCheap 10 none (rmd 5 0 0) (MX D cy g K (rmd 5 0 0) Φ) 0 0 M x (L s.2) 16 [(0, vr g 75), (1, vi s.1)] [])) (Hx := (fun e : Mem => Ev l D cy g K yX12_laysCheap cX12_laysCheap 10 none (rmd 5 0 0) (MX D cy g K (rmd 5 0 0) Φ) 0 0 M x (L e) 53 [(0, vr g 75)] [])) (fun s o hb hr => tX12_laysCheap_b16 hS hc s.1 s.2 hb hr) FU _ _ hq12 ?_
    show Ev l D cy g K yX12_laysCheap cX12_laysCheap 10 none (rmd 5 0 0) (MX D cy g K (rmd 5 0 0) Φ) 0 0 M x (L q12) 53 [(0, vr g 75)] []
    refine ev_lconst 1 dX12_laysCheap_53 rfl ?_
    refine ev_lstore_n (al2 := [(1, vl 1), (0, vr g 75)]) dX12_laysCheap_54 1 rfl (by decide) rfl ?_
    refine ev_lconst 1 dX12_laysCheap_55 rfl ?_
    refine ev_lstore_n (al2 := [(3, vl 1), (1, vl 1), (0, vr g 75)]) dX12_laysCheap_56 3 rfl (by decide) rfl ?_
    obtain ⟨q62, hq62, hf⟩ := Option.bind_eq_some_iff.mp hf
    refine ev_sub [2, 1, 0] rfl ?_
    refine loop_ev (H := (fun s : Int × Int × Mem => Ev l D cy g K yX12_laysCheap cX12_laysCheap 10 none (rmd 5 0 0) (MX D cy g K (rmd 5 0 0) Φ) 0 0 M x (L s.2.2) 57 [(0, vr g 75), (1, vl s.1), (3, vl s.2.1)] [])) (Hx := (fun e : Mem => Ev l D cy g K yX12_laysCheap cX12_laysCheap 10 none (rmd 5 0 0) (MX D cy g K (rmd 5 0 0) Φ) 0 0 M x (L e) 214 [] [])) (fun s o hb hr => tX12_laysCheap_b57 hS hc s.1 s.2.1 s.2.2 hb hr) FU _ _ hq62 ?_
    show Ev l D cy g K yX12_laysCheap cX12_laysCheap 10 none (rmd 5 0 0) (MX D cy g K (rmd 5 0 0) Φ) 0 0 M x (L q62) 214 [] []
    obtain rfl := Option.some.inj hf
    exact ev_vret dX12_laysCheap_214 rfl ⟨Nat.zero_le _, Nat.zero_le _⟩ hr
  · rw [if_pos h1] at hf
    obtain rfl := Option.some.inj hf
    exact ev_vret dX12_laysCheap_8 rfl ⟨Nat.zero_le _, Nat.zero_le _⟩ hr
theorem tX12_laysCheap (hS : Sd M K P L) (hc : CIn P 75 93) (μ : Mem) {o : Mem} (hf : fX12_laysCheap μ = some o) : Cn l D cy g K K yX12_laysCheap cX12_laysCheap 10 none (rmd 5 0 0) [vr g 75] M x (L μ) (PE none M x (L o)) :=
 Cn.of (by decide) (Nat.le_of_ble_eq_true rfl) (eX12_laysCheap hS hc μ hf (PE_i _ _ _ _))
def fX12_cheap  (μ : Mem) : Option (Int × Mem) :=
  lt (upd2 μ 75 0 0) fun μ1 =>
  (fX12_laysCheap μ1).bind fun μ2 =>
  gd (0 ≤ w32 (μ2 88 0) ∧ w32 (μ2 88 0) < 3840) <|
  some ((((l_2i (μ2 92 (w32 (μ2 88 0)).toNat)) - 1), μ2))
set_option maxRecDepth 4000 in
theorem eX12_cheap (hS : Sd M K P L) (hc : CIn P 75 93)  (μ : Mem)  {o : Int × Mem} (hf : fX12_cheap  μ = some o) (hr : (fun o : Int × Mem => Φ (some (vi o.1)) M x (L o.2)) o) : Ev l D cy g K yX12_cheap cX12_cheap 1 (some .int) (rmd 6 0 0) (MX D cy g K (rmd 6 0 0) Φ) 0 0 M x (L μ) 0 [(0, vr g 75)] [] := by
  unfold fX12_cheap at hf
  refine ev_aload_n dX12_cheap_0 0 rfl ?_
  refine ev_iconst dX12_cheap_1 ?_
  obtain ⟨μ1, hμ1, hf⟩ := lt_elim hf
  refine ev_putI 0 dX12_cheap_2 (hS.lt (hc 75 rfl)) rfl ciX12 (by decide) (Or.inl rfl) rfl rfl flX12_1 (hS.up (hc 75 rfl) hμ1) ?_
  refine ev_aload_n dX12_cheap_5 0 rfl ?_
  obtain ⟨μ2, hμ2, hf⟩ := Option.bind_eq_some_iff.mp hf
  refine cl_V0 (As := []) (st := []) miX12_laysCheap (tX12_laysCheap hS (hc.w rfl rfl) μ1 hμ2) dX12_cheap_6 lkX12_333 inX12_laysCheap rfl (hS.lt (hc 75 rfl)) rfl ⟨rfl, rfl⟩ ⟨⟨Nat.le_of_ble_eq_true rfl, Nat.le_of_ble_eq_true rfl⟩, Nat.zero_le _, Nat.zero_le _⟩ (Nat.le_of_ble_eq_true rfl) ?_
  refine ev_aload_n dX12_cheap_9 0 rfl ?_
  refine ev_getK 25 dX12_cheap_10 (hS.lt (hc 75 rfl)) rfl (hS.K1 (hc 75 rfl) rfl) ciX12 (by decide) rfl flX12_107 ?_
  refine ev_aload_n dX12_cheap_13 0 rfl ?_
  refine ev_getK 19 dX12_cheap_14 (hS.lt (hc 75 rfl)) rfl (hS.K1 (hc 75 rfl) rfl) ciX12 (by decide) rfl flX12_94 ?_
  refine ev_iconst dX12_cheap_17 ?_
  refine ev_iald dX12_cheap_18 (hS.lt (hc 88 rfl)) rfl (hS.mem _ (hc 88 rfl)) ⟨by decide, by decide⟩ ?_
  refine ev_rn (w := vi (μ2 88 0)) (by rw [show (w32 0).toNat = 0 from by decide]) ?_
  obtain ⟨g3, hf⟩ := gd_elim hf
  refine ev_lald dX12_cheap_19 (hS.lt (hc 92 rfl)) rfl (hS.mem _ (hc 92 rfl)) g3 ?_
  refine ev_l2i dX12_cheap_20 ?_
  refine ev_iconst dX12_cheap_21 ?_
  refine ev_isub dX12_cheap_22 ?_
  obtain rfl := Option.some.inj hf
  exact ev_iret dX12_cheap_23 rfl ⟨Nat.zero_le _, Nat.zero_le _⟩ hr
theorem tX12_cheap (hS : Sd M K P L) (hc : CIn P 75 93) (μ : Mem) {o : Int × Mem} (hf : fX12_cheap μ = some o) : Cn l D cy g K K yX12_cheap cX12_cheap 1 (some .int) (rmd 6 0 0) [vr g 75] M x (L μ) (PE (some (vi o.1)) M x (L o.2)) :=
 Cn.of (by decide) (Nat.le_of_ble_eq_true rfl) (eX12_cheap hS hc μ hf (PE_i _ _ _ _))
def fX12_bill_b56 (i0 : Int) (v4 : Int) (v6 : Int) (v12 : Int) (v13 : Int) (μ : Mem) : Option ((Int × Int × Mem) ⊕ (Int × Mem)) :=
  if w32 v13 < w32 1 then
    some (.inr (v12, μ))
  else
    gd (0 ≤ w32 v13 ∧ w32 v13 < 6) <|
    if w32 (μ 93 (w32 v13).toNat) < 0 then
      some (.inl (v12, (v13 + (-1)), μ))
    else
      gd (0 ≤ w32 v13 ∧ w32 v13 < 6) <|
      gd (0 ≤ w32 (μ 93 (w32 v13).toNat) ∧ w32 (μ 93 (w32 v13).toNat) < 3840) <|
      if w64 (μ 92 (w32 (μ 93 (w32 v13).toNat)).toNat) ≤ w64 0 then
        some (.inl (v12, (v13 + (-1)), μ))
      else
        gd (0 ≤ w32 v13 ∧ w32 v13 < 6) <|
        gd (0 ≤ w32 (μ 93 (w32 v13).toNat) ∧ w32 (μ 93 (w32 v13).toNat) < 3840) <|
        gd (0 ≤ w32 v13 ∧ w32 v13 < 6) <|
        gd (0 ≤ w32 v4 ∧ w32 v4 < 3840) <|
        lt (if w64 ((μ 92 (w32 (μ 93 (w32 v13).toNat)).toNat) + (w32 (μ 94 (w32 v13).toNat))) = w64 (μ 92 (w32 v4).toNat) then
            v13
          else
            v12) fun v24 =>
        some (.inl (v24, (v13 + (-1)), μ))
set_option maxRecDepth 4000 in
theorem tX12_bill_b56 (hS : Sd M K P L) (hc : CIn P 75 95) (i0 : Int) (v4 : Int) (v6 : Int) (v12 : Int) (v13 : Int) (μ : Mem)  {o : (Int × Int × Mem) ⊕ (Int × Mem)} (hf : fX12_bill_b56 i0 v4 v6 v12 v13 μ = some o) (hr : (Sum.elim (fun s : Int × Int × Mem => Ev l D cy g K yX12_bill cX12_bill 6 (some .int) (rmd 6 0 0) (MX D cy g K (rmd 6 0 0) Φ) 0 0 M x (L s.2.2) 56 [(0, vr g 75), (1, vi i0), (2, vi v4), (3, vi s.1), (4, vi v6), (5, vi s.2.1)] []) (fun e : Int × Mem => Ev l D cy g K yX12_bill cX12_bill 6 (some .int) (rmd 6 0 0) (MX D cy g K (rmd 6 0 0) Φ) 0 0 M x (L e.2) 133 [(0, vr g 75), (1, vi i0), (3, vi e.1), (4, vi v6)] [])) o) : Ev l D cy g K yX12_bill cX12_bill 6 (some .int) (rmd 6 0 0) (MX D cy g K (rmd 6 0 0) Φ) 0 0 M x (L μ) 56 [(0, vr g 75), (1, vi i0), (2, vi v4), (3, vi v12), (4, vi v6), (5, vi v13)] [] := by
  unfold fX12_bill_b56 at hf
  refine ev_iload dX12_bill_56 5 rfl ?_
  refine ev_iconst dX12_bill_58 ?_
  refine ev_icmp_lt 133 dX12_bill_59 (by decide) (fun h14 => ?_) (fun h14 => ?_)
  · rw [if_pos h14] at hf
    obtain rfl := Option.some.inj hf
    refine ev_sub [0, 1, 3, 4] rfl ?_
    exact hr
  · rw [if_neg h14] at hf
    refine ev_aload_n dX12_bill_62 0 rfl ?_
    refine ev_getK 27 dX12_bill_63 (hS.lt (hc 75 rfl)) rfl (hS.K1 (hc 75 rfl) rfl) ciX12 (by decide) rfl flX12_110 ?_
    refine ev_iload dX12_bill_66 5 rfl ?_
    obtain ⟨g15, hf⟩ := gd_elim hf
    refine ev_iald dX12_bill_68 (hS.lt (hc 93 rfl)) rfl (hS.mem _ (hc 93 rfl)) g15 ?_
    refine ev_if_lt 125 dX12_bill_69 (by decide) (fun h16 => ?_) (fun h16 => ?_)
    · rw [if_pos h16] at hf
      refine ev_iload_n dX12_bill_125 3 rfl ?_
      refine ev_istore_n (al2 := [(3, vi v12), (0, vr g 75), (1, vi i0), (2, vi v4), (4, vi v6), (5, vi v13)]) dX12_bill_126 3 rfl (by decide) rfl ?_
      refine ev_iinc (al2 := [(5, vi (v13 + (-1))), (3, vi v12), (0, vr g 75), (1, vi i0), (2, vi v4), (4, vi v6)]) dX12_bill_127 5 rfl (by decide) rfl ?_
      refine ev_goto 56 dX12_bill_130 (by decide) ?_
      obtain rfl := Option.some.inj hf
      refine ev_sub [2, 3, 4, 1, 5, 0] rfl ?_
      exact hr
    · rw [if_neg h16] at hf
      refine ev_aload_n dX12_bill_72 0 rfl ?_
      refine ev_getK 25 dX12_bill_73 (hS.lt (hc 75 rfl)) rfl (hS.K1 (hc 75 rfl) rfl) ciX12 (by decide) rfl flX12_107 ?_
      refine ev_aload_n dX12_bill_76 0 rfl ?_
      refine ev_getK 27 dX12_bill_77 (hS.lt (hc 75 rfl)) rfl (hS.K1 (hc 75 rfl) rfl) ciX12 (by decide) rfl flX12_110 ?_
      refine ev_iload dX12_bill_80 5 rfl ?_
      obtain ⟨g17, hf⟩ := gd_elim hf
      refine ev_iald dX12_bill_82 (hS.lt (hc 93 rfl)) rfl (hS.mem _ (hc 93 rfl)) g17 ?_
      obtain ⟨g18, hf⟩ := gd_elim hf
      refine ev_lald dX12_bill_83 (hS.lt (hc 92 rfl)) rfl (hS.mem _ (hc 92 rfl)) g18 ?_
      refine ev_lconst 0 dX12_bill_84 rfl ?_
      refine ev_lcmp_le 125 dX12_bill_85 dX12_bill_86 (by decide) (fun h19 => ?_) (fun h19 => ?_)
      · rw [if_pos h19] at hf
        refine ev_iload_n dX12_bill_125 3 rfl ?_
        refine ev_istore_n (al2 := [(3, vi v12), (0, vr g 75), (1, vi i0), (2, vi v4), (4, vi v6), (5, vi v13)]) dX12_bill_126 3 rfl (by decide) rfl ?_
        refine ev_iinc (al2 := [(5, vi (v13 + (-1))), (3, vi v12), (0, vr g 75), (1, vi i0), (2, vi v4), (4, vi v6)]) dX12_bill_127 5 rfl (by decide) rfl ?_
        refine ev_goto 56 dX12_bill_130 (by decide) ?_
        obtain rfl := Option.some.inj hf
        refine ev_sub [2, 3, 4, 1, 5, 0] rfl ?_
        exact hr
      · rw [if_neg h19] at hf
        refine ev_aload_n dX12_bill_89 0 rfl ?_
        refine ev_getK 25 dX12_bill_90 (hS.lt (hc 75 rfl)) rfl (hS.K1 (hc 75 rfl) rfl) ciX12 (by decide) rfl flX12_107 ?_
        refine ev_aload_n dX12_bill_93 0 rfl ?_
        refine ev_getK 27 dX12_bill_94 (hS.lt (hc 75 rfl)) rfl (hS.K1 (hc 75 rfl) rfl) ciX12 (by decide) rfl flX12_110 ?_
        refine ev_iload dX12_bill_97 5 rfl ?_
        obtain ⟨g20, hf⟩ := gd_elim hf
        refine ev_iald dX12_bill_99 (hS.lt (hc 93 rfl)) rfl (hS.mem _ (hc 93 rfl)) g20 ?_
        obtain ⟨g21, hf⟩ := gd_elim hf
        refine ev_lald dX12_bill_100 (hS.lt (hc 92 rfl)) rfl (hS.mem _ (hc 92 rfl)) g21 ?_
        refine ev_aload_n dX12_bill_101 0 rfl ?_
        refine ev_getK 28 dX12_bill_102 (hS.lt (hc 75 rfl)) rfl (hS.K1 (hc 75 rfl) rfl) ciX12 (by decide) rfl flX12_113 ?_
        refine ev_iload dX12_bill_105 5 rfl ?_
        obtain ⟨g22, hf⟩ := gd_elim hf
        refine ev_iald dX12_bill_107 (hS.lt (hc 94 rfl)) rfl (hS.mem _ (hc 94 rfl)) g22 ?_
        refine ev_i2l dX12_bill_108 ?_
        refine ev_ladd dX12_bill_109 ?_
        refine ev_aload_n dX12_bill_110 0 rfl ?_
        refine ev_getK 25 dX12_bill_111 (hS.lt (hc 75 rfl)) rfl (hS.K1 (hc 75 rfl) rfl) ciX12 (by decide) rfl flX12_107 ?_
        refine ev_iload_n dX12_bill_114 2 rfl ?_
        obtain ⟨g23, hf⟩ := gd_elim hf
        refine ev_lald dX12_bill_115 (hS.lt (hc 92 rfl)) rfl (hS.mem _ (hc 92 rfl)) g23 ?_
        obtain ⟨v24, hv24, hf⟩ := lt_elim hf
        have hJv24 : Ev l D cy g K yX12_bill cX12_bill 6 (some .int) (rmd 6 0 0) (MX D cy g K (rmd 6 0 0) Φ) 0 0 M x (L μ) 126 [(0, vr g 75), (1, vi i0), (2, vi v4), (3, vi v12), (4, vi v6), (5, vi v13)] [vi v24] := by
          refine ev_istore_n (al2 := [(3, vi v24), (0, vr g 75), (1, vi i0), (2, vi v4), (4, vi v6), (5, vi v13)]) dX12_bill_126 3 rfl (by decide) rfl ?_
          refine ev_iinc (al2 := [(5, vi (v13 + (-1))), (3, vi v24), (0, vr g 75), (1, vi i0), (2, vi v4), (4, vi v6)]) dX12_bill_127 5 rfl (by decide) rfl ?_
          refine ev_goto 56 dX12_bill_130 (by decide) ?_
          obtain rfl := Option.some.inj hf
          refine ev_sub [2, 3, 4, 1, 5, 0] rfl ?_
          exact hr
        refine ev_lcmp_ne 125 dX12_bill_116 dX12_bill_117 (by decide) (fun h25 => ?_) (fun h25 => ?_)
        · refine ev_iload_n dX12_bill_125 3 rfl ?_
          have e9 : v24 = v12 := hv24.trans ((if_neg h25))
          subst e9
          exact hJv24
        · refine ev_iload dX12_bill_120 5 rfl ?_
          refine ev_goto 126 dX12_bill_122 (by decide) ?_
          have e9 : v24 = v13 := hv24.trans ((if_pos h25))
          subst e9
          exact hJv24
def fX12_bill_b21 (i0 : Int) (v4 : Int) (v5 : Int) (v6 : Int) (μ : Mem) : Option ((Int × Int × Int × Mem) ⊕ (Int × Mem)) :=
  if w32 v6 ≤ w32 i0 then
    gd (0 ≤ w32 v4 ∧ w32 v4 < 3840) <|
    if w64 (μ 92 (w32 v4).toNat) < w64 2 then
      some (.inr ((-1), μ))
    else
      (fX12_leadsFrom v4 0 μ).bind fun μ10 =>
      lt (μ10 81 0) fun v11 =>
      (loopN (fun s => fX12_bill_b56 i0 v4 v6 s.1 s.2.1 s.2.2) FU ((-1), v11, μ10)).bind fun q26 =>
      gd (0 ≤ w32 q26.1 ∧ w32 q26.1 < 6) <|
      lt (q26.2 93 (w32 q26.1).toNat) fun v28 =>
      some (.inl (v28, q26.1, (v6 + 1), q26.2))
  else
    some (.inr (v5, μ))
set_option maxRecDepth 4000 in
theorem tX12_bill_b21 (hS : Sd M K P L) (hc : CIn P 75 95) (i0 : Int) (v4 : Int) (v5 : Int) (v6 : Int) (μ : Mem)  {o : (Int × Int × Int × Mem) ⊕ (Int × Mem)} (hf : fX12_bill_b21 i0 v4 v5 v6 μ = some o) (hr : (Sum.elim (fun s : Int × Int × Int × Mem => Ev l D cy g K yX12_bill cX12_bill 6 (some .int) (rmd 6 0 0) (MX D cy g K (rmd 6 0 0) Φ) 0 0 M x (L s.2.2.2) 21 [(0, vr g 75), (1, vi i0), (2, vi s.1), (3, vi s.2.1), (4, vi s.2.2.1)] []) (fun o : Int × Mem => Φ (some (vi o.1)) M x (L o.2))) o) : Ev l D cy g K yX12_bill cX12_bill 6 (some .int) (rmd 6 0 0) (MX D cy g K (rmd 6 0 0) Φ) 0 0 M x (L μ) 21 [(0, vr g 75), (1, vi i0), (2, vi v4), (3, vi v5), (4, vi v6)] [] := by
  unfold fX12_bill_b21 at hf
  refine ev_iload dX12_bill_21 4 rfl ?_
  refine ev_iload_n dX12_bill_23 1 rfl ?_
  refine ev_icmp_gt 146 dX12_bill_24 (by decide) (fun h7 => ?_) (fun h7 => ?_)
  · rw [if_neg h7] at hf
    refine ev_iload_n dX12_bill_146 3 rfl ?_
    obtain rfl := Option.some.inj hf
    exact ev_iret dX12_bill_147 rfl ⟨Nat.zero_le _, Nat.zero_le _⟩ hr
  · rw [if_pos h7] at hf
    refine ev_aload_n dX12_bill_27 0 rfl ?_
    refine ev_getK 25 dX12_bill_28 (hS.lt (hc 75 rfl)) rfl (hS.K1 (hc 75 rfl) rfl) ciX12 (by decide) rfl flX12_107 ?_
    refine ev_iload_n dX12_bill_31 2 rfl ?_
    obtain ⟨g8, hf⟩ := gd_elim hf
    refine ev_lald dX12_bill_32 (hS.lt (hc 92 rfl)) rfl (hS.mem _ (hc 92 rfl)) g8 ?_
    refine ev_ldc2 2 dX12_bill_33 klX12_336 (by decide) ?_
    refine ev_lcmp_ge 42 dX12_bill_36 dX12_bill_37 (by decide) (fun h9 => ?_) (fun h9 => ?_)
    · rw [if_neg h9] at hf
      refine ev_aload_n dX12_bill_42 0 rfl ?_
      refine ev_iload_n dX12_bill_43 2 rfl ?_
      refine ev_iconst dX12_bill_44 ?_
      obtain ⟨μ10, hμ10, hf⟩ := Option.bind_eq_some_iff.mp hf
      refine cl_V0 (As := [vi v4, vi 0]) (st := []) miX12_leadsFrom (tX12_leadsFrom hS (hc.w rfl rfl) v4 0 μ hμ10) dX12_bill_45 lkX12_321 inX12_leadsFrom rfl (hS.lt (hc 75 rfl)) rfl ⟨rfl, rfl⟩ ⟨⟨Nat.le_of_ble_eq_true rfl, Nat.le_of_ble_eq_true rfl⟩, Nat.zero_le _, Nat.zero_le _⟩ (Nat.le_of_ble_eq_true rfl) ?_
      refine ev_iconst dX12_bill_48 ?_
      refine ev_istore_n (al2 := [(3, vi (-1)), (0, vr g 75), (1, vi i0), (2, vi v4), (4, vi v6)]) dX12_bill_49 3 rfl (by decide) rfl ?_
      refine ev_aload_n dX12_bill_50 1 rfl ?_
      refine cl_V1 (As := []) (st := []) miX12_cakes (tX12_cakes hS (hc.w rfl rfl) μ10 (o := (μ10 81 0)) rfl) dX12_bill_51 lkX12_209 inX12_cakes rfl (hS.lt (hc 75 rfl)) rfl ⟨rfl, rfl⟩ ⟨⟨Nat.le_of_ble_eq_true rfl, Nat.le_of_ble_eq_true rfl⟩, Nat.zero_le _, Nat.zero_le _⟩ (Nat.le_of_ble_eq_true rfl) ?_
      obtain ⟨v11, hv11, hf⟩ := lt_elim hf
      refine ev_rni hv11 ?_
      refine ev_istore (al2 := [(5, vi v11), (3, vi (-1)), (0, vr g 75), (1, vi i0), (2, vi v4), (4, vi v6)]) dX12_bill_54 (by decide) rfl ?_
      obtain ⟨q26, hq26, hf⟩ := Option.bind_eq_some_iff.mp hf
      refine ev_sub [2, 3, 4, 1, 5, 0] rfl ?_
      refine loop_ev (H := (fun s : Int × Int × Mem => Ev l D cy g K yX12_bill cX12_bill 6 (some .int) (rmd 6 0 0) (MX D cy g K (rmd 6 0 0) Φ) 0 0 M x (L s.2.2) 56 [(0, vr g 75), (1, vi i0), (2, vi v4), (3, vi s.1), (4, vi v6), (5, vi s.2.1)] [])) (Hx := (fun e : Int × Mem => Ev l D cy g K yX12_bill cX12_bill 6 (some .int) (rmd 6 0 0) (MX D cy g K (rmd 6 0 0) Φ) 0 0 M x (L e.2) 133 [(0, vr g 75), (1, vi i0), (3, vi e.1), (4, vi v6)] [])) (fun s o hb hr => tX12_bill_b56 hS hc i0 v4 v6 s.1 s.2.1 s.2.2 hb hr) FU _ _ hq26 ?_
      show Ev l D cy g K yX12_bill cX12_bill 6 (some .int) (rmd 6 0 0) (MX D cy g K (rmd 6 0 0) Φ) 0 0 M x (L q26.2) 133 [(0, vr g 75), (1, vi i0), (3, vi q26.1), (4, vi v6)] []
      refine ev_aload_n dX12_bill_133 0 rfl ?_
      refine ev_getK 27 dX12_bill_134 (hS.lt (hc 75 rfl)) rfl (hS.K1 (hc 75 rfl) rfl) ciX12 (by decide) rfl flX12_110 ?_
      refine ev_iload_n dX12_bill_137 2 rfl ?_
      obtain ⟨g27, hf⟩ := gd_elim hf
      refine ev_iald dX12_bill_138 (hS.lt (hc 93 rfl)) rfl (hS.mem _ (hc 93 rfl)) g27 ?_
      obtain ⟨v28, hv28, hf⟩ := lt_elim hf
      refine ev_rni hv28 ?_
      refine ev_istore_n (al2 := [(2, vi v28), (0, vr g 75), (1, vi i0), (3, vi q26.1), (4, vi v6)]) dX12_bill_139 2 rfl (by decide) rfl ?_
      refine ev_iinc (al2 := [(4, vi (v6 + 1)), (2, vi v28), (0, vr g 75), (1, vi i0), (3, vi q26.1)]) dX12_bill_140 4 rfl (by decide) rfl ?_
      refine ev_goto 21 dX12_bill_143 (by decide) ?_
      obtain rfl := Option.some.inj hf
      refine ev_sub [2, 3, 1, 4, 0] rfl ?_
      exact hr
    · rw [if_pos h9] at hf
      refine ev_iconst dX12_bill_40 ?_
      obtain rfl := Option.some.inj hf
      exact ev_iret dX12_bill_41 rfl ⟨Nat.zero_le _, Nat.zero_le _⟩ hr
def fX12_bill (i0 : Int) (μ : Mem) : Option (Int × Mem) :=
  lt (upd2 μ 75 0 0) fun μ1 =>
  (fX12_laysCheap μ1).bind fun μ2 =>
  lt (μ2 88 0) fun v3 =>
  loopN (fun s => fX12_bill_b21 i0 s.1 s.2.1 s.2.2.1 s.2.2.2) FU (v3, (-1), 0, μ2)
set_option maxRecDepth 4000 in
theorem eX12_bill (hS : Sd M K P L) (hc : CIn P 75 95) (i0 : Int) (μ : Mem)  {o : Int × Mem} (hf : fX12_bill i0 μ = some o) (hr : (fun o : Int × Mem => Φ (some (vi o.1)) M x (L o.2)) o) : Ev l D cy g K yX12_bill cX12_bill 6 (some .int) (rmd 6 0 0) (MX D cy g K (rmd 6 0 0) Φ) 0 0 M x (L μ) 0 [(0, vr g 75), (1, vi i0)] [] := by
  unfold fX12_bill at hf
  refine ev_aload_n dX12_bill_0 0 rfl ?_
  refine ev_iconst dX12_bill_1 ?_
  obtain ⟨μ1, hμ1, hf⟩ := lt_elim hf
  refine ev_putI 0 dX12_bill_2 (hS.lt (hc 75 rfl)) rfl ciX12 (by decide) (Or.inl rfl) rfl rfl flX12_1 (hS.up (hc 75 rfl) hμ1) ?_
  refine ev_aload_n dX12_bill_5 0 rfl ?_
  obtain ⟨μ2, hμ2, hf⟩ := Option.bind_eq_some_iff.mp hf
  refine cl_V0 (As := []) (st := []) miX12_laysCheap (tX12_laysCheap hS (hc.w rfl rfl) μ1 hμ2) dX12_bill_6 lkX12_333 inX12_laysCheap rfl (hS.lt (hc 75 rfl)) rfl ⟨rfl, rfl⟩ ⟨⟨Nat.le_of_ble_eq_true rfl, Nat.le_of_ble_eq_true rfl⟩, Nat.zero_le _, Nat.zero_le _⟩ (Nat.le_of_ble_eq_true rfl) ?_
  refine ev_aload_n dX12_bill_9 0 rfl ?_
  refine ev_getK 19 dX12_bill_10 (hS.lt (hc 75 rfl)) rfl (hS.K1 (hc 75 rfl) rfl) ciX12 (by decide) rfl flX12_94 ?_
  refine ev_iconst dX12_bill_13 ?_
  refine ev_iald dX12_bill_14 (hS.lt (hc 88 rfl)) rfl (hS.mem _ (hc 88 rfl)) ⟨by decide, by decide⟩ ?_
  refine ev_rn (w := vi (μ2 88 0)) (by rw [show (w32 0).toNat = 0 from by decide]) ?_
  obtain ⟨v3, hv3, hf⟩ := lt_elim hf
  refine ev_rni hv3 ?_
  refine ev_istore_n (al2 := [(2, vi v3), (0, vr g 75), (1, vi i0)]) dX12_bill_15 2 rfl (by decide) rfl ?_
  refine ev_iconst dX12_bill_16 ?_
  refine ev_istore_n (al2 := [(3, vi (-1)), (2, vi v3), (0, vr g 75), (1, vi i0)]) dX12_bill_17 3 rfl (by decide) rfl ?_
  refine ev_iconst dX12_bill_18 ?_
  refine ev_istore (al2 := [(4, vi 0), (3, vi (-1)), (2, vi v3), (0, vr g 75), (1, vi i0)]) dX12_bill_19 (by decide) rfl ?_
  refine ev_sub [3, 4, 2, 1, 0] rfl ?_
  exact loop_ev (H := (fun s : Int × Int × Int × Mem => Ev l D cy g K yX12_bill cX12_bill 6 (some .int) (rmd 6 0 0) (MX D cy g K (rmd 6 0 0) Φ) 0 0 M x (L s.2.2.2) 21 [(0, vr g 75), (1, vi i0), (2, vi s.1), (3, vi s.2.1), (4, vi s.2.2.1)] [])) (Hx := (fun o : Int × Mem => Φ (some (vi o.1)) M x (L o.2))) (fun s o hb hr => tX12_bill_b21 hS hc i0 s.1 s.2.1 s.2.2.1 s.2.2.2 hb hr) FU _ _ hf hr
theorem tX12_bill (hS : Sd M K P L) (hc : CIn P 75 95) (i0 : Int) (μ : Mem) {o : Int × Mem} (hf : fX12_bill i0 μ = some o) : Cn l D cy g K K yX12_bill cX12_bill 6 (some .int) (rmd 6 0 0) [vr g 75, vi i0] M x (L μ) (PE (some (vi o.1)) M x (L o.2)) :=
 Cn.of (by decide) (Nat.le_of_ble_eq_true rfl) (eX12_bill hS hc i0 μ hf (PE_i _ _ _ _))
def fX12_dear_b13 (v3 : Int) (v4 : Int) (μ : Mem) : Option ((Int × Int × Mem) ⊕ (Int × Mem)) :=
  (fX12_stacks μ).bind fun v5 =>
  if w32 v4 < w32 v5 then
    gd (0 ≤ w32 v4 ∧ w32 v4 < 3840) <|
    if w64 (μ 92 (w32 v4).toNat) ≤ w64 v3 then
      some (.inl (v3, (v4 + 1), μ))
    else
      gd (0 ≤ w32 v4 ∧ w32 v4 < 3840) <|
      lt (μ 92 (w32 v4).toNat) fun v10 =>
      some (.inl (v10, (v4 + 1), μ))
  else
    some (.inr (v3, μ))
set_option maxRecDepth 4000 in
theorem tX12_dear_b13 (hS : Sd M K P L) (hc : CIn P 75 93) (v3 : Int) (v4 : Int) (μ : Mem)  {o : (Int × Int × Mem) ⊕ (Int × Mem)} (hf : fX12_dear_b13 v3 v4 μ = some o) (hr : (Sum.elim (fun s : Int × Int × Mem => Ev l D cy g K yX12_dear cX12_dear 4 (some .int) (rmd 6 0 0) (MX D cy g K (rmd 6 0 0) Φ) 0 0 M x (L s.2.2) 13 [(0, vr g 75), (1, vl s.1), (3, vi s.2.1)] []) (fun e : Int × Mem => Ev l D cy g K yX12_dear cX12_dear 4 (some .int) (rmd 6 0 0) (MX D cy g K (rmd 6 0 0) Φ) 0 0 M x (L e.2) 49 [(1, vl e.1)] [])) o) : Ev l D cy g K yX12_dear cX12_dear 4 (some .int) (rmd 6 0 0) (MX D cy g K (rmd 6 0 0) Φ) 0 0 M x (L μ) 13 [(0, vr g 75), (1, vl v3), (3, vi v4)] [] := by
  unfold fX12_dear_b13 at hf
  refine ev_iload_n dX12_dear_13 2 rfl ?_
  refine ev_aload_n dX12_dear_14 0 rfl ?_
  obtain ⟨v5, hv5, hf⟩ := Option.bind_eq_some_iff.mp hf
  refine cl_V1 (As := []) (st := [vi v4]) miX12_stacks (tX12_stacks hS (hc.w rfl rfl) μ hv5) dX12_dear_15 lkX12_294 inX12_stacks rfl (hS.lt (hc 75 rfl)) rfl ⟨rfl, rfl⟩ ⟨⟨Nat.le_of_ble_eq_true rfl, Nat.le_of_ble_eq_true rfl⟩, Nat.zero_le _, Nat.zero_le _⟩ (Nat.le_of_ble_eq_true rfl) ?_
  refine ev_icmp_ge 49 dX12_dear_18 (by decide) (fun h6 => ?_) (fun h6 => ?_)
  · rw [if_neg h6] at hf
    obtain rfl := Option.some.inj hf
    refine ev_sub [1] rfl ?_
    exact hr
  · rw [if_pos h6] at hf
    refine ev_aload_n dX12_dear_21 0 rfl ?_
    refine ev_getK 25 dX12_dear_22 (hS.lt (hc 75 rfl)) rfl (hS.K1 (hc 75 rfl) rfl) ciX12 (by decide) rfl flX12_107 ?_
    refine ev_iload_n dX12_dear_25 2 rfl ?_
    obtain ⟨g7, hf⟩ := gd_elim hf
    refine ev_lald dX12_dear_26 (hS.lt (hc 92 rfl)) rfl (hS.mem _ (hc 92 rfl)) g7 ?_
    refine ev_lload_n dX12_dear_27 1 rfl ?_
    refine ev_lcmp_le 41 dX12_dear_28 dX12_dear_29 (by decide) (fun h8 => ?_) (fun h8 => ?_)
    · rw [if_pos h8] at hf
      refine ev_lload_n dX12_dear_41 1 rfl ?_
      refine ev_lstore_n (al2 := [(1, vl v3), (0, vr g 75), (3, vi v4)]) dX12_dear_42 1 rfl (by decide) rfl ?_
      refine ev_iinc (al2 := [(3, vi (v4 + 1)), (1, vl v3), (0, vr g 75)]) dX12_dear_43 2 rfl (by decide) rfl ?_
      refine ev_goto 13 dX12_dear_46 (by decide) ?_
      obtain rfl := Option.some.inj hf
      refine ev_sub [2, 1, 0] rfl ?_
      exact hr
    · rw [if_neg h8] at hf
      refine ev_aload_n dX12_dear_32 0 rfl ?_
      refine ev_getK 25 dX12_dear_33 (hS.lt (hc 75 rfl)) rfl (hS.K1 (hc 75 rfl) rfl) ciX12 (by decide) rfl flX12_107 ?_
      refine ev_iload_n dX12_dear_36 2 rfl ?_
      obtain ⟨g9, hf⟩ := gd_elim hf
      refine ev_lald dX12_dear_37 (hS.lt (hc 92 rfl)) rfl (hS.mem _ (hc 92 rfl)) g9 ?_
      refine ev_goto 42 dX12_dear_38 (by decide) ?_
      obtain ⟨v10, hv10, hf⟩ := lt_elim hf
      refine ev_rnl hv10 ?_
      refine ev_lstore_n (al2 := [(1, vl v10), (0, vr g 75), (3, vi v4)]) dX12_dear_42 1 rfl (by decide) rfl ?_
      refine ev_iinc (al2 := [(3, vi (v4 + 1)), (1, vl v10), (0, vr g 75)]) dX12_dear_43 2 rfl (by decide) rfl ?_
      refine ev_goto 13 dX12_dear_46 (by decide) ?_
      obtain rfl := Option.some.inj hf
      refine ev_sub [2, 1, 0] rfl ?_
      exact hr
def fX12_dear  (μ : Mem) : Option (Int × Mem) :=
  lt (upd2 μ 75 0 0) fun μ1 =>
  (fX12_laysCheap μ1).bind fun μ2 =>
  (loopN (fun s => fX12_dear_b13 s.1 s.2.1 s.2.2) FU (0, 0, μ2)).bind fun q11 =>
  some ((((l_2i q11.1) - 1), q11.2))
set_option maxRecDepth 4000 in
theorem eX12_dear (hS : Sd M K P L) (hc : CIn P 75 93)  (μ : Mem)  {o : Int × Mem} (hf : fX12_dear  μ = some o) (hr : (fun o : Int × Mem => Φ (some (vi o.1)) M x (L o.2)) o) : Ev l D cy g K yX12_dear cX12_dear 4 (some .int) (rmd 6 0 0) (MX D cy g K (rmd 6 0 0) Φ) 0 0 M x (L μ) 0 [(0, vr g 75)] [] := by
  unfold fX12_dear at hf
  refine ev_aload_n dX12_dear_0 0 rfl ?_
  refine ev_iconst dX12_dear_1 ?_
  obtain ⟨μ1, hμ1, hf⟩ := lt_elim hf
  refine ev_putI 0 dX12_dear_2 (hS.lt (hc 75 rfl)) rfl ciX12 (by decide) (Or.inl rfl) rfl rfl flX12_1 (hS.up (hc 75 rfl) hμ1) ?_
  refine ev_aload_n dX12_dear_5 0 rfl ?_
  obtain ⟨μ2, hμ2, hf⟩ := Option.bind_eq_some_iff.mp hf
  refine cl_V0 (As := []) (st := []) miX12_laysCheap (tX12_laysCheap hS (hc.w rfl rfl) μ1 hμ2) dX12_dear_6 lkX12_333 inX12_laysCheap rfl (hS.lt (hc 75 rfl)) rfl ⟨rfl, rfl⟩ ⟨⟨Nat.le_of_ble_eq_true rfl, Nat.le_of_ble_eq_true rfl⟩, Nat.zero_le _, Nat.zero_le _⟩ (Nat.le_of_ble_eq_true rfl) ?_
  refine ev_lconst 0 dX12_dear_9 rfl ?_
  refine ev_lstore_n (al2 := [(1, vl 0), (0, vr g 75)]) dX12_dear_10 1 rfl (by decide) rfl ?_
  refine ev_iconst dX12_dear_11 ?_
  refine ev_istore_n (al2 := [(3, vi 0), (1, vl 0), (0, vr g 75)]) dX12_dear_12 3 rfl (by decide) rfl ?_
  obtain ⟨q11, hq11, hf⟩ := Option.bind_eq_some_iff.mp hf
  refine ev_sub [2, 1, 0] rfl ?_
  refine loop_ev (H := (fun s : Int × Int × Mem => Ev l D cy g K yX12_dear cX12_dear 4 (some .int) (rmd 6 0 0) (MX D cy g K (rmd 6 0 0) Φ) 0 0 M x (L s.2.2) 13 [(0, vr g 75), (1, vl s.1), (3, vi s.2.1)] [])) (Hx := (fun e : Int × Mem => Ev l D cy g K yX12_dear cX12_dear 4 (some .int) (rmd 6 0 0) (MX D cy g K (rmd 6 0 0) Φ) 0 0 M x (L e.2) 49 [(1, vl e.1)] [])) (fun s o hb hr => tX12_dear_b13 hS hc s.1 s.2.1 s.2.2 hb hr) FU _ _ hq11 ?_
  show Ev l D cy g K yX12_dear cX12_dear 4 (some .int) (rmd 6 0 0) (MX D cy g K (rmd 6 0 0) Φ) 0 0 M x (L q11.2) 49 [(1, vl q11.1)] []
  refine ev_lload_n dX12_dear_49 0 rfl ?_
  refine ev_l2i dX12_dear_50 ?_
  refine ev_iconst dX12_dear_51 ?_
  refine ev_isub dX12_dear_52 ?_
  obtain rfl := Option.some.inj hf
  exact ev_iret dX12_dear_53 rfl ⟨Nat.zero_le _, Nat.zero_le _⟩ hr
theorem tX12_dear (hS : Sd M K P L) (hc : CIn P 75 93) (μ : Mem) {o : Int × Mem} (hf : fX12_dear μ = some o) : Cn l D cy g K K yX12_dear cX12_dear 4 (some .int) (rmd 6 0 0) [vr g 75] M x (L μ) (PE (some (vi o.1)) M x (L o.2)) :=
 Cn.of (by decide) (Nat.le_of_ble_eq_true rfl) (eX12_dear hS hc μ hf (PE_i _ _ _ _))
def fX12_reaches_b7 (v2 : Int) (μ : Mem) : Option ((Int × Mem) ⊕ (Mem)) :=
  (fX12_stacks μ).bind fun v3 =>
  if w32 v2 < w32 v3 then
    gd (0 ≤ w32 v2 ∧ w32 v2 < 3840) <|
    lt (upd2 μ 92 ((w32 v2).toNat) 0) fun μ6 =>
    some (.inl ((v2 + 1), μ6))
  else
    some (.inr μ)
set_option maxRecDepth 4000 in
theorem tX12_reaches_b7 (hS : Sd M K P L) (hc : CIn P 75 95) (v2 : Int) (μ : Mem)  {o : (Int × Mem) ⊕ (Mem)} (hf : fX12_reaches_b7 v2 μ = some o) (hr : (Sum.elim (fun s : Int × Mem => Ev l D cy g K yX12_reaches cX12_reaches 6 (some .int) (rmd 6 0 0) (MX D cy g K (rmd 6 0 0) Φ) 0 0 M x (L s.2) 7 [(0, vr g 75), (1, vi s.1)] []) (fun e : Mem => Ev l D cy g K yX12_reaches cX12_reaches 6 (some .int) (rmd 6 0 0) (MX D cy g K (rmd 6 0 0) Φ) 0 0 M x (L e) 28 [(0, vr g 75)] [])) o) : Ev l D cy g K yX12_reaches cX12_reaches 6 (some .int) (rmd 6 0 0) (MX D cy g K (rmd 6 0 0) Φ) 0 0 M x (L μ) 7 [(0, vr g 75), (1, vi v2)] [] := by
  unfold fX12_reaches_b7 at hf
  refine ev_iload_n dX12_reaches_7 1 rfl ?_
  refine ev_aload_n dX12_reaches_8 0 rfl ?_
  obtain ⟨v3, hv3, hf⟩ := Option.bind_eq_some_iff.mp hf
  refine cl_V1 (As := []) (st := [vi v2]) miX12_stacks (tX12_stacks hS (hc.w rfl rfl) μ hv3) dX12_reaches_9 lkX12_294 inX12_stacks rfl (hS.lt (hc 75 rfl)) rfl ⟨rfl, rfl⟩ ⟨⟨Nat.le_of_ble_eq_true rfl, Nat.le_of_ble_eq_true rfl⟩, Nat.zero_le _, Nat.zero_le _⟩ (Nat.le_of_ble_eq_true rfl) ?_
  refine ev_icmp_ge 28 dX12_reaches_12 (by decide) (fun h4 => ?_) (fun h4 => ?_)
  · rw [if_neg h4] at hf
    obtain rfl := Option.some.inj hf
    refine ev_sub [0] rfl ?_
    exact hr
  · rw [if_pos h4] at hf
    refine ev_aload_n dX12_reaches_15 0 rfl ?_
    refine ev_getK 25 dX12_reaches_16 (hS.lt (hc 75 rfl)) rfl (hS.K1 (hc 75 rfl) rfl) ciX12 (by decide) rfl flX12_107 ?_
    refine ev_iload_n dX12_reaches_19 1 rfl ?_
    refine ev_lconst 0 dX12_reaches_20 rfl ?_
    obtain ⟨g5, hf⟩ := gd_elim hf
    obtain ⟨μ6, hμ6, hf⟩ := lt_elim hf
    refine ev_last dX12_reaches_21 (hS.lt (hc 92 rfl)) rfl g5 (hS.up (hc 92 rfl) hμ6) ?_
    refine ev_iinc (al2 := [(1, vi (v2 + 1)), (0, vr g 75)]) dX12_reaches_22 1 rfl (by decide) rfl ?_
    refine ev_goto 7 dX12_reaches_25 (by decide) ?_
    obtain rfl := Option.some.inj hf
    refine ev_sub [1, 0] rfl ?_
    exact hr
def fX12_reaches_j148 (c14 : Int) (v15 : Int) (v32 : Int) (v33 : Int) (v34 : Bool) (μ : Mem) : Option ((Bool × Int × Mem) ⊕ (Bool × Mem)) :=
  lt (if w32 v32 = 0 then
      if v34 = true then
        true
      else
        false
    else
      true) fun v35 =>
  some (.inl (v35, (v33 + 1), μ))
set_option maxRecDepth 4000 in
theorem tX12_reaches_j148 (hS : Sd M K P L) (hc : CIn P 75 95) (c14 : Int) (v15 : Int) (v32 : Int) (v33 : Int) (v34 : Bool) (μ : Mem)  {o : (Bool × Int × Mem) ⊕ (Bool × Mem)} (hf : fX12_reaches_j148 c14 v15 v32 v33 v34 μ = some o) (hr : (Sum.elim (fun s : Bool × Int × Mem => Ev l D cy g K yX12_reaches cX12_reaches 6 (some .int) (rmd 6 0 0) (MX D cy g K (rmd 6 0 0) Φ) 0 0 M x (L s.2.2) 84 [(0, vr g 75), (1, vb s.1), (2, vi c14), (3, vi v15), (4, vi s.2.1)] []) (fun e : Bool × Mem => Ev l D cy g K yX12_reaches cX12_reaches 6 (some .int) (rmd 6 0 0) (MX D cy g K (rmd 6 0 0) Φ) 0 0 M x (L e.2) 169 [(0, vr g 75), (1, vb e.1), (2, vi c14), (3, vi v15)] [])) o) : Ev l D cy g K yX12_reaches cX12_reaches 6 (some .int) (rmd 6 0 0) (MX D cy g K (rmd 6 0 0) Φ) 0 0 M x (L μ) 148 [(0, vr g 75), (1, vi v32), (2, vi c14), (3, vi v15), (4, vi v33), (5, vb v34)] [] := by
  unfold fX12_reaches_j148 at hf
  refine ev_iload_n dX12_reaches_148 1 rfl ?_
  obtain ⟨v35, hv35, hf⟩ := lt_elim hf
  have hJv35 : Ev l D cy g K yX12_reaches cX12_reaches 6 (some .int) (rmd 6 0 0) (MX D cy g K (rmd 6 0 0) Φ) 0 0 M x (L μ) 162 [(0, vr g 75), (1, vi v32), (2, vi c14), (3, vi v15), (4, vi v33), (5, vb v34)] [vb v35] := by
    refine ev_istore_n (al2 := [(1, vb v35), (0, vr g 75), (2, vi c14), (3, vi v15), (4, vi v33), (5, vb v34)]) dX12_reaches_162 1 rfl (by decide) rfl ?_
    refine ev_iinc (al2 := [(4, vi (v33 + 1)), (1, vb v35), (0, vr g 75), (2, vi c14), (3, vi v15), (5, vb v34)]) dX12_reaches_163 4 rfl (by decide) rfl ?_
    refine ev_goto 84 dX12_reaches_166 (by decide) ?_
    obtain rfl := Option.some.inj hf
    refine ev_sub [2, 1, 3, 4, 0] rfl ?_
    exact hr
  refine ev_if_ne 157 dX12_reaches_149 (by decide) (fun h36 => ?_) (fun h36 => ?_)
  · refine ev_iconst dX12_reaches_157 ?_
    refine ev_goto 162 dX12_reaches_158 (by decide) ?_
    have e9 : v35 = true := hv35.trans ((if_neg h36))
    subst e9
    exact hJv35
  · refine ev_iload dX12_reaches_152 5 rfl ?_
    refine ev_ifb_eq 161 dX12_reaches_154 (by decide) (fun h37 => ?_) (fun h37 => ?_)
    · refine ev_iconst dX12_reaches_161 ?_
      have e9 : v35 = false := hv35.trans (((if_pos h36)).trans (if_neg h37))
      subst e9
      exact hJv35
    · refine ev_iconst dX12_reaches_157 ?_
      refine ev_goto 162 dX12_reaches_158 (by decide) ?_
      have e9 : v35 = true := hv35.trans (((if_pos h36)).trans (if_pos h37))
      subst e9
      exact hJv35
def fX12_reaches_j125 (c14 : Int) (v15 : Int) (v28 : Int) (v29 : Int) (w30 : Bool) (μ : Mem) : Option ((Bool × Int × Mem) ⊕ (Bool × Mem)) :=
  if w30 = true then
    gd (0 ≤ w32 v29 ∧ w32 v29 < 6) <|
    gd (0 ≤ w32 (μ 93 (w32 v29).toNat) ∧ w32 (μ 93 (w32 v29).toNat) < 3840) <|
    lt (upd2 μ 92 ((w32 (μ 93 (w32 v29).toNat)).toNat) (w32 (c14 + 1))) fun μ40 =>
    fX12_reaches_j148 c14 v15 v28 v29 w30 μ40
  else
    fX12_reaches_j148 c14 v15 v28 v29 w30 μ
set_option maxRecDepth 4000 in
theorem tX12_reaches_j125 (hS : Sd M K P L) (hc : CIn P 75 95) (c14 : Int) (v15 : Int) (v28 : Int) (v29 : Int) (w30 : Bool) (μ : Mem)  {o : (Bool × Int × Mem) ⊕ (Bool × Mem)} (hf : fX12_reaches_j125 c14 v15 v28 v29 w30 μ = some o) (hr : (Sum.elim (fun s : Bool × Int × Mem => Ev l D cy g K yX12_reaches cX12_reaches 6 (some .int) (rmd 6 0 0) (MX D cy g K (rmd 6 0 0) Φ) 0 0 M x (L s.2.2) 84 [(0, vr g 75), (1, vb s.1), (2, vi c14), (3, vi v15), (4, vi s.2.1)] []) (fun e : Bool × Mem => Ev l D cy g K yX12_reaches cX12_reaches 6 (some .int) (rmd 6 0 0) (MX D cy g K (rmd 6 0 0) Φ) 0 0 M x (L e.2) 169 [(0, vr g 75), (1, vb e.1), (2, vi c14), (3, vi v15)] [])) o) : Ev l D cy g K yX12_reaches cX12_reaches 6 (some .int) (rmd 6 0 0) (MX D cy g K (rmd 6 0 0) Φ) 0 0 M x (L μ) 125 [(0, vr g 75), (1, vi v28), (2, vi c14), (3, vi v15), (4, vi v29)] [vb w30] := by
  unfold fX12_reaches_j125 at hf
  refine ev_istore (al2 := [(5, vb w30), (0, vr g 75), (1, vi v28), (2, vi c14), (3, vi v15), (4, vi v29)]) dX12_reaches_125 (by decide) rfl ?_
  refine ev_iload dX12_reaches_127 0 rfl ?_
  refine ev_ifb_eq 148 dX12_reaches_129 (by decide) (fun h31 => ?_) (fun h31 => ?_)
  · rw [if_neg h31] at hf
    refine ev_sub [1, 2, 3, 4, 5, 0] rfl ?_
    exact tX12_reaches_j148 hS hc c14 v15 v28 v29 w30 μ hf hr
  · rw [if_pos h31] at hf
    refine ev_aload_n dX12_reaches_132 1 rfl ?_
    refine ev_getK 25 dX12_reaches_133 (hS.lt (hc 75 rfl)) rfl (hS.K1 (hc 75 rfl) rfl) ciX12 (by decide) rfl flX12_107 ?_
    refine ev_aload_n dX12_reaches_136 1 rfl ?_
    refine ev_getK 27 dX12_reaches_137 (hS.lt (hc 75 rfl)) rfl (hS.K1 (hc 75 rfl) rfl) ciX12 (by decide) rfl flX12_110 ?_
    refine ev_iload dX12_reaches_140 5 rfl ?_
    obtain ⟨g38, hf⟩ := gd_elim hf
    refine ev_iald dX12_reaches_142 (hS.lt (hc 93 rfl)) rfl (hS.mem _ (hc 93 rfl)) g38 ?_
    refine ev_iload_n dX12_reaches_143 3 rfl ?_
    refine ev_iconst dX12_reaches_144 ?_
    refine ev_iadd dX12_reaches_145 ?_
    refine ev_i2l dX12_reaches_146 ?_
    obtain ⟨g39, hf⟩ := gd_elim hf
    obtain ⟨μ40, hμ40, hf⟩ := lt_elim hf
    refine ev_last dX12_reaches_147 (hS.lt (hc 92 rfl)) rfl g39 (hS.up (hc 92 rfl) hμ40) ?_
    refine ev_sub [1, 2, 3, 4, 5, 0] rfl ?_
    exact tX12_reaches_j148 hS hc c14 v15 v28 v29 w30 μ40 hf hr
def fX12_reaches_j124 (c14 : Int) (v15 : Int) (v26 : Int) (v27 : Int) (μ : Mem) : Option ((Bool × Int × Mem) ⊕ (Bool × Mem)) :=
  fX12_reaches_j125 c14 v15 v26 v27 false μ
set_option maxRecDepth 4000 in
theorem tX12_reaches_j124 (hS : Sd M K P L) (hc : CIn P 75 95) (c14 : Int) (v15 : Int) (v26 : Int) (v27 : Int) (μ : Mem)  {o : (Bool × Int × Mem) ⊕ (Bool × Mem)} (hf : fX12_reaches_j124 c14 v15 v26 v27 μ = some o) (hr : (Sum.elim (fun s : Bool × Int × Mem => Ev l D cy g K yX12_reaches cX12_reaches 6 (some .int) (rmd 6 0 0) (MX D cy g K (rmd 6 0 0) Φ) 0 0 M x (L s.2.2) 84 [(0, vr g 75), (1, vb s.1), (2, vi c14), (3, vi v15), (4, vi s.2.1)] []) (fun e : Bool × Mem => Ev l D cy g K yX12_reaches cX12_reaches 6 (some .int) (rmd 6 0 0) (MX D cy g K (rmd 6 0 0) Φ) 0 0 M x (L e.2) 169 [(0, vr g 75), (1, vb e.1), (2, vi c14), (3, vi v15)] [])) o) : Ev l D cy g K yX12_reaches cX12_reaches 6 (some .int) (rmd 6 0 0) (MX D cy g K (rmd 6 0 0) Φ) 0 0 M x (L μ) 124 [(0, vr g 75), (1, vi v26), (2, vi c14), (3, vi v15), (4, vi v27)] [] := by
  unfold fX12_reaches_j124 at hf
  refine ev_iconst dX12_reaches_124 ?_
  refine ev_sub [0, 1, 2, 3, 4] rfl ?_
  exact tX12_reaches_j125 hS hc c14 v15 v26 v27 false μ hf hr
def fX12_reaches_b84 (c14 : Int) (v15 : Int) (v21 : Bool) (v22 : Int) (μ : Mem) : Option ((Bool × Int × Mem) ⊕ (Bool × Mem)) :=
  if w32 v22 ≤ w32 (μ 81 0) then
    gd (0 ≤ w32 v22 ∧ w32 v22 < 6) <|
    if w32 (μ 93 (w32 v22).toNat) < 0 then
      fX12_reaches_j124 c14 v15 (b2i v21) v22 μ
    else
      gd (0 ≤ w32 v22 ∧ w32 v22 < 6) <|
      gd (0 ≤ w32 (μ 93 (w32 v22).toNat) ∧ w32 (μ 93 (w32 v22).toNat) < 3840) <|
      lt (if w64 (μ 92 (w32 (μ 93 (w32 v22).toNat)).toNat) = w64 0 then
          true
        else
          false) fun v46 =>
      if v46 = true then
        gd (0 ≤ w32 v22 ∧ w32 v22 < 6) <|
        gd (0 ≤ w32 (μ 93 (w32 v22).toNat) ∧ w32 (μ 93 (w32 v22).toNat) < 3840) <|
        lt (upd2 μ 92 ((w32 (μ 93 (w32 v22).toNat)).toNat) (w32 (c14 + 1))) fun μ54 =>
        fX12_reaches_j148 c14 v15 (b2i v21) v22 v46 μ54
      else
        fX12_reaches_j148 c14 v15 (b2i v21) v22 v46 μ
  else
    some (.inr (v21, μ))
set_option maxRecDepth 4000 in
theorem tX12_reaches_b84 (hS : Sd M K P L) (hc : CIn P 75 95) (c14 : Int) (v15 : Int) (v21 : Bool) (v22 : Int) (μ : Mem)  {o : (Bool × Int × Mem) ⊕ (Bool × Mem)} (hf : fX12_reaches_b84 c14 v15 v21 v22 μ = some o) (hr : (Sum.elim (fun s : Bool × Int × Mem => Ev l D cy g K yX12_reaches cX12_reaches 6 (some .int) (rmd 6 0 0) (MX D cy g K (rmd 6 0 0) Φ) 0 0 M x (L s.2.2) 84 [(0, vr g 75), (1, vb s.1), (2, vi c14), (3, vi v15), (4, vi s.2.1)] []) (fun e : Bool × Mem => Ev l D cy g K yX12_reaches cX12_reaches 6 (some .int) (rmd 6 0 0) (MX D cy g K (rmd 6 0 0) Φ) 0 0 M x (L e.2) 169 [(0, vr g 75), (1, vb e.1), (2, vi c14), (3, vi v15)] [])) o) : Ev l D cy g K yX12_reaches cX12_reaches 6 (some .int) (rmd 6 0 0) (MX D cy g K (rmd 6 0 0) Φ) 0 0 M x (L μ) 84 [(0, vr g 75), (1, vb v21), (2, vi c14), (3, vi v15), (4, vi v22)] [] := by
  unfold fX12_reaches_b84 at hf
  refine ev_iload dX12_reaches_84 4 rfl ?_
  refine ev_aload_n dX12_reaches_86 0 rfl ?_
  refine cl_V1 (As := []) (st := [vi v22]) miX12_cakes (tX12_cakes hS (hc.w rfl rfl) μ (o := (μ 81 0)) rfl) dX12_reaches_87 lkX12_209 inX12_cakes rfl (hS.lt (hc 75 rfl)) rfl ⟨rfl, rfl⟩ ⟨⟨Nat.le_of_ble_eq_true rfl, Nat.le_of_ble_eq_true rfl⟩, Nat.zero_le _, Nat.zero_le _⟩ (Nat.le_of_ble_eq_true rfl) ?_
  refine ev_icmp_gt 169 dX12_reaches_90 (by decide) (fun h23 => ?_) (fun h23 => ?_)
  · rw [if_neg h23] at hf
    obtain rfl := Option.some.inj hf
    refine ev_sub [0, 1, 2, 3] rfl ?_
    exact hr
  · rw [if_pos h23] at hf
    refine ev_aload_n dX12_reaches_93 0 rfl ?_
    refine ev_getK 27 dX12_reaches_94 (hS.lt (hc 75 rfl)) rfl (hS.K1 (hc 75 rfl) rfl) ciX12 (by decide) rfl flX12_110 ?_
    refine ev_iload dX12_reaches_97 4 rfl ?_
    obtain ⟨g24, hf⟩ := gd_elim hf
    refine ev_iald dX12_reaches_99 (hS.lt (hc 93 rfl)) rfl (hS.mem _ (hc 93 rfl)) g24 ?_
    refine ev_if_lt 124 dX12_reaches_100 (by decide) (fun h25 => ?_) (fun h25 => ?_)
    · rw [if_pos h25] at hf
      refine ev_sub [0, 1, 2, 3, 4] rfl ?_
      exact tX12_reaches_j124 hS hc c14 v15 (b2i v21) v22 μ hf hr
    · rw [if_neg h25] at hf
      refine ev_aload_n dX12_reaches_103 0 rfl ?_
      refine ev_getK 25 dX12_reaches_104 (hS.lt (hc 75 rfl)) rfl (hS.K1 (hc 75 rfl) rfl) ciX12 (by decide) rfl flX12_107 ?_
      refine ev_aload_n dX12_reaches_107 0 rfl ?_
      refine ev_getK 27 dX12_reaches_108 (hS.lt (hc 75 rfl)) rfl (hS.K1 (hc 75 rfl) rfl) ciX12 (by decide) rfl flX12_110 ?_
      refine ev_iload dX12_reaches_111 4 rfl ?_
      obtain ⟨g44, hf⟩ := gd_elim hf
      refine ev_iald dX12_reaches_113 (hS.lt (hc 93 rfl)) rfl (hS.mem _ (hc 93 rfl)) g44 ?_
      obtain ⟨g45, hf⟩ := gd_elim hf
      refine ev_lald dX12_reaches_114 (hS.lt (hc 92 rfl)) rfl (hS.mem _ (hc 92 rfl)) g45 ?_
      refine ev_lconst 0 dX12_reaches_115 rfl ?_
      obtain ⟨v46, hv46, hf⟩ := lt_elim hf
      have hJv46 : Ev l D cy g K yX12_reaches cX12_reaches 6 (some .int) (rmd 6 0 0) (MX D cy g K (rmd 6 0 0) Φ) 0 0 M x (L μ) 125 [(0, vr g 75), (1, vb v21), (2, vi c14), (3, vi v15), (4, vi v22)] [vb v46] := by
        refine ev_istore (al2 := [(5, vb v46), (0, vr g 75), (1, vb v21), (2, vi c14), (3, vi v15), (4, vi v22)]) dX12_reaches_125 (by decide) rfl ?_
        refine ev_iload dX12_reaches_127 0 rfl ?_
        refine ev_ifb_eq 148 dX12_reaches_129 (by decide) (fun h48 => ?_) (fun h48 => ?_)
        · rw [if_neg h48] at hf
          refine ev_sub [1, 2, 3, 4, 5, 0] rfl ?_
          exact tX12_reaches_j148 hS hc c14 v15 (b2i v21) v22 v46 μ hf hr
        · rw [if_pos h48] at hf
          refine ev_aload_n dX12_reaches_132 1 rfl ?_
          refine ev_getK 25 dX12_reaches_133 (hS.lt (hc 75 rfl)) rfl (hS.K1 (hc 75 rfl) rfl) ciX12 (by decide) rfl flX12_107 ?_
          refine ev_aload_n dX12_reaches_136 1 rfl ?_
          refine ev_getK 27 dX12_reaches_137 (hS.lt (hc 75 rfl)) rfl (hS.K1 (hc 75 rfl) rfl) ciX12 (by decide) rfl flX12_110 ?_
          refine ev_iload dX12_reaches_140 5 rfl ?_
          obtain ⟨g52, hf⟩ := gd_elim hf
          refine ev_iald dX12_reaches_142 (hS.lt (hc 93 rfl)) rfl (hS.mem _ (hc 93 rfl)) g52 ?_
          refine ev_iload_n dX12_reaches_143 3 rfl ?_
          refine ev_iconst dX12_reaches_144 ?_
          refine ev_iadd dX12_reaches_145 ?_
          refine ev_i2l dX12_reaches_146 ?_
          obtain ⟨g53, hf⟩ := gd_elim hf
          obtain ⟨μ54, hμ54, hf⟩ := lt_elim hf
          refine ev_last dX12_reaches_147 (hS.lt (hc 92 rfl)) rfl g53 (hS.up (hc 92 rfl) hμ54) ?_
          refine ev_sub [1, 2, 3, 4, 5, 0] rfl ?_
          exact tX12_reaches_j148 hS hc c14 v15 (b2i v21) v22 v46 μ54 hf hr
      refine ev_lcmp_ne 124 dX12_reaches_116 dX12_reaches_117 (by decide) (fun h47 => ?_) (fun h47 => ?_)
      · refine ev_iconst dX12_reaches_124 ?_
        have e9 : v46 = false := hv46.trans ((if_neg h47))
        subst e9
        exact hJv46
      · refine ev_iconst dX12_reaches_120 ?_
        refine ev_goto 125 dX12_reaches_121 (by decide) ?_
        have e9 : v46 = true := hv46.trans ((if_pos h47))
        subst e9
        exact hJv46
def fX12_reaches_b55 (c14 : Int) (v13 : Bool) (v15 : Int) (μ : Mem) : Option ((Bool × Int × Mem) ⊕ (Bool × Mem)) :=
  (fX12_stacks μ).bind fun v16 =>
  if w32 v15 < w32 v16 then
    gd (0 ≤ w32 v15 ∧ w32 v15 < 3840) <|
    if w64 (μ 92 (w32 v15).toNat) = w64 (w32 c14) then
      (fX12_leadsFrom v15 0 μ).bind fun μ20 =>
      (loopN (fun s => fX12_reaches_b84 c14 v15 s.1 s.2.1 s.2.2) FU (v13, 1, μ20)).bind fun q58 =>
      some (.inl (q58.1, (v15 + 1), q58.2))
    else
      some (.inl (v13, (v15 + 1), μ))
  else
    some (.inr (v13, μ))
set_option maxRecDepth 4000 in
theorem tX12_reaches_b55 (hS : Sd M K P L) (hc : CIn P 75 95) (c14 : Int) (v13 : Bool) (v15 : Int) (μ : Mem)  {o : (Bool × Int × Mem) ⊕ (Bool × Mem)} (hf : fX12_reaches_b55 c14 v13 v15 μ = some o) (hr : (Sum.elim (fun s : Bool × Int × Mem => Ev l D cy g K yX12_reaches cX12_reaches 6 (some .int) (rmd 6 0 0) (MX D cy g K (rmd 6 0 0) Φ) 0 0 M x (L s.2.2) 55 [(0, vr g 75), (1, vb s.1), (2, vi c14), (3, vi s.2.1)] []) (fun e : Bool × Mem => Ev l D cy g K yX12_reaches cX12_reaches 6 (some .int) (rmd 6 0 0) (MX D cy g K (rmd 6 0 0) Φ) 0 0 M x (L e.2) 175 [(0, vr g 75), (1, vb e.1), (2, vi c14)] [])) o) : Ev l D cy g K yX12_reaches cX12_reaches 6 (some .int) (rmd 6 0 0) (MX D cy g K (rmd 6 0 0) Φ) 0 0 M x (L μ) 55 [(0, vr g 75), (1, vb v13), (2, vi c14), (3, vi v15)] [] := by
  unfold fX12_reaches_b55 at hf
  refine ev_iload_n dX12_reaches_55 3 rfl ?_
  refine ev_aload_n dX12_reaches_56 0 rfl ?_
  obtain ⟨v16, hv16, hf⟩ := Option.bind_eq_some_iff.mp hf
  refine cl_V1 (As := []) (st := [vi v15]) miX12_stacks (tX12_stacks hS (hc.w rfl rfl) μ hv16) dX12_reaches_57 lkX12_294 inX12_stacks rfl (hS.lt (hc 75 rfl)) rfl ⟨rfl, rfl⟩ ⟨⟨Nat.le_of_ble_eq_true rfl, Nat.le_of_ble_eq_true rfl⟩, Nat.zero_le _, Nat.zero_le _⟩ (Nat.le_of_ble_eq_true rfl) ?_
  refine ev_icmp_ge 175 dX12_reaches_60 (by decide) (fun h17 => ?_) (fun h17 => ?_)
  · rw [if_neg h17] at hf
    obtain rfl := Option.some.inj hf
    refine ev_sub [0, 1, 2] rfl ?_
    exact hr
  · rw [if_pos h17] at hf
    refine ev_aload_n dX12_reaches_63 0 rfl ?_
    refine ev_getK 25 dX12_reaches_64 (hS.lt (hc 75 rfl)) rfl (hS.K1 (hc 75 rfl) rfl) ciX12 (by decide) rfl flX12_107 ?_
    refine ev_iload_n dX12_reaches_67 3 rfl ?_
    obtain ⟨g18, hf⟩ := gd_elim hf
    refine ev_lald dX12_reaches_68 (hS.lt (hc 92 rfl)) rfl (hS.mem _ (hc 92 rfl)) g18 ?_
    refine ev_iload_n dX12_reaches_69 2 rfl ?_
    refine ev_i2l dX12_reaches_70 ?_
    refine ev_lcmp_ne 169 dX12_reaches_71 dX12_reaches_72 (by decide) (fun h19 => ?_) (fun h19 => ?_)
    · rw [if_neg h19] at hf
      refine ev_iinc (al2 := [(3, vi (v15 + 1)), (0, vr g 75), (1, vb v13), (2, vi c14)]) dX12_reaches_169 3 rfl (by decide) rfl ?_
      refine ev_goto 55 dX12_reaches_172 (by decide) ?_
      obtain rfl := Option.some.inj hf
      refine ev_sub [1, 2, 3, 0] rfl ?_
      exact hr
    · rw [if_pos h19] at hf
      refine ev_aload_n dX12_reaches_75 0 rfl ?_
      refine ev_iload_n dX12_reaches_76 3 rfl ?_
      refine ev_iconst dX12_reaches_77 ?_
      obtain ⟨μ20, hμ20, hf⟩ := Option.bind_eq_some_iff.mp hf
      refine cl_V0 (As := [vi v15, vi 0]) (st := []) miX12_leadsFrom (tX12_leadsFrom hS (hc.w rfl rfl) v15 0 μ hμ20) dX12_reaches_78 lkX12_321 inX12_leadsFrom rfl (hS.lt (hc 75 rfl)) rfl ⟨rfl, rfl⟩ ⟨⟨Nat.le_of_ble_eq_true rfl, Nat.le_of_ble_eq_true rfl⟩, Nat.zero_le _, Nat.zero_le _⟩ (Nat.le_of_ble_eq_true rfl) ?_
      refine ev_iconst dX12_reaches_81 ?_
      refine ev_istore (al2 := [(4, vi 1), (0, vr g 75), (1, vb v13), (2, vi c14), (3, vi v15)]) dX12_reaches_82 (by decide) rfl ?_
      obtain ⟨q58, hq58, hf⟩ := Option.bind_eq_some_iff.mp hf
      refine ev_sub [1, 2, 3, 4, 0] rfl ?_
      refine loop_ev (H := (fun s : Bool × Int × Mem => Ev l D cy g K yX12_reaches cX12_reaches 6 (some .int) (rmd 6 0 0) (MX D cy g K (rmd 6 0 0) Φ) 0 0 M x (L s.2.2) 84 [(0, vr g 75), (1, vb s.1), (2, vi c14), (3, vi v15), (4, vi s.2.1)] [])) (Hx := (fun e : Bool × Mem => Ev l D cy g K yX12_reaches cX12_reaches 6 (some .int) (rmd 6 0 0) (MX D cy g K (rmd 6 0 0) Φ) 0 0 M x (L e.2) 169 [(0, vr g 75), (1, vb e.1), (2, vi c14), (3, vi v15)] [])) (fun s o hb hr => tX12_reaches_b84 hS hc c14 v15 s.1 s.2.1 s.2.2 hb hr) FU _ _ hq58 ?_
      show Ev l D cy g K yX12_reaches cX12_reaches 6 (some .int) (rmd 6 0 0) (MX D cy g K (rmd 6 0 0) Φ) 0 0 M x (L q58.2) 169 [(0, vr g 75), (1, vb q58.1), (2, vi c14), (3, vi v15)] []
      refine ev_iinc (al2 := [(3, vi (v15 + 1)), (0, vr g 75), (1, vb q58.1), (2, vi c14)]) dX12_reaches_169 3 rfl (by decide) rfl ?_
      refine ev_goto 55 dX12_reaches_172 (by decide) ?_
      obtain rfl := Option.some.inj hf
      refine ev_sub [1, 2, 3, 0] rfl ?_
      exact hr
def fX12_reaches_b44 (v10 : Bool) (v11 : Int) (μ : Mem) : Option ((Bool × Int × Mem) ⊕ (Int × Mem)) :=
  if v10 = true then
    (loopN (fun s => fX12_reaches_b55 (v11 + 1) s.1 s.2.1 s.2.2) FU (false, 0, μ)).bind fun q59 =>
    some (.inl (q59.1, (v11 + 1), q59.2))
  else
    some (.inr (v11, μ))
set_option maxRecDepth 4000 in
theorem tX12_reaches_b44 (hS : Sd M K P L) (hc : CIn P 75 95) (v10 : Bool) (v11 : Int) (μ : Mem)  {o : (Bool × Int × Mem) ⊕ (Int × Mem)} (hf : fX12_reaches_b44 v10 v11 μ = some o) (hr : (Sum.elim (fun s : Bool × Int × Mem => Ev l D cy g K yX12_reaches cX12_reaches 6 (some .int) (rmd 6 0 0) (MX D cy g K (rmd 6 0 0) Φ) 0 0 M x (L s.2.2) 44 [(0, vr g 75), (1, vb s.1), (2, vi s.2.1)] []) (fun e : Int × Mem => Ev l D cy g K yX12_reaches cX12_reaches 6 (some .int) (rmd 6 0 0) (MX D cy g K (rmd 6 0 0) Φ) 0 0 M x (L e.2) 178 [(2, vi e.1)] [])) o) : Ev l D cy g K yX12_reaches cX12_reaches 6 (some .int) (rmd 6 0 0) (MX D cy g K (rmd 6 0 0) Φ) 0 0 M x (L μ) 44 [(0, vr g 75), (1, vb v10), (2, vi v11)] [] := by
  unfold fX12_reaches_b44 at hf
  refine ev_iload_n dX12_reaches_44 1 rfl ?_
  refine ev_ifb_eq 178 dX12_reaches_45 (by decide) (fun h12 => ?_) (fun h12 => ?_)
  · rw [if_neg h12] at hf
    obtain rfl := Option.some.inj hf
    refine ev_sub [2] rfl ?_
    exact hr
  · rw [if_pos h12] at hf
    refine ev_iconst dX12_reaches_48 ?_
    refine ev_istore_n (al2 := [(1, vi 0), (0, vr g 75), (2, vi v11)]) dX12_reaches_49 1 rfl (by decide) rfl ?_
    refine ev_iinc (al2 := [(2, vi (v11 + 1)), (1, vi 0), (0, vr g 75)]) dX12_reaches_50 2 rfl (by decide) rfl ?_
    refine ev_iconst dX12_reaches_53 ?_
    refine ev_istore_n (al2 := [(3, vi 0), (2, vi (v11 + 1)), (1, vi 0), (0, vr g 75)]) dX12_reaches_54 3 rfl (by decide) rfl ?_
    obtain ⟨q59, hq59, hf⟩ := Option.bind_eq_some_iff.mp hf
    refine ev_sub [3, 2, 1, 0] rfl ?_
    refine loop_ev (H := (fun s : Bool × Int × Mem => Ev l D cy g K yX12_reaches cX12_reaches 6 (some .int) (rmd 6 0 0) (MX D cy g K (rmd 6 0 0) Φ) 0 0 M x (L s.2.2) 55 [(0, vr g 75), (1, vb s.1), (2, vi (v11 + 1)), (3, vi s.2.1)] [])) (Hx := (fun e : Bool × Mem => Ev l D cy g K yX12_reaches cX12_reaches 6 (some .int) (rmd 6 0 0) (MX D cy g K (rmd 6 0 0) Φ) 0 0 M x (L e.2) 175 [(0, vr g 75), (1, vb e.1), (2, vi (v11 + 1))] [])) (fun s o hb hr => tX12_reaches_b55 hS hc (v11 + 1) s.1 s.2.1 s.2.2 hb hr) FU _ _ hq59 ?_
    show Ev l D cy g K yX12_reaches cX12_reaches 6 (some .int) (rmd 6 0 0) (MX D cy g K (rmd 6 0 0) Φ) 0 0 M x (L q59.2) 175 [(0, vr g 75), (1, vb q59.1), (2, vi (v11 + 1))] []
    refine ev_goto 44 dX12_reaches_175 (by decide) ?_
    obtain rfl := Option.some.inj hf
    refine ev_sub [0, 1, 2] rfl ?_
    exact hr
def fX12_reaches  (μ : Mem) : Option (Int × Mem) :=
  lt (upd2 μ 75 26 0) fun μ1 =>
  (loopN (fun s => fX12_reaches_b7 s.1 s.2) FU (0, μ1)).bind fun q7 =>
  gd (0 ≤ w32 (q7 88 0) ∧ w32 (q7 88 0) < 3840) <|
  lt (upd2 q7 92 ((w32 (q7 88 0)).toNat) 1) fun μ9 =>
  (loopN (fun s => fX12_reaches_b44 s.1 s.2.1 s.2.2) FU (true, 0, μ9)).bind fun q60 =>
  some (((q60.1 - 1), q60.2))
set_option maxRecDepth 4000 in
theorem eX12_reaches (hS : Sd M K P L) (hc : CIn P 75 95)  (μ : Mem)  {o : Int × Mem} (hf : fX12_reaches  μ = some o) (hr : (fun o : Int × Mem => Φ (some (vi o.1)) M x (L o.2)) o) : Ev l D cy g K yX12_reaches cX12_reaches 6 (some .int) (rmd 6 0 0) (MX D cy g K (rmd 6 0 0) Φ) 0 0 M x (L μ) 0 [(0, vr g 75)] [] := by
  unfold fX12_reaches at hf
  refine ev_aload_n dX12_reaches_0 0 rfl ?_
  refine ev_iconst dX12_reaches_1 ?_
  obtain ⟨μ1, hμ1, hf⟩ := lt_elim hf
  refine ev_putI 26 dX12_reaches_2 (hS.lt (hc 75 rfl)) rfl ciX12 (by decide) (Or.inl rfl) rfl rfl flX12_251 (hS.up (hc 75 rfl) hμ1) ?_
  refine ev_iconst dX12_reaches_5 ?_
  refine ev_istore_n (al2 := [(1, vi 0), (0, vr g 75)]) dX12_reaches_6 1 rfl (by decide) rfl ?_
  obtain ⟨q7, hq7, hf⟩ := Option.bind_eq_some_iff.mp hf
  refine ev_sub [1, 0] rfl ?_
  refine loop_ev (H := (fun s : Int × Mem => Ev l D cy g K yX12_reaches cX12_reaches 6 (some .int) (rmd 6 0 0) (MX D cy g K (rmd 6 0 0) Φ) 0 0 M x (L s.2) 7 [(0, vr g 75), (1, vi s.1)] [])) (Hx := (fun e : Mem => Ev l D cy g K yX12_reaches cX12_reaches 6 (some .int) (rmd 6 0 0) (MX D cy g K (rmd 6 0 0) Φ) 0 0 M x (L e) 28 [(0, vr g 75)] [])) (fun s o hb hr => tX12_reaches_b7 hS hc s.1 s.2 hb hr) FU _ _ hq7 ?_
  show Ev l D cy g K yX12_reaches cX12_reaches 6 (some .int) (rmd 6 0 0) (MX D cy g K (rmd 6 0 0) Φ) 0 0 M x (L q7) 28 [(0, vr g 75)] []
  refine ev_aload_n dX12_reaches_28 0 rfl ?_
  refine ev_getK 25 dX12_reaches_29 (hS.lt (hc 75 rfl)) rfl (hS.K1 (hc 75 rfl) rfl) ciX12 (by decide) rfl flX12_107 ?_
  refine ev_aload_n dX12_reaches_32 0 rfl ?_
  refine ev_getK 19 dX12_reaches_33 (hS.lt (hc 75 rfl)) rfl (hS.K1 (hc 75 rfl) rfl) ciX12 (by decide) rfl flX12_94 ?_
  refine ev_iconst dX12_reaches_36 ?_
  refine ev_iald dX12_reaches_37 (hS.lt (hc 88 rfl)) rfl (hS.mem _ (hc 88 rfl)) ⟨by decide, by decide⟩ ?_
  refine ev_rn (w := vi (q7 88 0)) (by rw [show (w32 0).toNat = 0 from by decide]) ?_
  refine ev_lconst 1 dX12_reaches_38 rfl ?_
  obtain ⟨g8, hf⟩ := gd_elim hf
  obtain ⟨μ9, hμ9, hf⟩ := lt_elim hf
  refine ev_last dX12_reaches_39 (hS.lt (hc 92 rfl)) rfl g8 (hS.up (hc 92 rfl) hμ9) ?_
  refine ev_iconst dX12_reaches_40 ?_
  refine ev_istore_n (al2 := [(1, vi 1), (0, vr g 75)]) dX12_reaches_41 1 rfl (by decide) rfl ?_
  refine ev_iconst dX12_reaches_42 ?_
  refine ev_istore_n (al2 := [(2, vi 0), (1, vi 1), (0, vr g 75)]) dX12_reaches_43 2 rfl (by decide) rfl ?_
  obtain ⟨q60, hq60, hf⟩ := Option.bind_eq_some_iff.mp hf
  refine ev_sub [2, 1, 0] rfl ?_
  refine loop_ev (H := (fun s : Bool × Int × Mem => Ev l D cy g K yX12_reaches cX12_reaches 6 (some .int) (rmd 6 0 0) (MX D cy g K (rmd 6 0 0) Φ) 0 0 M x (L s.2.2) 44 [(0, vr g 75), (1, vb s.1), (2, vi s.2.1)] [])) (Hx := (fun e : Int × Mem => Ev l D cy g K yX12_reaches cX12_reaches 6 (some .int) (rmd 6 0 0) (MX D cy g K (rmd 6 0 0) Φ) 0 0 M x (L e.2) 178 [(2, vi e.1)] [])) (fun s o hb hr => tX12_reaches_b44 hS hc s.1 s.2.1 s.2.2 hb hr) FU _ _ hq60 ?_
  show Ev l D cy g K yX12_reaches cX12_reaches 6 (some .int) (rmd 6 0 0) (MX D cy g K (rmd 6 0 0) Φ) 0 0 M x (L q60.2) 178 [(2, vi q60.1)] []
  refine ev_iload_n dX12_reaches_178 0 rfl ?_
  refine ev_iconst dX12_reaches_179 ?_
  refine ev_isub dX12_reaches_180 ?_
  obtain rfl := Option.some.inj hf
  exact ev_iret dX12_reaches_181 rfl ⟨Nat.zero_le _, Nat.zero_le _⟩ hr
theorem tX12_reaches (hS : Sd M K P L) (hc : CIn P 75 95) (μ : Mem) {o : Int × Mem} (hf : fX12_reaches μ = some o) : Cn l D cy g K K yX12_reaches cX12_reaches 6 (some .int) (rmd 6 0 0) [vr g 75] M x (L μ) (PE (some (vi o.1)) M x (L o.2)) :=
 Cn.of (by decide) (Nat.le_of_ble_eq_true rfl) (eX12_reaches hS hc μ hf (PE_i _ _ _ _))
def fX12_rim  (μ : Mem) : Option (Int × Mem) :=
  lt (upd2 μ 75 0 0) fun μ1 =>
  (fX12_reaches μ1).bind fun q2 =>
  some ((q2.1, q2.2))
set_option maxRecDepth 4000 in
theorem eX12_rim (hS : Sd M K P L) (hc : CIn P 75 95)  (μ : Mem)  {o : Int × Mem} (hf : fX12_rim  μ = some o) (hr : (fun o : Int × Mem => Φ (some (vi o.1)) M x (L o.2)) o) : Ev l D cy g K yX12_rim cX12_rim 1 (some .int) (rmd 7 0 0) (MX D cy g K (rmd 7 0 0) Φ) 0 0 M x (L μ) 0 [(0, vr g 75)] [] := by
  unfold fX12_rim at hf
  refine ev_aload_n dX12_rim_0 0 rfl ?_
  refine ev_iconst dX12_rim_1 ?_
  obtain ⟨μ1, hμ1, hf⟩ := lt_elim hf
  refine ev_putI 0 dX12_rim_2 (hS.lt (hc 75 rfl)) rfl ciX12 (by decide) (Or.inl rfl) rfl rfl flX12_1 (hS.up (hc 75 rfl) hμ1) ?_
  refine ev_aload_n dX12_rim_5 0 rfl ?_
  obtain ⟨q2, hq2, hf⟩ := Option.bind_eq_some_iff.mp hf
  refine cl_V1 (As := []) (st := []) miX12_reaches (tX12_reaches hS (hc.w rfl rfl) μ1 hq2) dX12_rim_6 lkX12_338 inX12_reaches rfl (hS.lt (hc 75 rfl)) rfl ⟨rfl, rfl⟩ ⟨⟨Nat.le_of_ble_eq_true rfl, Nat.le_of_ble_eq_true rfl⟩, Nat.zero_le _, Nat.zero_le _⟩ (Nat.le_of_ble_eq_true rfl) ?_
  obtain rfl := Option.some.inj hf
  exact ev_iret dX12_rim_9 rfl ⟨Nat.zero_le _, Nat.zero_le _⟩ hr
theorem tX12_rim (hS : Sd M K P L) (hc : CIn P 75 95) (μ : Mem) {o : Int × Mem} (hf : fX12_rim μ = some o) : Cn l D cy g K K yX12_rim cX12_rim 1 (some .int) (rmd 7 0 0) [vr g 75] M x (L μ) (PE (some (vi o.1)) M x (L o.2)) :=
 Cn.of (by decide) (Nat.le_of_ble_eq_true rfl) (eX12_rim hS hc μ hf (PE_i _ _ _ _))
def fX12_reached_j64 (turns : Int) (v10 : Int) (w11 : Int) (μ : Mem) : Option ((Int × Int × Mem) ⊕ (Int × Mem)) :=
  lt (w11 + 0) fun v12 =>
  some (.inl (v12, (v10 + 1), μ))
set_option maxRecDepth 4000 in
theorem tX12_reached_j64 (hS : Sd M K P L) (hc : CIn P 75 95) (turns : Int) (v10 : Int) (w11 : Int) (μ : Mem)  {o : (Int × Int × Mem) ⊕ (Int × Mem)} (hf : fX12_reached_j64 turns v10 w11 μ = some o) (hr : (Sum.elim (fun s : Int × Int × Mem => Ev l D cy g K yX12_reached cX12_reached 4 (some .int) (rmd 7 0 0) (MX D cy g K (rmd 7 0 0) Φ) 0 0 M x (L s.2.2) 26 [(0, vr g 75), (1, vi turns), (2, vi s.1), (3, vi s.2.1)] []) (fun e : Int × Mem => Ev l D cy g K yX12_reached cX12_reached 4 (some .int) (rmd 7 0 0) (MX D cy g K (rmd 7 0 0) Φ) 0 0 M x (L e.2) 73 [(2, vi e.1)] [])) o) : Ev l D cy g K yX12_reached cX12_reached 4 (some .int) (rmd 7 0 0) (MX D cy g K (rmd 7 0 0) Φ) 0 0 M x (L μ) 64 [(0, vr g 75), (1, vi turns), (3, vi v10)] [vi w11] := by
  unfold fX12_reached_j64 at hf
  refine ev_iconst dX12_reached_64 ?_
  refine ev_iadd dX12_reached_65 ?_
  obtain ⟨v12, hv12, hf⟩ := lt_elim hf
  refine ev_rni hv12 ?_
  refine ev_istore_n (al2 := [(2, vi v12), (0, vr g 75), (1, vi turns), (3, vi v10)]) dX12_reached_66 2 rfl (by decide) rfl ?_
  refine ev_iinc (al2 := [(3, vi (v10 + 1)), (2, vi v12), (0, vr g 75), (1, vi turns)]) dX12_reached_67 3 rfl (by decide) rfl ?_
  refine ev_goto 26 dX12_reached_70 (by decide) ?_
  obtain rfl := Option.some.inj hf
  refine ev_sub [2, 3, 1, 0] rfl ?_
  exact hr
def fX12_reached_b26 (turns : Int) (v4 : Int) (v5 : Int) (μ : Mem) : Option ((Int × Int × Mem) ⊕ (Int × Mem)) :=
  (fX12_stacks μ).bind fun v6 =>
  if w32 v5 < w32 v6 then
    gd (0 ≤ w32 v5 ∧ w32 v5 < 3840) <|
    if w64 (μ 92 (w32 v5).toNat) ≤ w64 0 then
      fX12_reached_j64 turns v5 v4 μ
    else
      gd (0 ≤ w32 v5 ∧ w32 v5 < 3840) <|
      lt (if w64 (μ 92 (w32 v5).toNat) ≤ w64 (w32 (turns + 1)) then
          1
        else
          0) fun v14 =>
      lt (v4 + v14) fun v16 =>
      some (.inl (v16, (v5 + 1), μ))
  else
    some (.inr (v4, μ))
set_option maxRecDepth 4000 in
theorem tX12_reached_b26 (hS : Sd M K P L) (hc : CIn P 75 95) (turns : Int) (v4 : Int) (v5 : Int) (μ : Mem)  {o : (Int × Int × Mem) ⊕ (Int × Mem)} (hf : fX12_reached_b26 turns v4 v5 μ = some o) (hr : (Sum.elim (fun s : Int × Int × Mem => Ev l D cy g K yX12_reached cX12_reached 4 (some .int) (rmd 7 0 0) (MX D cy g K (rmd 7 0 0) Φ) 0 0 M x (L s.2.2) 26 [(0, vr g 75), (1, vi turns), (2, vi s.1), (3, vi s.2.1)] []) (fun e : Int × Mem => Ev l D cy g K yX12_reached cX12_reached 4 (some .int) (rmd 7 0 0) (MX D cy g K (rmd 7 0 0) Φ) 0 0 M x (L e.2) 73 [(2, vi e.1)] [])) o) : Ev l D cy g K yX12_reached cX12_reached 4 (some .int) (rmd 7 0 0) (MX D cy g K (rmd 7 0 0) Φ) 0 0 M x (L μ) 26 [(0, vr g 75), (1, vi turns), (2, vi v4), (3, vi v5)] [] := by
  unfold fX12_reached_b26 at hf
  refine ev_iload_n dX12_reached_26 3 rfl ?_
  refine ev_aload_n dX12_reached_27 0 rfl ?_
  obtain ⟨v6, hv6, hf⟩ := Option.bind_eq_some_iff.mp hf
  refine cl_V1 (As := []) (st := [vi v5]) miX12_stacks (tX12_stacks hS (hc.w rfl rfl) μ hv6) dX12_reached_28 lkX12_294 inX12_stacks rfl (hS.lt (hc 75 rfl)) rfl ⟨rfl, rfl⟩ ⟨⟨Nat.le_of_ble_eq_true rfl, Nat.le_of_ble_eq_true rfl⟩, Nat.zero_le _, Nat.zero_le _⟩ (Nat.le_of_ble_eq_true rfl) ?_
  refine ev_icmp_ge 73 dX12_reached_31 (by decide) (fun h7 => ?_) (fun h7 => ?_)
  · rw [if_neg h7] at hf
    obtain rfl := Option.some.inj hf
    refine ev_sub [2] rfl ?_
    exact hr
  · rw [if_pos h7] at hf
    refine ev_iload_n dX12_reached_34 2 rfl ?_
    refine ev_aload_n dX12_reached_35 0 rfl ?_
    refine ev_getK 25 dX12_reached_36 (hS.lt (hc 75 rfl)) rfl (hS.K1 (hc 75 rfl) rfl) ciX12 (by decide) rfl flX12_107 ?_
    refine ev_iload_n dX12_reached_39 3 rfl ?_
    obtain ⟨g8, hf⟩ := gd_elim hf
    refine ev_lald dX12_reached_40 (hS.lt (hc 92 rfl)) rfl (hS.mem _ (hc 92 rfl)) g8 ?_
    refine ev_lconst 0 dX12_reached_41 rfl ?_
    refine ev_lcmp_le 64 dX12_reached_42 dX12_reached_43 (by decide) (fun h9 => ?_) (fun h9 => ?_)
    · rw [if_pos h9] at hf
      refine ev_sub [0, 1, 3] rfl ?_
      exact tX12_reached_j64 hS hc turns v5 v4 μ hf hr
    · rw [if_neg h9] at hf
      refine ev_aload_n dX12_reached_46 0 rfl ?_
      refine ev_getK 25 dX12_reached_47 (hS.lt (hc 75 rfl)) rfl (hS.K1 (hc 75 rfl) rfl) ciX12 (by decide) rfl flX12_107 ?_
      refine ev_iload_n dX12_reached_50 3 rfl ?_
      obtain ⟨g13, hf⟩ := gd_elim hf
      refine ev_lald dX12_reached_51 (hS.lt (hc 92 rfl)) rfl (hS.mem _ (hc 92 rfl)) g13 ?_
      refine ev_iload_n dX12_reached_52 1 rfl ?_
      refine ev_iconst dX12_reached_53 ?_
      refine ev_iadd dX12_reached_54 ?_
      refine ev_i2l dX12_reached_55 ?_
      obtain ⟨v14, hv14, hf⟩ := lt_elim hf
      have hJv14 : Ev l D cy g K yX12_reached cX12_reached 4 (some .int) (rmd 7 0 0) (MX D cy g K (rmd 7 0 0) Φ) 0 0 M x (L μ) 65 [(0, vr g 75), (1, vi turns), (2, vi v4), (3, vi v5)] [vi v14, vi v4] := by
        refine ev_iadd dX12_reached_65 ?_
        obtain ⟨v16, hv16, hf⟩ := lt_elim hf
        refine ev_rni hv16 ?_
        refine ev_istore_n (al2 := [(2, vi v16), (0, vr g 75), (1, vi turns), (3, vi v5)]) dX12_reached_66 2 rfl (by decide) rfl ?_
        refine ev_iinc (al2 := [(3, vi (v5 + 1)), (2, vi v16), (0, vr g 75), (1, vi turns)]) dX12_reached_67 3 rfl (by decide) rfl ?_
        refine ev_goto 26 dX12_reached_70 (by decide) ?_
        obtain rfl := Option.some.inj hf
        refine ev_sub [2, 3, 1, 0] rfl ?_
        exact hr
      refine ev_lcmp_gt 64 dX12_reached_56 dX12_reached_57 (by decide) (fun h15 => ?_) (fun h15 => ?_)
      · refine ev_iconst dX12_reached_64 ?_
        have e9 : v14 = 0 := hv14.trans ((if_neg h15))
        subst e9
        exact hJv14
      · refine ev_iconst dX12_reached_60 ?_
        refine ev_goto 65 dX12_reached_61 (by decide) ?_
        have e9 : v14 = 1 := hv14.trans ((if_pos h15))
        subst e9
        exact hJv14
def fX12_reached (turns : Int) (μ : Mem) : Option (Int × Mem) :=
  lt (upd2 μ 75 0 0) fun μ1 =>
  if (fX12_within turns 0 60) = true then
    (fX12_reaches μ1).bind fun q3 =>
    (loopN (fun s => fX12_reached_b26 turns s.1 s.2.1 s.2.2) FU (0, 0, q3.2)).bind fun q17 =>
    some ((q17.1, q17.2))
  else
    some (((-1), μ1))
set_option maxRecDepth 4000 in
theorem eX12_reached (hS : Sd M K P L) (hc : CIn P 75 95) (turns : Int) (μ : Mem)  {o : Int × Mem} (hf : fX12_reached turns μ = some o) (hr : (fun o : Int × Mem => Φ (some (vi o.1)) M x (L o.2)) o) : Ev l D cy g K yX12_reached cX12_reached 4 (some .int) (rmd 7 0 0) (MX D cy g K (rmd 7 0 0) Φ) 0 0 M x (L μ) 0 [(0, vr g 75), (1, vi turns)] [] := by
  unfold fX12_reached at hf
  refine ev_aload_n dX12_reached_0 0 rfl ?_
  refine ev_iconst dX12_reached_1 ?_
  obtain ⟨μ1, hμ1, hf⟩ := lt_elim hf
  refine ev_putI 0 dX12_reached_2 (hS.lt (hc 75 rfl)) rfl ciX12 (by decide) (Or.inl rfl) rfl rfl flX12_1 (hS.up (hc 75 rfl) hμ1) ?_
  refine ev_iload_n dX12_reached_5 1 rfl ?_
  refine ev_iconst dX12_reached_6 ?_
  refine ev_bipush dX12_reached_7 (by decide) ?_
  refine cl_S1 (As := [vi turns, vi 0, vi 60]) (st := []) miX12_within (tX12_within turns 0 60 (L μ1) (o := (fX12_within turns 0 60)) rfl) dX12_reached_9 lkX12_270 stX12_within rfl ⟨⟨Nat.le_of_ble_eq_true rfl, Nat.le_of_ble_eq_true rfl⟩, Nat.zero_le _, Nat.zero_le _⟩ (Nat.le_of_ble_eq_true rfl) ?_
  refine ev_ifb_ne 17 dX12_reached_12 (by decide) (fun h2 => ?_) (fun h2 => ?_)
  · rw [if_pos h2] at hf
    refine ev_aload_n dX12_reached_17 0 rfl ?_
    obtain ⟨q3, hq3, hf⟩ := Option.bind_eq_some_iff.mp hf
    refine cl_V1 (As := []) (st := []) miX12_reaches (tX12_reaches hS (hc.w rfl rfl) μ1 hq3) dX12_reached_18 lkX12_338 inX12_reaches rfl (hS.lt (hc 75 rfl)) rfl ⟨rfl, rfl⟩ ⟨⟨Nat.le_of_ble_eq_true rfl, Nat.le_of_ble_eq_true rfl⟩, Nat.zero_le _, Nat.zero_le _⟩ (Nat.le_of_ble_eq_true rfl) ?_
    refine ev_pop dX12_reached_21 rfl ?_
    refine ev_iconst dX12_reached_22 ?_
    refine ev_istore_n (al2 := [(2, vi 0), (0, vr g 75), (1, vi turns)]) dX12_reached_23 2 rfl (by decide) rfl ?_
    refine ev_iconst dX12_reached_24 ?_
    refine ev_istore_n (al2 := [(3, vi 0), (2, vi 0), (0, vr g 75), (1, vi turns)]) dX12_reached_25 3 rfl (by decide) rfl ?_
    obtain ⟨q17, hq17, hf⟩ := Option.bind_eq_some_iff.mp hf
    refine ev_sub [2, 3, 1, 0] rfl ?_
    refine loop_ev (H := (fun s : Int × Int × Mem => Ev l D cy g K yX12_reached cX12_reached 4 (some .int) (rmd 7 0 0) (MX D cy g K (rmd 7 0 0) Φ) 0 0 M x (L s.2.2) 26 [(0, vr g 75), (1, vi turns), (2, vi s.1), (3, vi s.2.1)] [])) (Hx := (fun e : Int × Mem => Ev l D cy g K yX12_reached cX12_reached 4 (some .int) (rmd 7 0 0) (MX D cy g K (rmd 7 0 0) Φ) 0 0 M x (L e.2) 73 [(2, vi e.1)] [])) (fun s o hb hr => tX12_reached_b26 hS hc turns s.1 s.2.1 s.2.2 hb hr) FU _ _ hq17 ?_
    show Ev l D cy g K yX12_reached cX12_reached 4 (some .int) (rmd 7 0 0) (MX D cy g K (rmd 7 0 0) Φ) 0 0 M x (L q17.2) 73 [(2, vi q17.1)] []
    refine ev_iload_n dX12_reached_73 0 rfl ?_
    obtain rfl := Option.some.inj hf
    exact ev_iret dX12_reached_74 rfl ⟨Nat.zero_le _, Nat.zero_le _⟩ hr
  · rw [if_neg h2] at hf
    refine ev_iconst dX12_reached_15 ?_
    obtain rfl := Option.some.inj hf
    exact ev_iret dX12_reached_16 rfl ⟨Nat.zero_le _, Nat.zero_le _⟩ hr
theorem tX12_reached (hS : Sd M K P L) (hc : CIn P 75 95) (turns : Int) (μ : Mem) {o : Int × Mem} (hf : fX12_reached turns μ = some o) : Cn l D cy g K K yX12_reached cX12_reached 4 (some .int) (rmd 7 0 0) [vr g 75, vi turns] M x (L μ) (PE (some (vi o.1)) M x (L o.2)) :=
 Cn.of (by decide) (Nat.le_of_ble_eq_true rfl) (eX12_reached hS hc turns μ hf (PE_i _ _ _ _))
def fX12_nth  (μ : Mem) : Int × Mem :=
  lt (upd2 μ 75 0 0) fun μ1 =>
  ((μ1 88 0), μ1)
set_option maxRecDepth 4000 in
theorem eX12_nth (hS : Sd M K P L) (hc : CIn P 75 89)  (μ : Mem)  {o : Int × Mem} (hf : fX12_nth  μ = o) (hr : (fun o : Int × Mem => Φ (some (vi o.1)) M x (L o.2)) o) : Ev l D cy g K yX12_nth cX12_nth 1 (some .int) (rmd 1 0 0) (MX D cy g K (rmd 1 0 0) Φ) 0 0 M x (L μ) 0 [(0, vr g 75)] [] := by
  unfold fX12_nth at hf
  refine ev_aload_n dX12_nth_0 0 rfl ?_
  refine ev_iconst dX12_nth_1 ?_
  obtain ⟨μ1, hμ1, hf⟩ := lt_elim hf
  refine ev_putI 0 dX12_nth_2 (hS.lt (hc 75 rfl)) rfl ciX12 (by decide) (Or.inl rfl) rfl rfl flX12_1 (hS.up (hc 75 rfl) hμ1) ?_
  refine ev_aload_n dX12_nth_5 0 rfl ?_
  refine ev_getK 19 dX12_nth_6 (hS.lt (hc 75 rfl)) rfl (hS.K1 (hc 75 rfl) rfl) ciX12 (by decide) rfl flX12_94 ?_
  refine ev_iconst dX12_nth_9 ?_
  refine ev_iald dX12_nth_10 (hS.lt (hc 88 rfl)) rfl (hS.mem _ (hc 88 rfl)) ⟨by decide, by decide⟩ ?_
  refine ev_rn (w := vi (μ1 88 0)) (by rw [show (w32 0).toNat = 0 from by decide]) ?_
  obtain rfl := hf
  exact ev_iret dX12_nth_11 rfl ⟨Nat.zero_le _, Nat.zero_le _⟩ hr
theorem tX12_nth (hS : Sd M K P L) (hc : CIn P 75 89) (μ : Mem) {o : Int × Mem} (hf : fX12_nth μ = o) : Cn l D cy g K K yX12_nth cX12_nth 1 (some .int) (rmd 1 0 0) [vr g 75] M x (L μ) (PE (some (vi o.1)) M x (L o.2)) :=
 Cn.of (by decide) (Nat.le_of_ble_eq_true rfl) (eX12_nth hS hc μ hf (PE_i _ _ _ _))
def fX12_gaps  (μ : Mem) : Option (Int × Mem) :=
  lt (upd2 μ 75 0 0) fun μ1 =>
  (fX12_gapsNow μ1).bind fun q2 =>
  some ((q2.1, q2.2))
set_option maxRecDepth 4000 in
theorem eX12_gaps (hS : Sd M K P L) (hc : CIn P 75 92)  (μ : Mem)  {o : Int × Mem} (hf : fX12_gaps  μ = some o) (hr : (fun o : Int × Mem => Φ (some (vi o.1)) M x (L o.2)) o) : Ev l D cy g K yX12_gaps cX12_gaps 1 (some .int) (rmd 6 0 0) (MX D cy g K (rmd 6 0 0) Φ) 0 0 M x (L μ) 0 [(0, vr g 75)] [] := by
  unfold fX12_gaps at hf
  refine ev_aload_n dX12_gaps_0 0 rfl ?_
  refine ev_iconst dX12_gaps_1 ?_
  obtain ⟨μ1, hμ1, hf⟩ := lt_elim hf
  refine ev_putI 0 dX12_gaps_2 (hS.lt (hc 75 rfl)) rfl ciX12 (by decide) (Or.inl rfl) rfl rfl flX12_1 (hS.up (hc 75 rfl) hμ1) ?_
  refine ev_aload_n dX12_gaps_5 0 rfl ?_
  obtain ⟨q2, hq2, hf⟩ := Option.bind_eq_some_iff.mp hf
  refine cl_V1 (As := []) (st := []) miX12_gapsNow (tX12_gapsNow hS (hc.w rfl rfl) μ1 hq2) dX12_gaps_6 lkX12_330 inX12_gapsNow rfl (hS.lt (hc 75 rfl)) rfl ⟨rfl, rfl⟩ ⟨⟨Nat.le_of_ble_eq_true rfl, Nat.le_of_ble_eq_true rfl⟩, Nat.zero_le _, Nat.zero_le _⟩ (Nat.le_of_ble_eq_true rfl) ?_
  obtain rfl := Option.some.inj hf
  exact ev_iret dX12_gaps_9 rfl ⟨Nat.zero_le _, Nat.zero_le _⟩ hr
theorem tX12_gaps (hS : Sd M K P L) (hc : CIn P 75 92) (μ : Mem) {o : Int × Mem} (hf : fX12_gaps μ = some o) : Cn l D cy g K K yX12_gaps cX12_gaps 1 (some .int) (rmd 6 0 0) [vr g 75] M x (L μ) (PE (some (vi o.1)) M x (L o.2)) :=
 Cn.of (by decide) (Nat.le_of_ble_eq_true rfl) (eX12_gaps hS hc μ hf (PE_i _ _ _ _))
def fX12_pairs_b31 (v4 : Int) (v7 : Int) (v8 : Int) (μ : Mem) : Option ((Int × Int × Mem) ⊕ (Int × Mem)) :=
  if w32 v8 < w32 (μ 81 0) then
    gd (0 ≤ w32 v8 ∧ w32 v8 < 5) <|
    (fX12_cakeOf (μ 90 (w32 v8).toNat) 1 μ).bind fun v11 =>
    gd (0 ≤ w32 v4 ∧ w32 v4 < 5) <|
    (fX12_cakeOf (μ 90 (w32 v4).toNat) 1 μ).bind fun v13 =>
    lt (if w32 v11 < w32 v13 then
        1
      else
        0) fun v14 =>
    lt (v7 + v14) fun v16 =>
    some (.inl (v16, (v8 + 1), μ))
  else
    some (.inr (v7, μ))
set_option maxRecDepth 4000 in
theorem tX12_pairs_b31 (hS : Sd M K P L) (hc : CIn P 75 92) (v4 : Int) (v7 : Int) (v8 : Int) (μ : Mem)  {o : (Int × Int × Mem) ⊕ (Int × Mem)} (hf : fX12_pairs_b31 v4 v7 v8 μ = some o) (hr : (Sum.elim (fun s : Int × Int × Mem => Ev l D cy g K yX12_pairs cX12_pairs 4 (some .int) (rmd 5 0 0) (MX D cy g K (rmd 5 0 0) Φ) 0 0 M x (L s.2.2) 31 [(0, vr g 75), (1, vi s.1), (2, vi v4), (3, vi s.2.1)] []) (fun e : Int × Mem => Ev l D cy g K yX12_pairs cX12_pairs 4 (some .int) (rmd 5 0 0) (MX D cy g K (rmd 5 0 0) Φ) 0 0 M x (L e.2) 78 [(0, vr g 75), (1, vi e.1), (2, vi v4)] [])) o) : Ev l D cy g K yX12_pairs cX12_pairs 4 (some .int) (rmd 5 0 0) (MX D cy g K (rmd 5 0 0) Φ) 0 0 M x (L μ) 31 [(0, vr g 75), (1, vi v7), (2, vi v4), (3, vi v8)] [] := by
  unfold fX12_pairs_b31 at hf
  refine ev_iload_n dX12_pairs_31 3 rfl ?_
  refine ev_aload_n dX12_pairs_32 0 rfl ?_
  refine cl_V1 (As := []) (st := [vi v8]) miX12_cakes (tX12_cakes hS (hc.w rfl rfl) μ (o := (μ 81 0)) rfl) dX12_pairs_33 lkX12_209 inX12_cakes rfl (hS.lt (hc 75 rfl)) rfl ⟨rfl, rfl⟩ ⟨⟨Nat.le_of_ble_eq_true rfl, Nat.le_of_ble_eq_true rfl⟩, Nat.zero_le _, Nat.zero_le _⟩ (Nat.le_of_ble_eq_true rfl) ?_
  refine ev_icmp_ge 78 dX12_pairs_36 (by decide) (fun h9 => ?_) (fun h9 => ?_)
  · rw [if_neg h9] at hf
    obtain rfl := Option.some.inj hf
    refine ev_sub [0, 1, 2] rfl ?_
    exact hr
  · rw [if_pos h9] at hf
    refine ev_iload_n dX12_pairs_39 1 rfl ?_
    refine ev_aload_n dX12_pairs_40 0 rfl ?_
    refine ev_aload_n dX12_pairs_41 0 rfl ?_
    refine ev_getK 23 dX12_pairs_42 (hS.lt (hc 75 rfl)) rfl (hS.K1 (hc 75 rfl) rfl) ciX12 (by decide) rfl flX12_101 ?_
    refine ev_iload_n dX12_pairs_45 3 rfl ?_
    obtain ⟨g10, hf⟩ := gd_elim hf
    refine ev_iald dX12_pairs_46 (hS.lt (hc 90 rfl)) rfl (hS.mem _ (hc 90 rfl)) g10 ?_
    refine ev_iconst dX12_pairs_47 ?_
    obtain ⟨v11, hv11, hf⟩ := Option.bind_eq_some_iff.mp hf
    refine cl_V1 (As := [vi (μ 90 (w32 v8).toNat), vi 1]) (st := [vi v7]) miX12_cakeOf (tX12_cakeOf hS (hc.w rfl rfl) (μ 90 (w32 v8).toNat) 1 μ hv11) dX12_pairs_48 lkX12_239 inX12_cakeOf rfl (hS.lt (hc 75 rfl)) rfl ⟨rfl, rfl⟩ ⟨⟨Nat.le_of_ble_eq_true rfl, Nat.le_of_ble_eq_true rfl⟩, Nat.zero_le _, Nat.zero_le _⟩ (Nat.le_of_ble_eq_true rfl) ?_
    refine ev_aload_n dX12_pairs_51 0 rfl ?_
    refine ev_aload_n dX12_pairs_52 0 rfl ?_
    refine ev_getK 23 dX12_pairs_53 (hS.lt (hc 75 rfl)) rfl (hS.K1 (hc 75 rfl) rfl) ciX12 (by decide) rfl flX12_101 ?_
    refine ev_iload_n dX12_pairs_56 2 rfl ?_
    obtain ⟨g12, hf⟩ := gd_elim hf
    refine ev_iald dX12_pairs_57 (hS.lt (hc 90 rfl)) rfl (hS.mem _ (hc 90 rfl)) g12 ?_
    refine ev_iconst dX12_pairs_58 ?_
    obtain ⟨v13, hv13, hf⟩ := Option.bind_eq_some_iff.mp hf
    refine cl_V1 (As := [vi (μ 90 (w32 v4).toNat), vi 1]) (st := [vi v11, vi v7]) miX12_cakeOf (tX12_cakeOf hS (hc.w rfl rfl) (μ 90 (w32 v4).toNat) 1 μ hv13) dX12_pairs_59 lkX12_239 inX12_cakeOf rfl (hS.lt (hc 75 rfl)) rfl ⟨rfl, rfl⟩ ⟨⟨Nat.le_of_ble_eq_true rfl, Nat.le_of_ble_eq_true rfl⟩, Nat.zero_le _, Nat.zero_le _⟩ (Nat.le_of_ble_eq_true rfl) ?_
    obtain ⟨v14, hv14, hf⟩ := lt_elim hf
    have hJv14 : Ev l D cy g K yX12_pairs cX12_pairs 4 (some .int) (rmd 5 0 0) (MX D cy g K (rmd 5 0 0) Φ) 0 0 M x (L μ) 70 [(0, vr g 75), (1, vi v7), (2, vi v4), (3, vi v8)] [vi v14, vi v7] := by
      refine ev_iadd dX12_pairs_70 ?_
      obtain ⟨v16, hv16, hf⟩ := lt_elim hf
      refine ev_rni hv16 ?_
      refine ev_istore_n (al2 := [(1, vi v16), (0, vr g 75), (2, vi v4), (3, vi v8)]) dX12_pairs_71 1 rfl (by decide) rfl ?_
      refine ev_iinc (al2 := [(3, vi (v8 + 1)), (1, vi v16), (0, vr g 75), (2, vi v4)]) dX12_pairs_72 3 rfl (by decide) rfl ?_
      refine ev_goto 31 dX12_pairs_75 (by decide) ?_
      obtain rfl := Option.some.inj hf
      refine ev_sub [2, 1, 3, 0] rfl ?_
      exact hr
    refine ev_icmp_ge 69 dX12_pairs_62 (by decide) (fun h15 => ?_) (fun h15 => ?_)
    · refine ev_iconst dX12_pairs_69 ?_
      have e9 : v14 = 0 := hv14.trans ((if_neg h15))
      subst e9
      exact hJv14
    · refine ev_iconst dX12_pairs_65 ?_
      refine ev_goto 70 dX12_pairs_66 (by decide) ?_
      have e9 : v14 = 1 := hv14.trans ((if_pos h15))
      subst e9
      exact hJv14
def fX12_pairs_b19 (v3 : Int) (v4 : Int) (μ : Mem) : Option ((Int × Int × Mem) ⊕ (Int × Mem)) :=
  if w32 v4 < w32 (μ 81 0) then
    lt (v4 + 1) fun v6 =>
    (loopN (fun s => fX12_pairs_b31 v4 s.1 s.2.1 s.2.2) FU (v3, v6, μ)).bind fun q17 =>
    some (.inl (q17.1, (v4 + 1), q17.2))
  else
    some (.inr (v3, μ))
set_option maxRecDepth 4000 in
theorem tX12_pairs_b19 (hS : Sd M K P L) (hc : CIn P 75 92) (v3 : Int) (v4 : Int) (μ : Mem)  {o : (Int × Int × Mem) ⊕ (Int × Mem)} (hf : fX12_pairs_b19 v3 v4 μ = some o) (hr : (Sum.elim (fun s : Int × Int × Mem => Ev l D cy g K yX12_pairs cX12_pairs 4 (some .int) (rmd 5 0 0) (MX D cy g K (rmd 5 0 0) Φ) 0 0 M x (L s.2.2) 19 [(0, vr g 75), (1, vi s.1), (2, vi s.2.1)] []) (fun e : Int × Mem => Ev l D cy g K yX12_pairs cX12_pairs 4 (some .int) (rmd 5 0 0) (MX D cy g K (rmd 5 0 0) Φ) 0 0 M x (L e.2) 84 [(1, vi e.1)] [])) o) : Ev l D cy g K yX12_pairs cX12_pairs 4 (some .int) (rmd 5 0 0) (MX D cy g K (rmd 5 0 0) Φ) 0 0 M x (L μ) 19 [(0, vr g 75), (1, vi v3), (2, vi v4)] [] := by
  unfold fX12_pairs_b19 at hf
  refine ev_iload_n dX12_pairs_19 2 rfl ?_
  refine ev_aload_n dX12_pairs_20 0 rfl ?_
  refine cl_V1 (As := []) (st := [vi v4]) miX12_cakes (tX12_cakes hS (hc.w rfl rfl) μ (o := (μ 81 0)) rfl) dX12_pairs_21 lkX12_209 inX12_cakes rfl (hS.lt (hc 75 rfl)) rfl ⟨rfl, rfl⟩ ⟨⟨Nat.le_of_ble_eq_true rfl, Nat.le_of_ble_eq_true rfl⟩, Nat.zero_le _, Nat.zero_le _⟩ (Nat.le_of_ble_eq_true rfl) ?_
  refine ev_icmp_ge 84 dX12_pairs_24 (by decide) (fun h5 => ?_) (fun h5 => ?_)
  · rw [if_neg h5] at hf
    obtain rfl := Option.some.inj hf
    refine ev_sub [1] rfl ?_
    exact hr
  · rw [if_pos h5] at hf
    refine ev_iload_n dX12_pairs_27 2 rfl ?_
    refine ev_iconst dX12_pairs_28 ?_
    refine ev_iadd dX12_pairs_29 ?_
    obtain ⟨v6, hv6, hf⟩ := lt_elim hf
    refine ev_rni hv6 ?_
    refine ev_istore_n (al2 := [(3, vi v6), (0, vr g 75), (1, vi v3), (2, vi v4)]) dX12_pairs_30 3 rfl (by decide) rfl ?_
    obtain ⟨q17, hq17, hf⟩ := Option.bind_eq_some_iff.mp hf
    refine ev_sub [1, 2, 3, 0] rfl ?_
    refine loop_ev (H := (fun s : Int × Int × Mem => Ev l D cy g K yX12_pairs cX12_pairs 4 (some .int) (rmd 5 0 0) (MX D cy g K (rmd 5 0 0) Φ) 0 0 M x (L s.2.2) 31 [(0, vr g 75), (1, vi s.1), (2, vi v4), (3, vi s.2.1)] [])) (Hx := (fun e : Int × Mem => Ev l D cy g K yX12_pairs cX12_pairs 4 (some .int) (rmd 5 0 0) (MX D cy g K (rmd 5 0 0) Φ) 0 0 M x (L e.2) 78 [(0, vr g 75), (1, vi e.1), (2, vi v4)] [])) (fun s o hb hr => tX12_pairs_b31 hS hc v4 s.1 s.2.1 s.2.2 hb hr) FU _ _ hq17 ?_
    show Ev l D cy g K yX12_pairs cX12_pairs 4 (some .int) (rmd 5 0 0) (MX D cy g K (rmd 5 0 0) Φ) 0 0 M x (L q17.2) 78 [(0, vr g 75), (1, vi q17.1), (2, vi v4)] []
    refine ev_iinc (al2 := [(2, vi (v4 + 1)), (0, vr g 75), (1, vi q17.1)]) dX12_pairs_78 2 rfl (by decide) rfl ?_
    refine ev_goto 19 dX12_pairs_81 (by decide) ?_
    obtain rfl := Option.some.inj hf
    refine ev_sub [1, 2, 0] rfl ?_
    exact hr
def fX12_pairs  (μ : Mem) : Option (Int × Mem) :=
  lt (upd2 μ 75 0 0) fun μ1 =>
  (fX12_lays (μ1 88 0) μ1).bind fun μ2 =>
  (loopN (fun s => fX12_pairs_b19 s.1 s.2.1 s.2.2) FU (0, 0, μ2)).bind fun q18 =>
  some ((q18.1, q18.2))
set_option maxRecDepth 4000 in
theorem eX12_pairs (hS : Sd M K P L) (hc : CIn P 75 92)  (μ : Mem)  {o : Int × Mem} (hf : fX12_pairs  μ = some o) (hr : (fun o : Int × Mem => Φ (some (vi o.1)) M x (L o.2)) o) : Ev l D cy g K yX12_pairs cX12_pairs 4 (some .int) (rmd 5 0 0) (MX D cy g K (rmd 5 0 0) Φ) 0 0 M x (L μ) 0 [(0, vr g 75)] [] := by
  unfold fX12_pairs at hf
  refine ev_aload_n dX12_pairs_0 0 rfl ?_
  refine ev_iconst dX12_pairs_1 ?_
  obtain ⟨μ1, hμ1, hf⟩ := lt_elim hf
  refine ev_putI 0 dX12_pairs_2 (hS.lt (hc 75 rfl)) rfl ciX12 (by decide) (Or.inl rfl) rfl rfl flX12_1 (hS.up (hc 75 rfl) hμ1) ?_
  refine ev_aload_n dX12_pairs_5 0 rfl ?_
  refine ev_aload_n dX12_pairs_6 0 rfl ?_
  refine ev_getK 19 dX12_pairs_7 (hS.lt (hc 75 rfl)) rfl (hS.K1 (hc 75 rfl) rfl) ciX12 (by decide) rfl flX12_94 ?_
  refine ev_iconst dX12_pairs_10 ?_
  refine ev_iald dX12_pairs_11 (hS.lt (hc 88 rfl)) rfl (hS.mem _ (hc 88 rfl)) ⟨by decide, by decide⟩ ?_
  refine ev_rn (w := vi (μ1 88 0)) (by rw [show (w32 0).toNat = 0 from by decide]) ?_
  obtain ⟨μ2, hμ2, hf⟩ := Option.bind_eq_some_iff.mp hf
  refine cl_V0 (As := [vi (μ1 88 0)]) (st := []) miX12_lays (tX12_lays hS (hc.w rfl rfl) (μ1 88 0) μ1 hμ2) dX12_pairs_12 lkX12_274 inX12_lays rfl (hS.lt (hc 75 rfl)) rfl ⟨rfl, rfl⟩ ⟨⟨Nat.le_of_ble_eq_true rfl, Nat.le_of_ble_eq_true rfl⟩, Nat.zero_le _, Nat.zero_le _⟩ (Nat.le_of_ble_eq_true rfl) ?_
  refine ev_iconst dX12_pairs_15 ?_
  refine ev_istore_n (al2 := [(1, vi 0), (0, vr g 75)]) dX12_pairs_16 1 rfl (by decide) rfl ?_
  refine ev_iconst dX12_pairs_17 ?_
  refine ev_istore_n (al2 := [(2, vi 0), (1, vi 0), (0, vr g 75)]) dX12_pairs_18 2 rfl (by decide) rfl ?_
  obtain ⟨q18, hq18, hf⟩ := Option.bind_eq_some_iff.mp hf
  refine ev_sub [2, 1, 0] rfl ?_
  refine loop_ev (H := (fun s : Int × Int × Mem => Ev l D cy g K yX12_pairs cX12_pairs 4 (some .int) (rmd 5 0 0) (MX D cy g K (rmd 5 0 0) Φ) 0 0 M x (L s.2.2) 19 [(0, vr g 75), (1, vi s.1), (2, vi s.2.1)] [])) (Hx := (fun e : Int × Mem => Ev l D cy g K yX12_pairs cX12_pairs 4 (some .int) (rmd 5 0 0) (MX D cy g K (rmd 5 0 0) Φ) 0 0 M x (L e.2) 84 [(1, vi e.1)] [])) (fun s o hb hr => tX12_pairs_b19 hS hc s.1 s.2.1 s.2.2 hb hr) FU _ _ hq18 ?_
  show Ev l D cy g K yX12_pairs cX12_pairs 4 (some .int) (rmd 5 0 0) (MX D cy g K (rmd 5 0 0) Φ) 0 0 M x (L q18.2) 84 [(1, vi q18.1)] []
  refine ev_iload_n dX12_pairs_84 0 rfl ?_
  obtain rfl := Option.some.inj hf
  exact ev_iret dX12_pairs_85 rfl ⟨Nat.zero_le _, Nat.zero_le _⟩ hr
theorem tX12_pairs (hS : Sd M K P L) (hc : CIn P 75 92) (μ : Mem) {o : Int × Mem} (hf : fX12_pairs μ = some o) : Cn l D cy g K K yX12_pairs cX12_pairs 4 (some .int) (rmd 5 0 0) [vr g 75] M x (L μ) (PE (some (vi o.1)) M x (L o.2)) :=
 Cn.of (by decide) (Nat.le_of_ble_eq_true rfl) (eX12_pairs hS hc μ hf (PE_i _ _ _ _))
def fX12_again_b25 (v3 : Int) (v5 : Int) (μ : Mem) : Option ((Int × Mem) ⊕ ((Int × Mem) ⊕ (Int × Mem))) :=
  if w32 v5 < w32 (μ 84 0) then
    gd (0 ≤ w32 (1 + v5) ∧ w32 (1 + v5) < 82) <|
    (fX12_mayTurn (μ 84 (w32 (1 + v5)).toNat) μ).bind fun q10 =>
    if q10.1 = true then
      gd (0 ≤ w32 (1 + v5) ∧ w32 (1 + v5) < 82) <|
      (fX12_turns (q10.2 84 (w32 (1 + v5)).toNat) q10.2).bind fun μ13 =>
      some (.inl ((v5 + 1), μ13))
    else
      some (.inr (.inr ((-1), q10.2)))
  else
    (fX12_numberNow μ).bind fun v7 =>
    if w32 v7 = w32 (μ 88 0) then
      some (.inr (.inr (v3, μ)))
    else
      some (.inr (.inl ((v3 + 1), μ)))
set_option maxRecDepth 4000 in
theorem tX12_again_b25 (hS : Sd M K P L) (hc : CIn P 75 92) (v3 : Int) (v5 : Int) (μ : Mem)  {o : (Int × Mem) ⊕ ((Int × Mem) ⊕ (Int × Mem))} (hf : fX12_again_b25 v3 v5 μ = some o) (hr : (Sum.elim (fun s : Int × Mem => Ev l D cy g K yX12_again cX12_again 3 (some .int) (rmd 5 0 0) (MX D cy g K (rmd 5 0 0) Φ) 0 0 M x (L s.2) 25 [(0, vr g 75), (1, vi v3), (2, vi s.1)] []) (Sum.elim (fun s : Int × Mem => Ev l D cy g K yX12_again cX12_again 3 (some .int) (rmd 5 0 0) (MX D cy g K (rmd 5 0 0) Φ) 0 0 M x (L s.2) 17 [(0, vr g 75), (1, vi s.1)] []) (fun o : Int × Mem => Φ (some (vi o.1)) M x (L o.2)))) o) : Ev l D cy g K yX12_again cX12_again 3 (some .int) (rmd 5 0 0) (MX D cy g K (rmd 5 0 0) Φ) 0 0 M x (L μ) 25 [(0, vr g 75), (1, vi v3), (2, vi v5)] [] := by
  unfold fX12_again_b25 at hf
  refine ev_iload_n dX12_again_25 2 rfl ?_
  refine ev_aload_n dX12_again_26 0 rfl ?_
  refine ev_getK 14 dX12_again_27 (hS.lt (hc 75 rfl)) rfl (hS.K1 (hc 75 rfl) rfl) ciX12 (by decide) rfl flX12_82 ?_
  refine ev_iconst dX12_again_30 ?_
  refine ev_iald dX12_again_31 (hS.lt (hc 84 rfl)) rfl (hS.mem _ (hc 84 rfl)) ⟨by decide, by decide⟩ ?_
  refine ev_rn (w := vi (μ 84 0)) (by rw [show (w32 0).toNat = 0 from by decide]) ?_
  refine ev_icmp_ge 70 dX12_again_32 (by decide) (fun h6 => ?_) (fun h6 => ?_)
  · rw [if_neg h6] at hf
    refine ev_aload_n dX12_again_70 0 rfl ?_
    obtain ⟨v7, hv7, hf⟩ := Option.bind_eq_some_iff.mp hf
    refine cl_V1 (As := []) (st := []) miX12_numberNow (tX12_numberNow hS (hc.w rfl rfl) μ hv7) dX12_again_71 lkX12_242 inX12_numberNow rfl (hS.lt (hc 75 rfl)) rfl ⟨rfl, rfl⟩ ⟨⟨Nat.le_of_ble_eq_true rfl, Nat.le_of_ble_eq_true rfl⟩, Nat.zero_le _, Nat.zero_le _⟩ (Nat.le_of_ble_eq_true rfl) ?_
    refine ev_aload_n dX12_again_74 0 rfl ?_
    refine ev_getK 19 dX12_again_75 (hS.lt (hc 75 rfl)) rfl (hS.K1 (hc 75 rfl) rfl) ciX12 (by decide) rfl flX12_94 ?_
    refine ev_iconst dX12_again_78 ?_
    refine ev_iald dX12_again_79 (hS.lt (hc 88 rfl)) rfl (hS.mem _ (hc 88 rfl)) ⟨by decide, by decide⟩ ?_
    refine ev_rn (w := vi (μ 88 0)) (by rw [show (w32 0).toNat = 0 from by decide]) ?_
    refine ev_icmp_ne 85 dX12_again_80 (by decide) (fun h8 => ?_) (fun h8 => ?_)
    · rw [if_neg h8] at hf
      refine ev_iinc (al2 := [(1, vi (v3 + 1)), (0, vr g 75), (2, vi v5)]) dX12_again_85 1 rfl (by decide) rfl ?_
      refine ev_goto 17 dX12_again_88 (by decide) ?_
      obtain rfl := Option.some.inj hf
      refine ev_sub [1, 0] rfl ?_
      exact hr
    · rw [if_pos h8] at hf
      refine ev_iload_n dX12_again_83 1 rfl ?_
      obtain rfl := Option.some.inj hf
      exact ev_iret dX12_again_84 rfl ⟨Nat.zero_le _, Nat.zero_le _⟩ hr
  · rw [if_pos h6] at hf
    refine ev_aload_n dX12_again_35 0 rfl ?_
    refine ev_aload_n dX12_again_36 0 rfl ?_
    refine ev_getK 14 dX12_again_37 (hS.lt (hc 75 rfl)) rfl (hS.K1 (hc 75 rfl) rfl) ciX12 (by decide) rfl flX12_82 ?_
    refine ev_iconst dX12_again_40 ?_
    refine ev_iload_n dX12_again_41 2 rfl ?_
    refine ev_iadd dX12_again_42 ?_
    obtain ⟨g9, hf⟩ := gd_elim hf
    refine ev_iald dX12_again_43 (hS.lt (hc 84 rfl)) rfl (hS.mem _ (hc 84 rfl)) g9 ?_
    obtain ⟨q10, hq10, hf⟩ := Option.bind_eq_some_iff.mp hf
    refine cl_V1 (As := [vi (μ 84 (w32 (1 + v5)).toNat)]) (st := []) miX12_mayTurn (tX12_mayTurn hS (hc.w rfl rfl) (μ 84 (w32 (1 + v5)).toNat) μ hq10) dX12_again_44 lkX12_277 inX12_mayTurn rfl (hS.lt (hc 75 rfl)) rfl ⟨rfl, rfl⟩ ⟨⟨Nat.le_of_ble_eq_true rfl, Nat.le_of_ble_eq_true rfl⟩, Nat.zero_le _, Nat.zero_le _⟩ (Nat.le_of_ble_eq_true rfl) ?_
    refine ev_ifb_ne 52 dX12_again_47 (by decide) (fun h11 => ?_) (fun h11 => ?_)
    · rw [if_pos h11] at hf
      refine ev_aload_n dX12_again_52 0 rfl ?_
      refine ev_aload_n dX12_again_53 0 rfl ?_
      refine ev_getK 14 dX12_again_54 (hS.lt (hc 75 rfl)) rfl (hS.K1 (hc 75 rfl) rfl) ciX12 (by decide) rfl flX12_82 ?_
      refine ev_iconst dX12_again_57 ?_
      refine ev_iload_n dX12_again_58 2 rfl ?_
      refine ev_iadd dX12_again_59 ?_
      obtain ⟨g12, hf⟩ := gd_elim hf
      refine ev_iald dX12_again_60 (hS.lt (hc 84 rfl)) rfl (hS.mem _ (hc 84 rfl)) g12 ?_
      obtain ⟨μ13, hμ13, hf⟩ := Option.bind_eq_some_iff.mp hf
      refine cl_V0 (As := [vi (q10.2 84 (w32 (1 + v5)).toNat)]) (st := []) miX12_turns (tX12_turns hS (hc.w rfl rfl) (q10.2 84 (w32 (1 + v5)).toNat) q10.2 hμ13) dX12_again_61 lkX12_286 inX12_turns rfl (hS.lt (hc 75 rfl)) rfl ⟨rfl, rfl⟩ ⟨⟨Nat.le_of_ble_eq_true rfl, Nat.le_of_ble_eq_true rfl⟩, Nat.zero_le _, Nat.zero_le _⟩ (Nat.le_of_ble_eq_true rfl) ?_
      refine ev_iinc (al2 := [(2, vi (v5 + 1)), (0, vr g 75), (1, vi v3)]) dX12_again_64 2 rfl (by decide) rfl ?_
      refine ev_goto 25 dX12_again_67 (by decide) ?_
      obtain rfl := Option.some.inj hf
      refine ev_sub [1, 2, 0] rfl ?_
      exact hr
    · rw [if_neg h11] at hf
      refine ev_iconst dX12_again_50 ?_
      obtain rfl := Option.some.inj hf
      exact ev_iret dX12_again_51 rfl ⟨Nat.zero_le _, Nat.zero_le _⟩ hr
def fX12_again_b17 (v3 : Int) (μ : Mem) : Option ((Int × Mem) ⊕ (Int × Mem)) :=
  if w32 v3 ≤ w32 60 then
    loopN (fun s => fX12_again_b25 v3 s.1 s.2) FU (0, μ)
  else
    some (.inr ((-1), μ))
set_option maxRecDepth 4000 in
theorem tX12_again_b17 (hS : Sd M K P L) (hc : CIn P 75 92) (v3 : Int) (μ : Mem)  {o : (Int × Mem) ⊕ (Int × Mem)} (hf : fX12_again_b17 v3 μ = some o) (hr : (Sum.elim (fun s : Int × Mem => Ev l D cy g K yX12_again cX12_again 3 (some .int) (rmd 5 0 0) (MX D cy g K (rmd 5 0 0) Φ) 0 0 M x (L s.2) 17 [(0, vr g 75), (1, vi s.1)] []) (fun o : Int × Mem => Φ (some (vi o.1)) M x (L o.2))) o) : Ev l D cy g K yX12_again cX12_again 3 (some .int) (rmd 5 0 0) (MX D cy g K (rmd 5 0 0) Φ) 0 0 M x (L μ) 17 [(0, vr g 75), (1, vi v3)] [] := by
  unfold fX12_again_b17 at hf
  refine ev_iload_n dX12_again_17 1 rfl ?_
  refine ev_bipush dX12_again_18 (by decide) ?_
  refine ev_icmp_gt 91 dX12_again_20 (by decide) (fun h4 => ?_) (fun h4 => ?_)
  · rw [if_neg h4] at hf
    refine ev_iconst dX12_again_91 ?_
    obtain rfl := Option.some.inj hf
    exact ev_iret dX12_again_92 rfl ⟨Nat.zero_le _, Nat.zero_le _⟩ hr
  · rw [if_pos h4] at hf
    refine ev_iconst dX12_again_23 ?_
    refine ev_istore_n (al2 := [(2, vi 0), (0, vr g 75), (1, vi v3)]) dX12_again_24 2 rfl (by decide) rfl ?_
    refine ev_sub [1, 2, 0] rfl ?_
    exact loop_ev (H := (fun s : Int × Mem => Ev l D cy g K yX12_again cX12_again 3 (some .int) (rmd 5 0 0) (MX D cy g K (rmd 5 0 0) Φ) 0 0 M x (L s.2) 25 [(0, vr g 75), (1, vi v3), (2, vi s.1)] [])) (Hx := (Sum.elim (fun s : Int × Mem => Ev l D cy g K yX12_again cX12_again 3 (some .int) (rmd 5 0 0) (MX D cy g K (rmd 5 0 0) Φ) 0 0 M x (L s.2) 17 [(0, vr g 75), (1, vi s.1)] []) (fun o : Int × Mem => Φ (some (vi o.1)) M x (L o.2)))) (fun s o hb hr => tX12_again_b25 hS hc v3 s.1 s.2 hb hr) FU _ _ hf hr
def fX12_again  (μ : Mem) : Option (Int × Mem) :=
  lt (upd2 μ 75 0 0) fun μ1 =>
  (fX12_lays (μ1 88 0) μ1).bind fun μ2 =>
  loopN (fun s => fX12_again_b17 s.1 s.2) FU (1, μ2)
set_option maxRecDepth 4000 in
theorem eX12_again (hS : Sd M K P L) (hc : CIn P 75 92)  (μ : Mem)  {o : Int × Mem} (hf : fX12_again  μ = some o) (hr : (fun o : Int × Mem => Φ (some (vi o.1)) M x (L o.2)) o) : Ev l D cy g K yX12_again cX12_again 3 (some .int) (rmd 5 0 0) (MX D cy g K (rmd 5 0 0) Φ) 0 0 M x (L μ) 0 [(0, vr g 75)] [] := by
  unfold fX12_again at hf
  refine ev_aload_n dX12_again_0 0 rfl ?_
  refine ev_iconst dX12_again_1 ?_
  obtain ⟨μ1, hμ1, hf⟩ := lt_elim hf
  refine ev_putI 0 dX12_again_2 (hS.lt (hc 75 rfl)) rfl ciX12 (by decide) (Or.inl rfl) rfl rfl flX12_1 (hS.up (hc 75 rfl) hμ1) ?_
  refine ev_aload_n dX12_again_5 0 rfl ?_
  refine ev_aload_n dX12_again_6 0 rfl ?_
  refine ev_getK 19 dX12_again_7 (hS.lt (hc 75 rfl)) rfl (hS.K1 (hc 75 rfl) rfl) ciX12 (by decide) rfl flX12_94 ?_
  refine ev_iconst dX12_again_10 ?_
  refine ev_iald dX12_again_11 (hS.lt (hc 88 rfl)) rfl (hS.mem _ (hc 88 rfl)) ⟨by decide, by decide⟩ ?_
  refine ev_rn (w := vi (μ1 88 0)) (by rw [show (w32 0).toNat = 0 from by decide]) ?_
  obtain ⟨μ2, hμ2, hf⟩ := Option.bind_eq_some_iff.mp hf
  refine cl_V0 (As := [vi (μ1 88 0)]) (st := []) miX12_lays (tX12_lays hS (hc.w rfl rfl) (μ1 88 0) μ1 hμ2) dX12_again_12 lkX12_274 inX12_lays rfl (hS.lt (hc 75 rfl)) rfl ⟨rfl, rfl⟩ ⟨⟨Nat.le_of_ble_eq_true rfl, Nat.le_of_ble_eq_true rfl⟩, Nat.zero_le _, Nat.zero_le _⟩ (Nat.le_of_ble_eq_true rfl) ?_
  refine ev_iconst dX12_again_15 ?_
  refine ev_istore_n (al2 := [(1, vi 1), (0, vr g 75)]) dX12_again_16 1 rfl (by decide) rfl ?_
  refine ev_sub [1, 0] rfl ?_
  exact loop_ev (H := (fun s : Int × Mem => Ev l D cy g K yX12_again cX12_again 3 (some .int) (rmd 5 0 0) (MX D cy g K (rmd 5 0 0) Φ) 0 0 M x (L s.2) 17 [(0, vr g 75), (1, vi s.1)] [])) (Hx := (fun o : Int × Mem => Φ (some (vi o.1)) M x (L o.2))) (fun s o hb hr => tX12_again_b17 hS hc s.1 s.2 hb hr) FU _ _ hf hr
theorem tX12_again (hS : Sd M K P L) (hc : CIn P 75 92) (μ : Mem) {o : Int × Mem} (hf : fX12_again μ = some o) : Cn l D cy g K K yX12_again cX12_again 3 (some .int) (rmd 5 0 0) [vr g 75] M x (L μ) (PE (some (vi o.1)) M x (L o.2)) :=
 Cn.of (by decide) (Nat.le_of_ble_eq_true rfl) (eX12_again hS hc μ hf (PE_i _ _ _ _))
def fX12_endOf_b7 (from0 : Int) (but : Int) (v2 : Int) (μ : Mem) : Option ((Int × Mem) ⊕ (Mem)) :=
  if w32 v2 < w32 (μ 84 0) then
    if w32 v2 = w32 but then
      some (.inl ((v2 + 1), μ))
    else
      gd (0 ≤ w32 (1 + v2) ∧ w32 (1 + v2) < 82) <|
      (fX12_mayTurn (μ 84 (w32 (1 + v2)).toNat) μ).bind fun q6 =>
      if q6.1 = true then
        gd (0 ≤ w32 (1 + v2) ∧ w32 (1 + v2) < 82) <|
        (fX12_turns (q6.2 84 (w32 (1 + v2)).toNat) q6.2).bind fun μ9 =>
        some (.inl ((v2 + 1), μ9))
      else
        some (.inl ((v2 + 1), q6.2))
  else
    some (.inr μ)
set_option maxRecDepth 4000 in
theorem tX12_endOf_b7 (hS : Sd M K P L) (hc : CIn P 75 92) (from0 : Int) (but : Int) (v2 : Int) (μ : Mem)  {o : (Int × Mem) ⊕ (Mem)} (hf : fX12_endOf_b7 from0 but v2 μ = some o) (hr : (Sum.elim (fun s : Int × Mem => Ev l D cy g K yX12_endOf cX12_endOf 4 (some .int) (rmd 5 0 0) (MX D cy g K (rmd 5 0 0) Φ) 0 0 M x (L s.2) 7 [(0, vr g 75), (2, vi but), (3, vi s.1)] []) (fun e : Mem => Ev l D cy g K yX12_endOf cX12_endOf 4 (some .int) (rmd 5 0 0) (MX D cy g K (rmd 5 0 0) Φ) 0 0 M x (L e) 55 [(0, vr g 75)] [])) o) : Ev l D cy g K yX12_endOf cX12_endOf 4 (some .int) (rmd 5 0 0) (MX D cy g K (rmd 5 0 0) Φ) 0 0 M x (L μ) 7 [(0, vr g 75), (2, vi but), (3, vi v2)] [] := by
  unfold fX12_endOf_b7 at hf
  refine ev_iload_n dX12_endOf_7 2 rfl ?_
  refine ev_aload_n dX12_endOf_8 0 rfl ?_
  refine ev_getK 14 dX12_endOf_9 (hS.lt (hc 75 rfl)) rfl (hS.K1 (hc 75 rfl) rfl) ciX12 (by decide) rfl flX12_82 ?_
  refine ev_iconst dX12_endOf_12 ?_
  refine ev_iald dX12_endOf_13 (hS.lt (hc 84 rfl)) rfl (hS.mem _ (hc 84 rfl)) ⟨by decide, by decide⟩ ?_
  refine ev_rn (w := vi (μ 84 0)) (by rw [show (w32 0).toNat = 0 from by decide]) ?_
  refine ev_icmp_ge 55 dX12_endOf_14 (by decide) (fun h3 => ?_) (fun h3 => ?_)
  · rw [if_neg h3] at hf
    obtain rfl := Option.some.inj hf
    refine ev_sub [0] rfl ?_
    exact hr
  · rw [if_pos h3] at hf
    refine ev_iload_n dX12_endOf_17 2 rfl ?_
    refine ev_iload_n dX12_endOf_18 1 rfl ?_
    refine ev_icmp_eq 49 dX12_endOf_19 (by decide) (fun h4 => ?_) (fun h4 => ?_)
    · rw [if_pos h4] at hf
      refine ev_iinc (al2 := [(3, vi (v2 + 1)), (0, vr g 75), (2, vi but)]) dX12_endOf_49 2 rfl (by decide) rfl ?_
      refine ev_goto 7 dX12_endOf_52 (by decide) ?_
      obtain rfl := Option.some.inj hf
      refine ev_sub [1, 2, 0] rfl ?_
      exact hr
    · rw [if_neg h4] at hf
      refine ev_aload_n dX12_endOf_22 0 rfl ?_
      refine ev_aload_n dX12_endOf_23 0 rfl ?_
      refine ev_getK 14 dX12_endOf_24 (hS.lt (hc 75 rfl)) rfl (hS.K1 (hc 75 rfl) rfl) ciX12 (by decide) rfl flX12_82 ?_
      refine ev_iconst dX12_endOf_27 ?_
      refine ev_iload_n dX12_endOf_28 2 rfl ?_
      refine ev_iadd dX12_endOf_29 ?_
      obtain ⟨g5, hf⟩ := gd_elim hf
      refine ev_iald dX12_endOf_30 (hS.lt (hc 84 rfl)) rfl (hS.mem _ (hc 84 rfl)) g5 ?_
      obtain ⟨q6, hq6, hf⟩ := Option.bind_eq_some_iff.mp hf
      refine cl_V1 (As := [vi (μ 84 (w32 (1 + v2)).toNat)]) (st := []) miX12_mayTurn (tX12_mayTurn hS (hc.w rfl rfl) (μ 84 (w32 (1 + v2)).toNat) μ hq6) dX12_endOf_31 lkX12_277 inX12_mayTurn rfl (hS.lt (hc 75 rfl)) rfl ⟨rfl, rfl⟩ ⟨⟨Nat.le_of_ble_eq_true rfl, Nat.le_of_ble_eq_true rfl⟩, Nat.zero_le _, Nat.zero_le _⟩ (Nat.le_of_ble_eq_true rfl) ?_
      refine ev_ifb_eq 49 dX12_endOf_34 (by decide) (fun h7 => ?_) (fun h7 => ?_)
      · rw [if_neg h7] at hf
        refine ev_iinc (al2 := [(3, vi (v2 + 1)), (0, vr g 75), (2, vi but)]) dX12_endOf_49 2 rfl (by decide) rfl ?_
        refine ev_goto 7 dX12_endOf_52 (by decide) ?_
        obtain rfl := Option.some.inj hf
        refine ev_sub [1, 2, 0] rfl ?_
        exact hr
      · rw [if_pos h7] at hf
        refine ev_aload_n dX12_endOf_37 0 rfl ?_
        refine ev_aload_n dX12_endOf_38 0 rfl ?_
        refine ev_getK 14 dX12_endOf_39 (hS.lt (hc 75 rfl)) rfl (hS.K1 (hc 75 rfl) rfl) ciX12 (by decide) rfl flX12_82 ?_
        refine ev_iconst dX12_endOf_42 ?_
        refine ev_iload_n dX12_endOf_43 2 rfl ?_
        refine ev_iadd dX12_endOf_44 ?_
        obtain ⟨g8, hf⟩ := gd_elim hf
        refine ev_iald dX12_endOf_45 (hS.lt (hc 84 rfl)) rfl (hS.mem _ (hc 84 rfl)) g8 ?_
        obtain ⟨μ9, hμ9, hf⟩ := Option.bind_eq_some_iff.mp hf
        refine cl_V0 (As := [vi (q6.2 84 (w32 (1 + v2)).toNat)]) (st := []) miX12_turns (tX12_turns hS (hc.w rfl rfl) (q6.2 84 (w32 (1 + v2)).toNat) q6.2 hμ9) dX12_endOf_46 lkX12_286 inX12_turns rfl (hS.lt (hc 75 rfl)) rfl ⟨rfl, rfl⟩ ⟨⟨Nat.le_of_ble_eq_true rfl, Nat.le_of_ble_eq_true rfl⟩, Nat.zero_le _, Nat.zero_le _⟩ (Nat.le_of_ble_eq_true rfl) ?_
        refine ev_iinc (al2 := [(3, vi (v2 + 1)), (0, vr g 75), (2, vi but)]) dX12_endOf_49 2 rfl (by decide) rfl ?_
        refine ev_goto 7 dX12_endOf_52 (by decide) ?_
        obtain rfl := Option.some.inj hf
        refine ev_sub [1, 2, 0] rfl ?_
        exact hr
def fX12_endOf (from0 : Int) (but : Int) (μ : Mem) : Option (Int × Mem) :=
  (fX12_lays from0 μ).bind fun μ1 =>
  (loopN (fun s => fX12_endOf_b7 from0 but s.1 s.2) FU (0, μ1)).bind fun q10 =>
  (fX12_numberNow q10).bind fun v11 =>
  some ((v11, q10))
set_option maxRecDepth 4000 in
theorem eX12_endOf (hS : Sd M K P L) (hc : CIn P 75 92) (from0 : Int) (but : Int) (μ : Mem)  {o : Int × Mem} (hf : fX12_endOf from0 but μ = some o) (hr : (fun o : Int × Mem => Φ (some (vi o.1)) M x (L o.2)) o) : Ev l D cy g K yX12_endOf cX12_endOf 4 (some .int) (rmd 5 0 0) (MX D cy g K (rmd 5 0 0) Φ) 0 0 M x (L μ) 0 [(0, vr g 75), (1, vi from0), (2, vi but)] [] := by
  unfold fX12_endOf at hf
  refine ev_aload_n dX12_endOf_0 0 rfl ?_
  refine ev_iload_n dX12_endOf_1 1 rfl ?_
  obtain ⟨μ1, hμ1, hf⟩ := Option.bind_eq_some_iff.mp hf
  refine cl_V0 (As := [vi from0]) (st := []) miX12_lays (tX12_lays hS (hc.w rfl rfl) from0 μ hμ1) dX12_endOf_2 lkX12_274 inX12_lays rfl (hS.lt (hc 75 rfl)) rfl ⟨rfl, rfl⟩ ⟨⟨Nat.le_of_ble_eq_true rfl, Nat.le_of_ble_eq_true rfl⟩, Nat.zero_le _, Nat.zero_le _⟩ (Nat.le_of_ble_eq_true rfl) ?_
  refine ev_iconst dX12_endOf_5 ?_
  refine ev_istore_n (al2 := [(3, vi 0), (0, vr g 75), (1, vi from0), (2, vi but)]) dX12_endOf_6 3 rfl (by decide) rfl ?_
  obtain ⟨q10, hq10, hf⟩ := Option.bind_eq_some_iff.mp hf
  refine ev_sub [1, 3, 0] rfl ?_
  refine loop_ev (H := (fun s : Int × Mem => Ev l D cy g K yX12_endOf cX12_endOf 4 (some .int) (rmd 5 0 0) (MX D cy g K (rmd 5 0 0) Φ) 0 0 M x (L s.2) 7 [(0, vr g 75), (2, vi but), (3, vi s.1)] [])) (Hx := (fun e : Mem => Ev l D cy g K yX12_endOf cX12_endOf 4 (some .int) (rmd 5 0 0) (MX D cy g K (rmd 5 0 0) Φ) 0 0 M x (L e) 55 [(0, vr g 75)] [])) (fun s o hb hr => tX12_endOf_b7 hS hc from0 but s.1 s.2 hb hr) FU _ _ hq10 ?_
  show Ev l D cy g K yX12_endOf cX12_endOf 4 (some .int) (rmd 5 0 0) (MX D cy g K (rmd 5 0 0) Φ) 0 0 M x (L q10) 55 [(0, vr g 75)] []
  refine ev_aload_n dX12_endOf_55 0 rfl ?_
  obtain ⟨v11, hv11, hf⟩ := Option.bind_eq_some_iff.mp hf
  refine cl_V1 (As := []) (st := []) miX12_numberNow (tX12_numberNow hS (hc.w rfl rfl) q10 hv11) dX12_endOf_56 lkX12_242 inX12_numberNow rfl (hS.lt (hc 75 rfl)) rfl ⟨rfl, rfl⟩ ⟨⟨Nat.le_of_ble_eq_true rfl, Nat.le_of_ble_eq_true rfl⟩, Nat.zero_le _, Nat.zero_le _⟩ (Nat.le_of_ble_eq_true rfl) ?_
  obtain rfl := Option.some.inj hf
  exact ev_iret dX12_endOf_59 rfl ⟨Nat.zero_le _, Nat.zero_le _⟩ hr
theorem tX12_endOf (hS : Sd M K P L) (hc : CIn P 75 92) (from0 : Int) (but : Int) (μ : Mem) {o : Int × Mem} (hf : fX12_endOf from0 but μ = some o) : Cn l D cy g K K yX12_endOf cX12_endOf 4 (some .int) (rmd 5 0 0) [vr g 75, vi from0, vi but] M x (L μ) (PE (some (vi o.1)) M x (L o.2)) :=
 Cn.of (by decide) (Nat.le_of_ble_eq_true rfl) (eX12_endOf hS hc from0 but μ hf (PE_i _ _ _ _))
def fX12_spare_b19 (c3 : Int) (v4 : Int) (v5 : Int) (μ : Mem) : Option ((Int × Int × Mem) ⊕ (Int × Mem)) :=
  if w32 v5 < w32 (μ 84 0) then
    (fX12_endOf (μ 75 22) v5 μ).bind fun q7 =>
    lt (if w32 q7.1 = w32 c3 then
        1
      else
        0) fun v8 =>
    lt (v4 + v8) fun v10 =>
    some (.inl (v10, (v5 + 1), q7.2))
  else
    some (.inr (v4, μ))
set_option maxRecDepth 4000 in
theorem tX12_spare_b19 (hS : Sd M K P L) (hc : CIn P 75 92) (c3 : Int) (v4 : Int) (v5 : Int) (μ : Mem)  {o : (Int × Int × Mem) ⊕ (Int × Mem)} (hf : fX12_spare_b19 c3 v4 v5 μ = some o) (hr : (Sum.elim (fun s : Int × Int × Mem => Ev l D cy g K yX12_spare cX12_spare 4 (some .int) (rmd 6 0 0) (MX D cy g K (rmd 6 0 0) Φ) 0 0 M x (L s.2.2) 19 [(0, vr g 75), (1, vi c3), (2, vi s.1), (3, vi s.2.1)] []) (fun e : Int × Mem => Ev l D cy g K yX12_spare cX12_spare 4 (some .int) (rmd 6 0 0) (MX D cy g K (rmd 6 0 0) Φ) 0 0 M x (L e.2) 56 [(2, vi e.1)] [])) o) : Ev l D cy g K yX12_spare cX12_spare 4 (some .int) (rmd 6 0 0) (MX D cy g K (rmd 6 0 0) Φ) 0 0 M x (L μ) 19 [(0, vr g 75), (1, vi c3), (2, vi v4), (3, vi v5)] [] := by
  unfold fX12_spare_b19 at hf
  refine ev_iload_n dX12_spare_19 3 rfl ?_
  refine ev_aload_n dX12_spare_20 0 rfl ?_
  refine ev_getK 14 dX12_spare_21 (hS.lt (hc 75 rfl)) rfl (hS.K1 (hc 75 rfl) rfl) ciX12 (by decide) rfl flX12_82 ?_
  refine ev_iconst dX12_spare_24 ?_
  refine ev_iald dX12_spare_25 (hS.lt (hc 84 rfl)) rfl (hS.mem _ (hc 84 rfl)) ⟨by decide, by decide⟩ ?_
  refine ev_rn (w := vi (μ 84 0)) (by rw [show (w32 0).toNat = 0 from by decide]) ?_
  refine ev_icmp_ge 56 dX12_spare_26 (by decide) (fun h6 => ?_) (fun h6 => ?_)
  · rw [if_neg h6] at hf
    obtain rfl := Option.some.inj hf
    refine ev_sub [2] rfl ?_
    exact hr
  · rw [if_pos h6] at hf
    refine ev_iload_n dX12_spare_29 2 rfl ?_
    refine ev_aload_n dX12_spare_30 0 rfl ?_
    refine ev_aload_n dX12_spare_31 0 rfl ?_
    refine ev_getI 22 dX12_spare_32 (hS.lt (hc 75 rfl)) rfl (hS.mem _ (hc 75 rfl)) ciX12 (by decide) rfl flX12_245 ?_
    refine ev_iload_n dX12_spare_35 3 rfl ?_
    obtain ⟨q7, hq7, hf⟩ := Option.bind_eq_some_iff.mp hf
    refine cl_V1 (As := [vi (μ 75 22), vi v5]) (st := [vi v4]) miX12_endOf (tX12_endOf hS (hc.w rfl rfl) (μ 75 22) v5 μ hq7) dX12_spare_36 lkX12_349 inX12_endOf rfl (hS.lt (hc 75 rfl)) rfl ⟨rfl, rfl⟩ ⟨⟨Nat.le_of_ble_eq_true rfl, Nat.le_of_ble_eq_true rfl⟩, Nat.zero_le _, Nat.zero_le _⟩ (Nat.le_of_ble_eq_true rfl) ?_
    refine ev_iload_n dX12_spare_39 1 rfl ?_
    obtain ⟨v8, hv8, hf⟩ := lt_elim hf
    have hJv8 : Ev l D cy g K yX12_spare cX12_spare 4 (some .int) (rmd 6 0 0) (MX D cy g K (rmd 6 0 0) Φ) 0 0 M x (L q7.2) 48 [(0, vr g 75), (1, vi c3), (2, vi v4), (3, vi v5)] [vi v8, vi v4] := by
      refine ev_iadd dX12_spare_48 ?_
      obtain ⟨v10, hv10, hf⟩ := lt_elim hf
      refine ev_rni hv10 ?_
      refine ev_istore_n (al2 := [(2, vi v10), (0, vr g 75), (1, vi c3), (3, vi v5)]) dX12_spare_49 2 rfl (by decide) rfl ?_
      refine ev_iinc (al2 := [(3, vi (v5 + 1)), (2, vi v10), (0, vr g 75), (1, vi c3)]) dX12_spare_50 3 rfl (by decide) rfl ?_
      refine ev_goto 19 dX12_spare_53 (by decide) ?_
      obtain rfl := Option.some.inj hf
      refine ev_sub [2, 3, 1, 0] rfl ?_
      exact hr
    refine ev_icmp_ne 47 dX12_spare_40 (by decide) (fun h9 => ?_) (fun h9 => ?_)
    · refine ev_iconst dX12_spare_47 ?_
      have e9 : v8 = 0 := hv8.trans ((if_neg h9))
      subst e9
      exact hJv8
    · refine ev_iconst dX12_spare_43 ?_
      refine ev_goto 48 dX12_spare_44 (by decide) ?_
      have e9 : v8 = 1 := hv8.trans ((if_pos h9))
      subst e9
      exact hJv8
def fX12_spare  (μ : Mem) : Option (Int × Mem) :=
  lt (upd2 μ 75 0 0) fun μ1 =>
  (fX12_endOf (μ1 75 22) (-1) μ1).bind fun q2 =>
  (loopN (fun s => fX12_spare_b19 q2.1 s.1 s.2.1 s.2.2) FU (0, 0, q2.2)).bind fun q11 =>
  some ((q11.1, q11.2))
set_option maxRecDepth 4000 in
theorem eX12_spare (hS : Sd M K P L) (hc : CIn P 75 92)  (μ : Mem)  {o : Int × Mem} (hf : fX12_spare  μ = some o) (hr : (fun o : Int × Mem => Φ (some (vi o.1)) M x (L o.2)) o) : Ev l D cy g K yX12_spare cX12_spare 4 (some .int) (rmd 6 0 0) (MX D cy g K (rmd 6 0 0) Φ) 0 0 M x (L μ) 0 [(0, vr g 75)] [] := by
  unfold fX12_spare at hf
  refine ev_aload_n dX12_spare_0 0 rfl ?_
  refine ev_iconst dX12_spare_1 ?_
  obtain ⟨μ1, hμ1, hf⟩ := lt_elim hf
  refine ev_putI 0 dX12_spare_2 (hS.lt (hc 75 rfl)) rfl ciX12 (by decide) (Or.inl rfl) rfl rfl flX12_1 (hS.up (hc 75 rfl) hμ1) ?_
  refine ev_aload_n dX12_spare_5 0 rfl ?_
  refine ev_aload_n dX12_spare_6 0 rfl ?_
  refine ev_getI 22 dX12_spare_7 (hS.lt (hc 75 rfl)) rfl (hS.mem _ (hc 75 rfl)) ciX12 (by decide) rfl flX12_245 ?_
  refine ev_iconst dX12_spare_10 ?_
  obtain ⟨q2, hq2, hf⟩ := Option.bind_eq_some_iff.mp hf
  refine cl_V1 (As := [vi (μ1 75 22), vi (-1)]) (st := []) miX12_endOf (tX12_endOf hS (hc.w rfl rfl) (μ1 75 22) (-1) μ1 hq2) dX12_spare_11 lkX12_349 inX12_endOf rfl (hS.lt (hc 75 rfl)) rfl ⟨rfl, rfl⟩ ⟨⟨Nat.le_of_ble_eq_true rfl, Nat.le_of_ble_eq_true rfl⟩, Nat.zero_le _, Nat.zero_le _⟩ (Nat.le_of_ble_eq_true rfl) ?_
  refine ev_istore_n (al2 := [(1, vi q2.1), (0, vr g 75)]) dX12_spare_14 1 rfl (by decide) rfl ?_
  refine ev_iconst dX12_spare_15 ?_
  refine ev_istore_n (al2 := [(2, vi 0), (1, vi q2.1), (0, vr g 75)]) dX12_spare_16 2 rfl (by decide) rfl ?_
  refine ev_iconst dX12_spare_17 ?_
  refine ev_istore_n (al2 := [(3, vi 0), (2, vi 0), (1, vi q2.1), (0, vr g 75)]) dX12_spare_18 3 rfl (by decide) rfl ?_
  obtain ⟨q11, hq11, hf⟩ := Option.bind_eq_some_iff.mp hf
  refine ev_sub [3, 2, 1, 0] rfl ?_
  refine loop_ev (H := (fun s : Int × Int × Mem => Ev l D cy g K yX12_spare cX12_spare 4 (some .int) (rmd 6 0 0) (MX D cy g K (rmd 6 0 0) Φ) 0 0 M x (L s.2.2) 19 [(0, vr g 75), (1, vi q2.1), (2, vi s.1), (3, vi s.2.1)] [])) (Hx := (fun e : Int × Mem => Ev l D cy g K yX12_spare cX12_spare 4 (some .int) (rmd 6 0 0) (MX D cy g K (rmd 6 0 0) Φ) 0 0 M x (L e.2) 56 [(2, vi e.1)] [])) (fun s o hb hr => tX12_spare_b19 hS hc q2.1 s.1 s.2.1 s.2.2 hb hr) FU _ _ hq11 ?_
  show Ev l D cy g K yX12_spare cX12_spare 4 (some .int) (rmd 6 0 0) (MX D cy g K (rmd 6 0 0) Φ) 0 0 M x (L q11.2) 56 [(2, vi q11.1)] []
  refine ev_iload_n dX12_spare_56 0 rfl ?_
  obtain rfl := Option.some.inj hf
  exact ev_iret dX12_spare_57 rfl ⟨Nat.zero_le _, Nat.zero_le _⟩ hr
theorem tX12_spare (hS : Sd M K P L) (hc : CIn P 75 92) (μ : Mem) {o : Int × Mem} (hf : fX12_spare μ = some o) : Cn l D cy g K K yX12_spare cX12_spare 4 (some .int) (rmd 6 0 0) [vr g 75] M x (L μ) (PE (some (vi o.1)) M x (L o.2)) :=
 Cn.of (by decide) (Nat.le_of_ble_eq_true rfl) (eX12_spare hS hc μ hf (PE_i _ _ _ _))
def fX12_ends  (μ : Mem) : Option (Bool × Mem) :=
  lt (upd2 μ 75 0 0) fun μ1 =>
  (fX12_endOf (μ1 88 0) (-1) μ1).bind fun q2 =>
  (fX12_lays q2.1 q2.2).bind fun μ3 =>
  (fX12_isServed μ3).bind fun v4 =>
  some ((v4, μ3))
set_option maxRecDepth 4000 in
theorem eX12_ends (hS : Sd M K P L) (hc : CIn P 75 92)  (μ : Mem)  {o : Bool × Mem} (hf : fX12_ends  μ = some o) (hr : (fun o : Bool × Mem => Φ (some (vb o.1)) M x (L o.2)) o) : Ev l D cy g K yX12_ends cX12_ends 1 (some .boolean) (rmd 6 0 0) (MX D cy g K (rmd 6 0 0) Φ) 0 0 M x (L μ) 0 [(0, vr g 75)] [] := by
  unfold fX12_ends at hf
  refine ev_aload_n dX12_ends_0 0 rfl ?_
  refine ev_iconst dX12_ends_1 ?_
  obtain ⟨μ1, hμ1, hf⟩ := lt_elim hf
  refine ev_putI 0 dX12_ends_2 (hS.lt (hc 75 rfl)) rfl ciX12 (by decide) (Or.inl rfl) rfl rfl flX12_1 (hS.up (hc 75 rfl) hμ1) ?_
  refine ev_aload_n dX12_ends_5 0 rfl ?_
  refine ev_aload_n dX12_ends_6 0 rfl ?_
  refine ev_aload_n dX12_ends_7 0 rfl ?_
  refine ev_getK 19 dX12_ends_8 (hS.lt (hc 75 rfl)) rfl (hS.K1 (hc 75 rfl) rfl) ciX12 (by decide) rfl flX12_94 ?_
  refine ev_iconst dX12_ends_11 ?_
  refine ev_iald dX12_ends_12 (hS.lt (hc 88 rfl)) rfl (hS.mem _ (hc 88 rfl)) ⟨by decide, by decide⟩ ?_
  refine ev_rn (w := vi (μ1 88 0)) (by rw [show (w32 0).toNat = 0 from by decide]) ?_
  refine ev_iconst dX12_ends_13 ?_
  obtain ⟨q2, hq2, hf⟩ := Option.bind_eq_some_iff.mp hf
  refine cl_V1 (As := [vi (μ1 88 0), vi (-1)]) (st := [vr g 75]) miX12_endOf (tX12_endOf hS (hc.w rfl rfl) (μ1 88 0) (-1) μ1 hq2) dX12_ends_14 lkX12_349 inX12_endOf rfl (hS.lt (hc 75 rfl)) rfl ⟨rfl, rfl⟩ ⟨⟨Nat.le_of_ble_eq_true rfl, Nat.le_of_ble_eq_true rfl⟩, Nat.zero_le _, Nat.zero_le _⟩ (Nat.le_of_ble_eq_true rfl) ?_
  obtain ⟨μ3, hμ3, hf⟩ := Option.bind_eq_some_iff.mp hf
  refine cl_V0 (As := [vi q2.1]) (st := []) miX12_lays (tX12_lays hS (hc.w rfl rfl) q2.1 q2.2 hμ3) dX12_ends_17 lkX12_274 inX12_lays rfl (hS.lt (hc 75 rfl)) rfl ⟨rfl, rfl⟩ ⟨⟨Nat.le_of_ble_eq_true rfl, Nat.le_of_ble_eq_true rfl⟩, Nat.zero_le _, Nat.zero_le _⟩ (Nat.le_of_ble_eq_true rfl) ?_
  refine ev_aload_n dX12_ends_20 0 rfl ?_
  obtain ⟨v4, hv4, hf⟩ := Option.bind_eq_some_iff.mp hf
  refine cl_V1 (As := []) (st := []) miX12_isServed (tX12_isServed hS (hc.w rfl rfl) μ3 hv4) dX12_ends_21 lkX12_289 inX12_isServed rfl (hS.lt (hc 75 rfl)) rfl ⟨rfl, rfl⟩ ⟨⟨Nat.le_of_ble_eq_true rfl, Nat.le_of_ble_eq_true rfl⟩, Nat.zero_le _, Nat.zero_le _⟩ (Nat.le_of_ble_eq_true rfl) ?_
  obtain rfl := Option.some.inj hf
  exact ev_bret (b := v4) dX12_ends_24 rfl ⟨Nat.zero_le _, Nat.zero_le _⟩ hr
theorem tX12_ends (hS : Sd M K P L) (hc : CIn P 75 92) (μ : Mem) {o : Bool × Mem} (hf : fX12_ends μ = some o) : Cn l D cy g K K yX12_ends cX12_ends 1 (some .boolean) (rmd 6 0 0) [vr g 75] M x (L μ) (PE (some (vb o.1)) M x (L o.2)) :=
 Cn.of (by decide) (Nat.le_of_ble_eq_true rfl) (eX12_ends hS hc μ hf (PE_i _ _ _ _))
def fX12_ring_b43 (many : Int) (other : Int) (v7 : Int) (μ : Mem) : Option ((Int × Mem) ⊕ (Int × Mem)) :=
  if w32 v7 ≤ w32 120 then
    lt (if w32 (i_rem v7 2) = w32 1 then
        many
      else
        other) fun v9 =>
    (fX12_mayTurn v9 μ).bind fun q11 =>
    if q11.1 = true then
      (fX12_turns v9 q11.2).bind fun μ13 =>
      if w32 (i_rem v7 2) = 0 then
        (fX12_numberNow μ13).bind fun v15 =>
        if w32 v15 = w32 (μ13 88 0) then
          some (.inr (v7, μ13))
        else
          some (.inl ((v7 + 1), μ13))
      else
        some (.inl ((v7 + 1), μ13))
    else
      some (.inr ((-1), q11.2))
  else
    some (.inr ((-1), μ))
set_option maxRecDepth 4000 in
theorem tX12_ring_b43 (hS : Sd M K P L) (hc : CIn P 75 92) (many : Int) (other : Int) (v7 : Int) (μ : Mem)  {o : (Int × Mem) ⊕ (Int × Mem)} (hf : fX12_ring_b43 many other v7 μ = some o) (hr : (Sum.elim (fun s : Int × Mem => Ev l D cy g K yX12_ring cX12_ring 5 (some .int) (rmd 5 0 0) (MX D cy g K (rmd 5 0 0) Φ) 0 0 M x (L s.2) 43 [(0, vr g 75), (1, vi many), (2, vi other), (3, vi s.1)] []) (fun o : Int × Mem => Φ (some (vi o.1)) M x (L o.2))) o) : Ev l D cy g K yX12_ring cX12_ring 5 (some .int) (rmd 5 0 0) (MX D cy g K (rmd 5 0 0) Φ) 0 0 M x (L μ) 43 [(0, vr g 75), (1, vi many), (2, vi other), (3, vi v7)] [] := by
  unfold fX12_ring_b43 at hf
  refine ev_iload_n dX12_ring_43 3 rfl ?_
  refine ev_bipush dX12_ring_44 (by decide) ?_
  refine ev_icmp_gt 107 dX12_ring_46 (by decide) (fun h8 => ?_) (fun h8 => ?_)
  · rw [if_neg h8] at hf
    refine ev_iconst dX12_ring_107 ?_
    obtain rfl := Option.some.inj hf
    exact ev_iret dX12_ring_108 rfl ⟨Nat.zero_le _, Nat.zero_le _⟩ hr
  · rw [if_pos h8] at hf
    refine ev_iload_n dX12_ring_49 3 rfl ?_
    refine ev_iconst dX12_ring_50 ?_
    refine ev_irem dX12_ring_51 (by decide) ?_
    refine ev_iconst dX12_ring_52 ?_
    obtain ⟨v9, hv9, hf⟩ := lt_elim hf
    have hJv9 : Ev l D cy g K yX12_ring cX12_ring 5 (some .int) (rmd 5 0 0) (MX D cy g K (rmd 5 0 0) Φ) 0 0 M x (L μ) 61 [(0, vr g 75), (1, vi many), (2, vi other), (3, vi v7)] [vi v9] := by
      refine ev_istore (al2 := [(4, vi v9), (0, vr g 75), (1, vi many), (2, vi other), (3, vi v7)]) dX12_ring_61 (by decide) rfl ?_
      refine ev_aload_n dX12_ring_63 1 rfl ?_
      refine ev_iload dX12_ring_64 0 rfl ?_
      obtain ⟨q11, hq11, hf⟩ := Option.bind_eq_some_iff.mp hf
      refine cl_V1 (As := [vi v9]) (st := []) miX12_mayTurn (tX12_mayTurn hS (hc.w rfl rfl) v9 μ hq11) dX12_ring_66 lkX12_277 inX12_mayTurn rfl (hS.lt (hc 75 rfl)) rfl ⟨rfl, rfl⟩ ⟨⟨Nat.le_of_ble_eq_true rfl, Nat.le_of_ble_eq_true rfl⟩, Nat.zero_le _, Nat.zero_le _⟩ (Nat.le_of_ble_eq_true rfl) ?_
      refine ev_ifb_ne 74 dX12_ring_69 (by decide) (fun h12 => ?_) (fun h12 => ?_)
      · rw [if_pos h12] at hf
        refine ev_aload_n dX12_ring_74 1 rfl ?_
        refine ev_iload dX12_ring_75 0 rfl ?_
        obtain ⟨μ13, hμ13, hf⟩ := Option.bind_eq_some_iff.mp hf
        refine cl_V0 (As := [vi v9]) (st := []) miX12_turns (tX12_turns hS (hc.w rfl rfl) v9 q11.2 hμ13) dX12_ring_77 lkX12_286 inX12_turns rfl (hS.lt (hc 75 rfl)) rfl ⟨rfl, rfl⟩ ⟨⟨Nat.le_of_ble_eq_true rfl, Nat.le_of_ble_eq_true rfl⟩, Nat.zero_le _, Nat.zero_le _⟩ (Nat.le_of_ble_eq_true rfl) ?_
        refine ev_iload_n dX12_ring_80 4 rfl ?_
        refine ev_iconst dX12_ring_81 ?_
        refine ev_irem dX12_ring_82 (by decide) ?_
        refine ev_if_ne 101 dX12_ring_83 (by decide) (fun h14 => ?_) (fun h14 => ?_)
        · rw [if_neg h14] at hf
          refine ev_iinc (al2 := [(3, vi (v7 + 1)), (4, vi v9), (0, vr g 75), (1, vi many), (2, vi other)]) dX12_ring_101 4 rfl (by decide) rfl ?_
          refine ev_goto 43 dX12_ring_104 (by decide) ?_
          obtain rfl := Option.some.inj hf
          refine ev_sub [2, 3, 4, 0] rfl ?_
          exact hr
        · rw [if_pos h14] at hf
          refine ev_aload_n dX12_ring_86 1 rfl ?_
          obtain ⟨v15, hv15, hf⟩ := Option.bind_eq_some_iff.mp hf
          refine cl_V1 (As := []) (st := []) miX12_numberNow (tX12_numberNow hS (hc.w rfl rfl) μ13 hv15) dX12_ring_87 lkX12_242 inX12_numberNow rfl (hS.lt (hc 75 rfl)) rfl ⟨rfl, rfl⟩ ⟨⟨Nat.le_of_ble_eq_true rfl, Nat.le_of_ble_eq_true rfl⟩, Nat.zero_le _, Nat.zero_le _⟩ (Nat.le_of_ble_eq_true rfl) ?_
          refine ev_aload_n dX12_ring_90 1 rfl ?_
          refine ev_getK 19 dX12_ring_91 (hS.lt (hc 75 rfl)) rfl (hS.K1 (hc 75 rfl) rfl) ciX12 (by decide) rfl flX12_94 ?_
          refine ev_iconst dX12_ring_94 ?_
          refine ev_iald dX12_ring_95 (hS.lt (hc 88 rfl)) rfl (hS.mem _ (hc 88 rfl)) ⟨by decide, by decide⟩ ?_
          refine ev_rn (w := vi (μ13 88 0)) (by rw [show (w32 0).toNat = 0 from by decide]) ?_
          refine ev_icmp_ne 101 dX12_ring_96 (by decide) (fun h16 => ?_) (fun h16 => ?_)
          · rw [if_neg h16] at hf
            refine ev_iinc (al2 := [(3, vi (v7 + 1)), (4, vi v9), (0, vr g 75), (1, vi many), (2, vi other)]) dX12_ring_101 4 rfl (by decide) rfl ?_
            refine ev_goto 43 dX12_ring_104 (by decide) ?_
            obtain rfl := Option.some.inj hf
            refine ev_sub [2, 3, 4, 0] rfl ?_
            exact hr
          · rw [if_pos h16] at hf
            refine ev_iload_n dX12_ring_99 4 rfl ?_
            obtain rfl := Option.some.inj hf
            exact ev_iret dX12_ring_100 rfl ⟨Nat.zero_le _, Nat.zero_le _⟩ hr
      · rw [if_neg h12] at hf
        refine ev_iconst dX12_ring_72 ?_
        obtain rfl := Option.some.inj hf
        exact ev_iret dX12_ring_73 rfl ⟨Nat.zero_le _, Nat.zero_le _⟩ hr
    refine ev_icmp_ne 60 dX12_ring_53 (by decide) (fun h10 => ?_) (fun h10 => ?_)
    · refine ev_iload_n dX12_ring_60 2 rfl ?_
      have e9 : v9 = other := hv9.trans ((if_neg h10))
      subst e9
      exact hJv9
    · refine ev_iload_n dX12_ring_56 1 rfl ?_
      refine ev_goto 61 dX12_ring_57 (by decide) ?_
      have e9 : v9 = many := hv9.trans ((if_pos h10))
      subst e9
      exact hJv9
def fX12_ring (many : Int) (other : Int) (μ : Mem) : Option (Int × Mem) :=
  lt (upd2 μ 75 0 0) fun μ1 =>
  lt (fX12_within many 1 (μ1 81 0)) fun v2 =>
  if v2 = true then
    lt (fX12_within other 1 (μ1 81 0)) fun v4 =>
    if v4 = true then
      (fX12_lays (μ1 88 0) μ1).bind fun μ6 =>
      loopN (fun s => fX12_ring_b43 many other s.1 s.2) FU (1, μ6)
    else
      some (((-1), μ1))
  else
    some (((-1), μ1))
set_option maxRecDepth 4000 in
theorem eX12_ring (hS : Sd M K P L) (hc : CIn P 75 92) (many : Int) (other : Int) (μ : Mem)  {o : Int × Mem} (hf : fX12_ring many other μ = some o) (hr : (fun o : Int × Mem => Φ (some (vi o.1)) M x (L o.2)) o) : Ev l D cy g K yX12_ring cX12_ring 5 (some .int) (rmd 5 0 0) (MX D cy g K (rmd 5 0 0) Φ) 0 0 M x (L μ) 0 [(0, vr g 75), (1, vi many), (2, vi other)] [] := by
  unfold fX12_ring at hf
  refine ev_aload_n dX12_ring_0 0 rfl ?_
  refine ev_iconst dX12_ring_1 ?_
  obtain ⟨μ1, hμ1, hf⟩ := lt_elim hf
  refine ev_putI 0 dX12_ring_2 (hS.lt (hc 75 rfl)) rfl ciX12 (by decide) (Or.inl rfl) rfl rfl flX12_1 (hS.up (hc 75 rfl) hμ1) ?_
  refine ev_iload_n dX12_ring_5 1 rfl ?_
  refine ev_iconst dX12_ring_6 ?_
  refine ev_aload_n dX12_ring_7 0 rfl ?_
  refine cl_V1 (As := []) (st := [vi 1, vi many]) miX12_cakes (tX12_cakes hS (hc.w rfl rfl) μ1 (o := (μ1 81 0)) rfl) dX12_ring_8 lkX12_209 inX12_cakes rfl (hS.lt (hc 75 rfl)) rfl ⟨rfl, rfl⟩ ⟨⟨Nat.le_of_ble_eq_true rfl, Nat.le_of_ble_eq_true rfl⟩, Nat.zero_le _, Nat.zero_le _⟩ (Nat.le_of_ble_eq_true rfl) ?_
  obtain ⟨v2, hv2, hf⟩ := lt_elim hf
  refine cl_S1 (As := [vi many, vi 1, vi (μ1 81 0)]) (st := []) miX12_within (tX12_within many 1 (μ1 81 0) (L μ1) hv2.symm) dX12_ring_11 lkX12_270 stX12_within rfl ⟨⟨Nat.le_of_ble_eq_true rfl, Nat.le_of_ble_eq_true rfl⟩, Nat.zero_le _, Nat.zero_le _⟩ (Nat.le_of_ble_eq_true rfl) ?_
  refine ev_ifb_eq 29 dX12_ring_14 (by decide) (fun h3 => ?_) (fun h3 => ?_)
  · rw [if_neg h3] at hf
    refine ev_iconst dX12_ring_29 ?_
    obtain rfl := Option.some.inj hf
    exact ev_iret dX12_ring_30 rfl ⟨Nat.zero_le _, Nat.zero_le _⟩ hr
  · rw [if_pos h3] at hf
    refine ev_iload_n dX12_ring_17 2 rfl ?_
    refine ev_iconst dX12_ring_18 ?_
    refine ev_aload_n dX12_ring_19 0 rfl ?_
    refine cl_V1 (As := []) (st := [vi 1, vi other]) miX12_cakes (tX12_cakes hS (hc.w rfl rfl) μ1 (o := (μ1 81 0)) rfl) dX12_ring_20 lkX12_209 inX12_cakes rfl (hS.lt (hc 75 rfl)) rfl ⟨rfl, rfl⟩ ⟨⟨Nat.le_of_ble_eq_true rfl, Nat.le_of_ble_eq_true rfl⟩, Nat.zero_le _, Nat.zero_le _⟩ (Nat.le_of_ble_eq_true rfl) ?_
    obtain ⟨v4, hv4, hf⟩ := lt_elim hf
    refine cl_S1 (As := [vi other, vi 1, vi (μ1 81 0)]) (st := []) miX12_within (tX12_within other 1 (μ1 81 0) (L μ1) hv4.symm) dX12_ring_23 lkX12_270 stX12_within rfl ⟨⟨Nat.le_of_ble_eq_true rfl, Nat.le_of_ble_eq_true rfl⟩, Nat.zero_le _, Nat.zero_le _⟩ (Nat.le_of_ble_eq_true rfl) ?_
    refine ev_ifb_ne 31 dX12_ring_26 (by decide) (fun h5 => ?_) (fun h5 => ?_)
    · rw [if_pos h5] at hf
      refine ev_aload_n dX12_ring_31 0 rfl ?_
      refine ev_aload_n dX12_ring_32 0 rfl ?_
      refine ev_getK 19 dX12_ring_33 (hS.lt (hc 75 rfl)) rfl (hS.K1 (hc 75 rfl) rfl) ciX12 (by decide) rfl flX12_94 ?_
      refine ev_iconst dX12_ring_36 ?_
      refine ev_iald dX12_ring_37 (hS.lt (hc 88 rfl)) rfl (hS.mem _ (hc 88 rfl)) ⟨by decide, by decide⟩ ?_
      refine ev_rn (w := vi (μ1 88 0)) (by rw [show (w32 0).toNat = 0 from by decide]) ?_
      obtain ⟨μ6, hμ6, hf⟩ := Option.bind_eq_some_iff.mp hf
      refine cl_V0 (As := [vi (μ1 88 0)]) (st := []) miX12_lays (tX12_lays hS (hc.w rfl rfl) (μ1 88 0) μ1 hμ6) dX12_ring_38 lkX12_274 inX12_lays rfl (hS.lt (hc 75 rfl)) rfl ⟨rfl, rfl⟩ ⟨⟨Nat.le_of_ble_eq_true rfl, Nat.le_of_ble_eq_true rfl⟩, Nat.zero_le _, Nat.zero_le _⟩ (Nat.le_of_ble_eq_true rfl) ?_
      refine ev_iconst dX12_ring_41 ?_
      refine ev_istore_n (al2 := [(3, vi 1), (0, vr g 75), (1, vi many), (2, vi other)]) dX12_ring_42 3 rfl (by decide) rfl ?_
      refine ev_sub [1, 2, 3, 0] rfl ?_
      exact loop_ev (H := (fun s : Int × Mem => Ev l D cy g K yX12_ring cX12_ring 5 (some .int) (rmd 5 0 0) (MX D cy g K (rmd 5 0 0) Φ) 0 0 M x (L s.2) 43 [(0, vr g 75), (1, vi many), (2, vi other), (3, vi s.1)] [])) (Hx := (fun o : Int × Mem => Φ (some (vi o.1)) M x (L o.2))) (fun s o hb hr => tX12_ring_b43 hS hc many other s.1 s.2 hb hr) FU _ _ hf hr
    · rw [if_neg h5] at hf
      refine ev_iconst dX12_ring_29 ?_
      obtain rfl := Option.some.inj hf
      exact ev_iret dX12_ring_30 rfl ⟨Nat.zero_le _, Nat.zero_le _⟩ hr
theorem tX12_ring (hS : Sd M K P L) (hc : CIn P 75 92) (many : Int) (other : Int) (μ : Mem) {o : Int × Mem} (hf : fX12_ring many other μ = some o) : Cn l D cy g K K yX12_ring cX12_ring 5 (some .int) (rmd 5 0 0) [vr g 75, vi many, vi other] M x (L μ) (PE (some (vi o.1)) M x (L o.2)) :=
 Cn.of (by decide) (Nat.le_of_ble_eq_true rfl) (eX12_ring hS hc many other μ hf (PE_i _ _ _ _))
def fX12_laysCooks_b16 (v3 : Int) (μ : Mem) : Option ((Int × Mem) ⊕ (Mem)) :=
  (fX12_stacks μ).bind fun v4 =>
  if w32 v3 < w32 v4 then
    (fX12_lays v3 μ).bind fun μ6 =>
    (fX12_isServed μ6).bind fun v7 =>
    lt (if v7 = true then
        2
      else
        0) fun v8 =>
    gd (0 ≤ w32 v3 ∧ w32 v3 < 3840) <|
    lt (upd2 μ6 92 ((w32 v3).toNat) v8) fun μ11 =>
    some (.inl ((v3 + 1), μ11))
  else
    some (.inr μ)
set_option maxRecDepth 4000 in
theorem tX12_laysCooks_b16 (hS : Sd M K P L) (hc : CIn P 75 95) (v3 : Int) (μ : Mem)  {o : (Int × Mem) ⊕ (Mem)} (hf : fX12_laysCooks_b16 v3 μ = some o) (hr : (Sum.elim (fun s : Int × Mem => Ev l D cy g K yX12_laysCooks cX12_laysCooks 10 none (rmd 6 0 0) (MX D cy g K (rmd 6 0 0) Φ) 0 0 M x (L s.2) 16 [(0, vr g 75), (1, vi s.1)] []) (fun e : Mem => Ev l D cy g K yX12_laysCooks cX12_laysCooks 10 none (rmd 6 0 0) (MX D cy g K (rmd 6 0 0) Φ) 0 0 M x (L e) 55 [(0, vr g 75)] [])) o) : Ev l D cy g K yX12_laysCooks cX12_laysCooks 10 none (rmd 6 0 0) (MX D cy g K (rmd 6 0 0) Φ) 0 0 M x (L μ) 16 [(0, vr g 75), (1, vi v3)] [] := by
  unfold fX12_laysCooks_b16 at hf
  refine ev_iload_n dX12_laysCooks_16 1 rfl ?_
  refine ev_aload_n dX12_laysCooks_17 0 rfl ?_
  obtain ⟨v4, hv4, hf⟩ := Option.bind_eq_some_iff.mp hf
  refine cl_V1 (As := []) (st := [vi v3]) miX12_stacks (tX12_stacks hS (hc.w rfl rfl) μ hv4) dX12_laysCooks_18 lkX12_294 inX12_stacks rfl (hS.lt (hc 75 rfl)) rfl ⟨rfl, rfl⟩ ⟨⟨Nat.le_of_ble_eq_true rfl, Nat.le_of_ble_eq_true rfl⟩, Nat.zero_le _, Nat.zero_le _⟩ (Nat.le_of_ble_eq_true rfl) ?_
  refine ev_icmp_ge 55 dX12_laysCooks_21 (by decide) (fun h5 => ?_) (fun h5 => ?_)
  · rw [if_neg h5] at hf
    obtain rfl := Option.some.inj hf
    refine ev_sub [0] rfl ?_
    exact hr
  · rw [if_pos h5] at hf
    refine ev_aload_n dX12_laysCooks_24 0 rfl ?_
    refine ev_iload_n dX12_laysCooks_25 1 rfl ?_
    obtain ⟨μ6, hμ6, hf⟩ := Option.bind_eq_some_iff.mp hf
    refine cl_V0 (As := [vi v3]) (st := []) miX12_lays (tX12_lays hS (hc.w rfl rfl) v3 μ hμ6) dX12_laysCooks_26 lkX12_274 inX12_lays rfl (hS.lt (hc 75 rfl)) rfl ⟨rfl, rfl⟩ ⟨⟨Nat.le_of_ble_eq_true rfl, Nat.le_of_ble_eq_true rfl⟩, Nat.zero_le _, Nat.zero_le _⟩ (Nat.le_of_ble_eq_true rfl) ?_
    refine ev_aload_n dX12_laysCooks_29 0 rfl ?_
    refine ev_getK 25 dX12_laysCooks_30 (hS.lt (hc 75 rfl)) rfl (hS.K1 (hc 75 rfl) rfl) ciX12 (by decide) rfl flX12_107 ?_
    refine ev_iload_n dX12_laysCooks_33 1 rfl ?_
    refine ev_aload_n dX12_laysCooks_34 0 rfl ?_
    obtain ⟨v7, hv7, hf⟩ := Option.bind_eq_some_iff.mp hf
    refine cl_V1 (As := []) (st := [vi v3, vr g 92]) miX12_isServed (tX12_isServed hS (hc.w rfl rfl) μ6 hv7) dX12_laysCooks_35 lkX12_289 inX12_isServed rfl (hS.lt (hc 75 rfl)) rfl ⟨rfl, rfl⟩ ⟨⟨Nat.le_of_ble_eq_true rfl, Nat.le_of_ble_eq_true rfl⟩, Nat.zero_le _, Nat.zero_le _⟩ (Nat.le_of_ble_eq_true rfl) ?_
    obtain ⟨v8, hv8, hf⟩ := lt_elim hf
    have hJv8 : Ev l D cy g K yX12_laysCooks cX12_laysCooks 10 none (rmd 6 0 0) (MX D cy g K (rmd 6 0 0) Φ) 0 0 M x (L μ6) 48 [(0, vr g 75), (1, vi v3)] [vl v8, vi v3, vr g 92] := by
      obtain ⟨g10, hf⟩ := gd_elim hf
      obtain ⟨μ11, hμ11, hf⟩ := lt_elim hf
      refine ev_last dX12_laysCooks_48 (hS.lt (hc 92 rfl)) rfl g10 (hS.up (hc 92 rfl) hμ11) ?_
      refine ev_iinc (al2 := [(1, vi (v3 + 1)), (0, vr g 75)]) dX12_laysCooks_49 1 rfl (by decide) rfl ?_
      refine ev_goto 16 dX12_laysCooks_52 (by decide) ?_
      obtain rfl := Option.some.inj hf
      refine ev_sub [1, 0] rfl ?_
      exact hr
    refine ev_ifb_eq 47 dX12_laysCooks_38 (by decide) (fun h9 => ?_) (fun h9 => ?_)
    · refine ev_lconst 0 dX12_laysCooks_47 rfl ?_
      have e9 : v8 = 0 := hv8.trans ((if_neg h9))
      subst e9
      exact hJv8
    · refine ev_ldc2 2 dX12_laysCooks_41 klX12_336 (by decide) ?_
      refine ev_goto 48 dX12_laysCooks_44 (by decide) ?_
      have e9 : v8 = 2 := hv8.trans ((if_pos h9))
      subst e9
      exact hJv8
def fX12_laysCooks_j144 (v14 : Int) (v18 : Bool) (v19 : Int) (v33 : Bool) (v34 : Bool) (v35 : Int) (w36 : Int) (μ : Mem) : Option ((Bool × Bool × Int × Mem) ⊕ (Bool × Bool × Mem)) :=
  lt (if w64 w36 ≤ w64 0 then
      false
    else
      if w64 ((l_div w36 2) - 1) < w64 (w32 v14) then
        true
      else
        false) fun v37 =>
  lt (if v33 = true then
      true
    else
      if v37 = true then
        if w64 (l_rem w36 2) = w64 0 then
          true
        else
          false
      else
        false) fun v40 =>
  if v34 = true then
    gd (0 ≤ w32 v35 ∧ w32 v35 < 6) <|
    lt (if w32 (μ 93 (w32 v35).toNat) < 0 then
        true
      else
        if v37 = true then
          if w64 (l_rem w36 2) = w64 1 then
            true
          else
            false
        else
          false) fun v46 =>
    some (.inl (v40, v46, (v35 + 1), μ))
  else
    some (.inl (v40, false, (v35 + 1), μ))
set_option maxRecDepth 4000 in
theorem tX12_laysCooks_j144 (hS : Sd M K P L) (hc : CIn P 75 95) (v14 : Int) (v18 : Bool) (v19 : Int) (v33 : Bool) (v34 : Bool) (v35 : Int) (w36 : Int) (μ : Mem)  {o : (Bool × Bool × Int × Mem) ⊕ (Bool × Bool × Mem)} (hf : fX12_laysCooks_j144 v14 v18 v19 v33 v34 v35 w36 μ = some o) (hr : (Sum.elim (fun s : Bool × Bool × Int × Mem => Ev l D cy g K yX12_laysCooks cX12_laysCooks 10 none (rmd 6 0 0) (MX D cy g K (rmd 6 0 0) Φ) 0 0 M x (L s.2.2.2) 109 [(0, vr g 75), (1, vb v18), (2, vi v14), (3, vi v19), (4, vb s.1), (5, vb s.2.1), (6, vi s.2.2.1)] []) (fun e : Bool × Bool × Mem => Ev l D cy g K yX12_laysCooks cX12_laysCooks 10 none (rmd 6 0 0) (MX D cy g K (rmd 6 0 0) Φ) 0 0 M x (L e.2.2) 246 [(0, vr g 75), (1, vb v18), (2, vi v14), (3, vi v19), (4, vb e.1), (5, vb e.2.1)] [])) o) : Ev l D cy g K yX12_laysCooks cX12_laysCooks 10 none (rmd 6 0 0) (MX D cy g K (rmd 6 0 0) Φ) 0 0 M x (L μ) 144 [(0, vr g 75), (1, vb v18), (2, vi v14), (3, vi v19), (4, vb v33), (5, vb v34), (6, vi v35)] [vl w36] := by
  unfold fX12_laysCooks_j144 at hf
  refine ev_lstore (al2 := [(7, vl w36), (0, vr g 75), (1, vb v18), (2, vi v14), (3, vi v19), (4, vb v33), (5, vb v34), (6, vi v35)]) dX12_laysCooks_144 (by decide) rfl ?_
  refine ev_lload dX12_laysCooks_146 0 rfl ?_
  refine ev_lconst 0 dX12_laysCooks_148 rfl ?_
  obtain ⟨v37, hv37, hf⟩ := lt_elim hf
  have hJv37 : Ev l D cy g K yX12_laysCooks cX12_laysCooks 10 none (rmd 6 0 0) (MX D cy g K (rmd 6 0 0) Φ) 0 0 M x (L μ) 172 [(7, vl w36), (0, vr g 75), (1, vb v18), (2, vi v14), (3, vi v19), (4, vb v33), (5, vb v34), (6, vi v35)] [vb v37] := by
    refine ev_istore (al2 := [(9, vb v37), (7, vl w36), (0, vr g 75), (1, vb v18), (2, vi v14), (3, vi v19), (4, vb v33), (5, vb v34), (6, vi v35)]) dX12_laysCooks_172 (by decide) rfl ?_
    refine ev_iload dX12_laysCooks_174 6 rfl ?_
    obtain ⟨v40, hv40, hf⟩ := lt_elim hf
    have hJv40 : Ev l D cy g K yX12_laysCooks cX12_laysCooks 10 none (rmd 6 0 0) (MX D cy g K (rmd 6 0 0) Φ) 0 0 M x (L μ) 200 [(9, vb v37), (7, vl w36), (0, vr g 75), (1, vb v18), (2, vi v14), (3, vi v19), (4, vb v33), (5, vb v34), (6, vi v35)] [vb v40] := by
      refine ev_istore (al2 := [(4, vb v40), (9, vb v37), (7, vl w36), (0, vr g 75), (1, vb v18), (2, vi v14), (3, vi v19), (5, vb v34), (6, vi v35)]) dX12_laysCooks_200 (by decide) rfl ?_
      refine ev_iload dX12_laysCooks_202 7 rfl ?_
      refine ev_ifb_eq 237 dX12_laysCooks_204 (by decide) (fun h44 => ?_) (fun h44 => ?_)
      · rw [if_neg h44] at hf
        refine ev_iconst dX12_laysCooks_237 ?_
        refine ev_istore (al2 := [(5, vi 0), (4, vb v40), (9, vb v37), (7, vl w36), (0, vr g 75), (1, vb v18), (2, vi v14), (3, vi v19), (6, vi v35)]) dX12_laysCooks_238 (by decide) rfl ?_
        refine ev_iinc (al2 := [(6, vi (v35 + 1)), (5, vi 0), (4, vb v40), (9, vb v37), (7, vl w36), (0, vr g 75), (1, vb v18), (2, vi v14), (3, vi v19)]) dX12_laysCooks_240 8 rfl (by decide) rfl ?_
        refine ev_goto 109 dX12_laysCooks_243 (by decide) ?_
        obtain rfl := Option.some.inj hf
        refine ev_sub [5, 6, 7, 8, 2, 1, 0] rfl ?_
        exact hr
      · rw [if_pos h44] at hf
        refine ev_aload_n dX12_laysCooks_207 3 rfl ?_
        refine ev_getK 27 dX12_laysCooks_208 (hS.lt (hc 75 rfl)) rfl (hS.K1 (hc 75 rfl) rfl) ciX12 (by decide) rfl flX12_110 ?_
        refine ev_iload dX12_laysCooks_211 8 rfl ?_
        obtain ⟨g45, hf⟩ := gd_elim hf
        refine ev_iald dX12_laysCooks_213 (hS.lt (hc 93 rfl)) rfl (hS.mem _ (hc 93 rfl)) g45 ?_
        obtain ⟨v46, hv46, hf⟩ := lt_elim hf
        have hJv46 : Ev l D cy g K yX12_laysCooks cX12_laysCooks 10 none (rmd 6 0 0) (MX D cy g K (rmd 6 0 0) Φ) 0 0 M x (L μ) 238 [(4, vb v40), (9, vb v37), (7, vl w36), (0, vr g 75), (1, vb v18), (2, vi v14), (3, vi v19), (5, vb v34), (6, vi v35)] [vb v46] := by
          refine ev_istore (al2 := [(5, vb v46), (4, vb v40), (9, vb v37), (7, vl w36), (0, vr g 75), (1, vb v18), (2, vi v14), (3, vi v19), (6, vi v35)]) dX12_laysCooks_238 (by decide) rfl ?_
          refine ev_iinc (al2 := [(6, vi (v35 + 1)), (5, vb v46), (4, vb v40), (9, vb v37), (7, vl w36), (0, vr g 75), (1, vb v18), (2, vi v14), (3, vi v19)]) dX12_laysCooks_240 8 rfl (by decide) rfl ?_
          refine ev_goto 109 dX12_laysCooks_243 (by decide) ?_
          obtain rfl := Option.some.inj hf
          refine ev_sub [5, 6, 7, 8, 2, 1, 0] rfl ?_
          exact hr
        refine ev_if_lt 233 dX12_laysCooks_214 (by decide) (fun h47 => ?_) (fun h47 => ?_)
        · refine ev_iconst dX12_laysCooks_233 ?_
          refine ev_goto 238 dX12_laysCooks_234 (by decide) ?_
          have e9 : v46 = true := hv46.trans ((if_pos h47))
          subst e9
          exact hJv46
        · refine ev_iload dX12_laysCooks_217 1 rfl ?_
          refine ev_ifb_eq 237 dX12_laysCooks_219 (by decide) (fun h48 => ?_) (fun h48 => ?_)
          · refine ev_iconst dX12_laysCooks_237 ?_
            have e9 : v46 = false := hv46.trans (((if_neg h47)).trans (if_neg h48))
            subst e9
            exact hJv46
          · refine ev_lload dX12_laysCooks_222 2 rfl ?_
            refine ev_ldc2 2 dX12_laysCooks_224 klX12_336 (by decide) ?_
            refine ev_lrem dX12_laysCooks_227 (by decide) ?_
            refine ev_lconst 1 dX12_laysCooks_228 rfl ?_
            refine ev_lcmp_ne 237 dX12_laysCooks_229 dX12_laysCooks_230 (by decide) (fun h49 => ?_) (fun h49 => ?_)
            · refine ev_iconst dX12_laysCooks_237 ?_
              have e9 : v46 = false := hv46.trans (((if_neg h47)).trans (((if_pos h48)).trans (if_neg h49)))
              subst e9
              exact hJv46
            · refine ev_iconst dX12_laysCooks_233 ?_
              refine ev_goto 238 dX12_laysCooks_234 (by decide) ?_
              have e9 : v46 = true := hv46.trans (((if_neg h47)).trans (((if_pos h48)).trans (if_pos h49)))
              subst e9
              exact hJv46
    refine ev_ifb_ne 195 dX12_laysCooks_176 (by decide) (fun h41 => ?_) (fun h41 => ?_)
    · refine ev_iconst dX12_laysCooks_195 ?_
      refine ev_goto 200 dX12_laysCooks_196 (by decide) ?_
      have e9 : v40 = true := hv40.trans ((if_pos h41))
      subst e9
      exact hJv40
    · refine ev_iload dX12_laysCooks_179 0 rfl ?_
      refine ev_ifb_eq 199 dX12_laysCooks_181 (by decide) (fun h42 => ?_) (fun h42 => ?_)
      · refine ev_iconst dX12_laysCooks_199 ?_
        have e9 : v40 = false := hv40.trans (((if_neg h41)).trans (if_neg h42))
        subst e9
        exact hJv40
      · refine ev_lload dX12_laysCooks_184 1 rfl ?_
        refine ev_ldc2 2 dX12_laysCooks_186 klX12_336 (by decide) ?_
        refine ev_lrem dX12_laysCooks_189 (by decide) ?_
        refine ev_lconst 0 dX12_laysCooks_190 rfl ?_
        refine ev_lcmp_ne 199 dX12_laysCooks_191 dX12_laysCooks_192 (by decide) (fun h43 => ?_) (fun h43 => ?_)
        · refine ev_iconst dX12_laysCooks_199 ?_
          have e9 : v40 = false := hv40.trans (((if_neg h41)).trans (((if_pos h42)).trans (if_neg h43)))
          subst e9
          exact hJv40
        · refine ev_iconst dX12_laysCooks_195 ?_
          refine ev_goto 200 dX12_laysCooks_196 (by decide) ?_
          have e9 : v40 = true := hv40.trans (((if_neg h41)).trans (((if_pos h42)).trans (if_pos h43)))
          subst e9
          exact hJv40
  refine ev_lcmp_le 171 dX12_laysCooks_149 dX12_laysCooks_150 (by decide) (fun h38 => ?_) (fun h38 => ?_)
  · refine ev_iconst dX12_laysCooks_171 ?_
    have e9 : v37 = false := hv37.trans ((if_pos h38))
    subst e9
    exact hJv37
  · refine ev_lload dX12_laysCooks_153 0 rfl ?_
    refine ev_ldc2 2 dX12_laysCooks_155 klX12_336 (by decide) ?_
    refine ev_ldiv dX12_laysCooks_158 (by decide) ?_
    refine ev_lconst 1 dX12_laysCooks_159 rfl ?_
    refine ev_lsub dX12_laysCooks_160 ?_
    refine ev_iload_n dX12_laysCooks_161 3 rfl ?_
    refine ev_i2l dX12_laysCooks_162 ?_
    refine ev_lcmp_ge 171 dX12_laysCooks_163 dX12_laysCooks_164 (by decide) (fun h39 => ?_) (fun h39 => ?_)
    · refine ev_iconst dX12_laysCooks_171 ?_
      have e9 : v37 = false := hv37.trans (((if_neg h38)).trans (if_neg h39))
      subst e9
      exact hJv37
    · refine ev_iconst dX12_laysCooks_167 ?_
      refine ev_goto 172 dX12_laysCooks_168 (by decide) ?_
      have e9 : v37 = true := hv37.trans (((if_neg h38)).trans (if_pos h39))
      subst e9
      exact hJv37
def fX12_laysCooks_b109 (v14 : Int) (v18 : Bool) (v19 : Int) (v25 : Bool) (v26 : Bool) (v27 : Int) (μ : Mem) : Option ((Bool × Bool × Int × Mem) ⊕ (Bool × Bool × Mem)) :=
  if w32 v27 ≤ w32 (μ 81 0) then
    gd (0 ≤ w32 v27 ∧ w32 v27 < 6) <|
    if w32 (μ 93 (w32 v27).toNat) < 0 then
      fX12_laysCooks_j144 v14 v18 v19 v25 v26 v27 0 μ
    else
      gd (0 ≤ w32 v27 ∧ w32 v27 < 6) <|
      gd (0 ≤ w32 (μ 93 (w32 v27).toNat) ∧ w32 (μ 93 (w32 v27).toNat) < 3840) <|
      fX12_laysCooks_j144 v14 v18 v19 v25 v26 v27 (μ 92 (w32 (μ 93 (w32 v27).toNat)).toNat) μ
  else
    some (.inr (v25, v26, μ))
set_option maxRecDepth 4000 in
theorem tX12_laysCooks_b109 (hS : Sd M K P L) (hc : CIn P 75 95) (v14 : Int) (v18 : Bool) (v19 : Int) (v25 : Bool) (v26 : Bool) (v27 : Int) (μ : Mem)  {o : (Bool × Bool × Int × Mem) ⊕ (Bool × Bool × Mem)} (hf : fX12_laysCooks_b109 v14 v18 v19 v25 v26 v27 μ = some o) (hr : (Sum.elim (fun s : Bool × Bool × Int × Mem => Ev l D cy g K yX12_laysCooks cX12_laysCooks 10 none (rmd 6 0 0) (MX D cy g K (rmd 6 0 0) Φ) 0 0 M x (L s.2.2.2) 109 [(0, vr g 75), (1, vb v18), (2, vi v14), (3, vi v19), (4, vb s.1), (5, vb s.2.1), (6, vi s.2.2.1)] []) (fun e : Bool × Bool × Mem => Ev l D cy g K yX12_laysCooks cX12_laysCooks 10 none (rmd 6 0 0) (MX D cy g K (rmd 6 0 0) Φ) 0 0 M x (L e.2.2) 246 [(0, vr g 75), (1, vb v18), (2, vi v14), (3, vi v19), (4, vb e.1), (5, vb e.2.1)] [])) o) : Ev l D cy g K yX12_laysCooks cX12_laysCooks 10 none (rmd 6 0 0) (MX D cy g K (rmd 6 0 0) Φ) 0 0 M x (L μ) 109 [(0, vr g 75), (1, vb v18), (2, vi v14), (3, vi v19), (4, vb v25), (5, vb v26), (6, vi v27)] [] := by
  unfold fX12_laysCooks_b109 at hf
  refine ev_iload dX12_laysCooks_109 6 rfl ?_
  refine ev_aload_n dX12_laysCooks_111 0 rfl ?_
  refine cl_V1 (As := []) (st := [vi v27]) miX12_cakes (tX12_cakes hS (hc.w rfl rfl) μ (o := (μ 81 0)) rfl) dX12_laysCooks_112 lkX12_209 inX12_cakes rfl (hS.lt (hc 75 rfl)) rfl ⟨rfl, rfl⟩ ⟨⟨Nat.le_of_ble_eq_true rfl, Nat.le_of_ble_eq_true rfl⟩, Nat.zero_le _, Nat.zero_le _⟩ (Nat.le_of_ble_eq_true rfl) ?_
  refine ev_icmp_gt 246 dX12_laysCooks_115 (by decide) (fun h28 => ?_) (fun h28 => ?_)
  · rw [if_neg h28] at hf
    obtain rfl := Option.some.inj hf
    refine ev_sub [0, 1, 2, 3, 4, 5] rfl ?_
    exact hr
  · rw [if_pos h28] at hf
    refine ev_aload_n dX12_laysCooks_118 0 rfl ?_
    refine ev_getK 27 dX12_laysCooks_119 (hS.lt (hc 75 rfl)) rfl (hS.K1 (hc 75 rfl) rfl) ciX12 (by decide) rfl flX12_110 ?_
    refine ev_iload dX12_laysCooks_122 6 rfl ?_
    obtain ⟨g29, hf⟩ := gd_elim hf
    refine ev_iald dX12_laysCooks_124 (hS.lt (hc 93 rfl)) rfl (hS.mem _ (hc 93 rfl)) g29 ?_
    refine ev_if_ge 132 dX12_laysCooks_125 (by decide) (fun h30 => ?_) (fun h30 => ?_)
    · rw [if_neg h30] at hf
      refine ev_aload_n dX12_laysCooks_132 0 rfl ?_
      refine ev_getK 25 dX12_laysCooks_133 (hS.lt (hc 75 rfl)) rfl (hS.K1 (hc 75 rfl) rfl) ciX12 (by decide) rfl flX12_107 ?_
      refine ev_aload_n dX12_laysCooks_136 0 rfl ?_
      refine ev_getK 27 dX12_laysCooks_137 (hS.lt (hc 75 rfl)) rfl (hS.K1 (hc 75 rfl) rfl) ciX12 (by decide) rfl flX12_110 ?_
      refine ev_iload dX12_laysCooks_140 6 rfl ?_
      obtain ⟨g31, hf⟩ := gd_elim hf
      refine ev_iald dX12_laysCooks_142 (hS.lt (hc 93 rfl)) rfl (hS.mem _ (hc 93 rfl)) g31 ?_
      obtain ⟨g32, hf⟩ := gd_elim hf
      refine ev_lald dX12_laysCooks_143 (hS.lt (hc 92 rfl)) rfl (hS.mem _ (hc 92 rfl)) g32 ?_
      refine ev_sub [0, 1, 2, 3, 4, 5, 6] rfl ?_
      exact tX12_laysCooks_j144 hS hc v14 v18 v19 v25 v26 v27 (μ 92 (w32 (μ 93 (w32 v27).toNat)).toNat) μ hf hr
    · rw [if_pos h30] at hf
      refine ev_lconst 0 dX12_laysCooks_128 rfl ?_
      refine ev_goto 144 dX12_laysCooks_129 (by decide) ?_
      refine ev_sub [0, 1, 2, 3, 4, 5, 6] rfl ?_
      exact tX12_laysCooks_j144 hS hc v14 v18 v19 v25 v26 v27 0 μ hf hr
def fX12_laysCooks_b75 (v14 : Int) (v18 : Bool) (v19 : Int) (μ : Mem) : Option ((Bool × Int × Mem) ⊕ (Bool × Mem)) :=
  (fX12_stacks μ).bind fun v20 =>
  if w32 v19 < w32 v20 then
    gd (0 ≤ w32 v19 ∧ w32 v19 < 3840) <|
    if w64 (μ 92 (w32 v19).toNat) = w64 0 then
      (fX12_leadsFrom v19 0 μ).bind fun μ24 =>
      (loopN (fun s => fX12_laysCooks_b109 v14 v18 v19 s.1 s.2.1 s.2.2.1 s.2.2.2) FU (false, true, 1, μ24)).bind fun q54 =>
      lt (if q54.1 = true then
          if q54.1 = true then
            ((2 * (w32 (v14 + 1))) + 1)
          else
            ((2 * (w32 (v14 + 1))) + 0)
        else
          if q54.2.1 = true then
            if q54.1 = true then
              ((2 * (w32 (v14 + 1))) + 1)
            else
              ((2 * (w32 (v14 + 1))) + 0)
          else
            0) fun v55 =>
      gd (0 ≤ w32 v19 ∧ w32 v19 < 3840) <|
      lt (upd2 q54.2.2 92 ((w32 v19).toNat) v55) fun μ61 =>
      lt (if v18 = true then
          true
        else
          if q54.1 = true then
            true
          else
            if q54.2.1 = true then
              true
            else
              false) fun v62 =>
      some (.inl (v62, (v19 + 1), μ61))
    else
      some (.inl (v18, (v19 + 1), μ))
  else
    some (.inr (v18, μ))
set_option maxRecDepth 4000 in
theorem tX12_laysCooks_b75 (hS : Sd M K P L) (hc : CIn P 75 95) (v14 : Int) (v18 : Bool) (v19 : Int) (μ : Mem)  {o : (Bool × Int × Mem) ⊕ (Bool × Mem)} (hf : fX12_laysCooks_b75 v14 v18 v19 μ = some o) (hr : (Sum.elim (fun s : Bool × Int × Mem => Ev l D cy g K yX12_laysCooks cX12_laysCooks 10 none (rmd 6 0 0) (MX D cy g K (rmd 6 0 0) Φ) 0 0 M x (L s.2.2) 75 [(0, vr g 75), (1, vb s.1), (2, vi v14), (3, vi s.2.1)] []) (fun e : Bool × Mem => Ev l D cy g K yX12_laysCooks cX12_laysCooks 10 none (rmd 6 0 0) (MX D cy g K (rmd 6 0 0) Φ) 0 0 M x (L e.2) 311 [(0, vr g 75), (1, vb e.1), (2, vi v14)] [])) o) : Ev l D cy g K yX12_laysCooks cX12_laysCooks 10 none (rmd 6 0 0) (MX D cy g K (rmd 6 0 0) Φ) 0 0 M x (L μ) 75 [(0, vr g 75), (1, vb v18), (2, vi v14), (3, vi v19)] [] := by
  unfold fX12_laysCooks_b75 at hf
  refine ev_iload_n dX12_laysCooks_75 3 rfl ?_
  refine ev_aload_n dX12_laysCooks_76 0 rfl ?_
  obtain ⟨v20, hv20, hf⟩ := Option.bind_eq_some_iff.mp hf
  refine cl_V1 (As := []) (st := [vi v19]) miX12_stacks (tX12_stacks hS (hc.w rfl rfl) μ hv20) dX12_laysCooks_77 lkX12_294 inX12_stacks rfl (hS.lt (hc 75 rfl)) rfl ⟨rfl, rfl⟩ ⟨⟨Nat.le_of_ble_eq_true rfl, Nat.le_of_ble_eq_true rfl⟩, Nat.zero_le _, Nat.zero_le _⟩ (Nat.le_of_ble_eq_true rfl) ?_
  refine ev_icmp_ge 311 dX12_laysCooks_80 (by decide) (fun h21 => ?_) (fun h21 => ?_)
  · rw [if_neg h21] at hf
    obtain rfl := Option.some.inj hf
    refine ev_sub [0, 1, 2] rfl ?_
    exact hr
  · rw [if_pos h21] at hf
    refine ev_aload_n dX12_laysCooks_83 0 rfl ?_
    refine ev_getK 25 dX12_laysCooks_84 (hS.lt (hc 75 rfl)) rfl (hS.K1 (hc 75 rfl) rfl) ciX12 (by decide) rfl flX12_107 ?_
    refine ev_iload_n dX12_laysCooks_87 3 rfl ?_
    obtain ⟨g22, hf⟩ := gd_elim hf
    refine ev_lald dX12_laysCooks_88 (hS.lt (hc 92 rfl)) rfl (hS.mem _ (hc 92 rfl)) g22 ?_
    refine ev_lconst 0 dX12_laysCooks_89 rfl ?_
    refine ev_lcmp_ne 305 dX12_laysCooks_90 dX12_laysCooks_91 (by decide) (fun h23 => ?_) (fun h23 => ?_)
    · rw [if_neg h23] at hf
      refine ev_iinc (al2 := [(3, vi (v19 + 1)), (0, vr g 75), (1, vb v18), (2, vi v14)]) dX12_laysCooks_305 3 rfl (by decide) rfl ?_
      refine ev_goto 75 dX12_laysCooks_308 (by decide) ?_
      obtain rfl := Option.some.inj hf
      refine ev_sub [1, 2, 3, 0] rfl ?_
      exact hr
    · rw [if_pos h23] at hf
      refine ev_aload_n dX12_laysCooks_94 0 rfl ?_
      refine ev_iload_n dX12_laysCooks_95 3 rfl ?_
      refine ev_iconst dX12_laysCooks_96 ?_
      obtain ⟨μ24, hμ24, hf⟩ := Option.bind_eq_some_iff.mp hf
      refine cl_V0 (As := [vi v19, vi 0]) (st := []) miX12_leadsFrom (tX12_leadsFrom hS (hc.w rfl rfl) v19 0 μ hμ24) dX12_laysCooks_97 lkX12_321 inX12_leadsFrom rfl (hS.lt (hc 75 rfl)) rfl ⟨rfl, rfl⟩ ⟨⟨Nat.le_of_ble_eq_true rfl, Nat.le_of_ble_eq_true rfl⟩, Nat.zero_le _, Nat.zero_le _⟩ (Nat.le_of_ble_eq_true rfl) ?_
      refine ev_iconst dX12_laysCooks_100 ?_
      refine ev_istore (al2 := [(4, vi 0), (0, vr g 75), (1, vb v18), (2, vi v14), (3, vi v19)]) dX12_laysCooks_101 (by decide) rfl ?_
      refine ev_iconst dX12_laysCooks_103 ?_
      refine ev_istore (al2 := [(5, vi 1), (4, vi 0), (0, vr g 75), (1, vb v18), (2, vi v14), (3, vi v19)]) dX12_laysCooks_104 (by decide) rfl ?_
      refine ev_iconst dX12_laysCooks_106 ?_
      refine ev_istore (al2 := [(6, vi 1), (5, vi 1), (4, vi 0), (0, vr g 75), (1, vb v18), (2, vi v14), (3, vi v19)]) dX12_laysCooks_107 (by decide) rfl ?_
      obtain ⟨q54, hq54, hf⟩ := Option.bind_eq_some_iff.mp hf
      refine ev_sub [3, 4, 5, 6, 2, 1, 0] rfl ?_
      refine loop_ev (H := (fun s : Bool × Bool × Int × Mem => Ev l D cy g K yX12_laysCooks cX12_laysCooks 10 none (rmd 6 0 0) (MX D cy g K (rmd 6 0 0) Φ) 0 0 M x (L s.2.2.2) 109 [(0, vr g 75), (1, vb v18), (2, vi v14), (3, vi v19), (4, vb s.1), (5, vb s.2.1), (6, vi s.2.2.1)] [])) (Hx := (fun e : Bool × Bool × Mem => Ev l D cy g K yX12_laysCooks cX12_laysCooks 10 none (rmd 6 0 0) (MX D cy g K (rmd 6 0 0) Φ) 0 0 M x (L e.2.2) 246 [(0, vr g 75), (1, vb v18), (2, vi v14), (3, vi v19), (4, vb e.1), (5, vb e.2.1)] [])) (fun s o hb hr => tX12_laysCooks_b109 hS hc v14 v18 v19 s.1 s.2.1 s.2.2.1 s.2.2.2 hb hr) FU _ _ hq54 ?_
      show Ev l D cy g K yX12_laysCooks cX12_laysCooks 10 none (rmd 6 0 0) (MX D cy g K (rmd 6 0 0) Φ) 0 0 M x (L q54.2.2) 246 [(0, vr g 75), (1, vb v18), (2, vi v14), (3, vi v19), (4, vb q54.1), (5, vb q54.2.1)] []
      refine ev_aload_n dX12_laysCooks_246 0 rfl ?_
      refine ev_getK 25 dX12_laysCooks_247 (hS.lt (hc 75 rfl)) rfl (hS.K1 (hc 75 rfl) rfl) ciX12 (by decide) rfl flX12_107 ?_
      refine ev_iload_n dX12_laysCooks_250 3 rfl ?_
      refine ev_iload dX12_laysCooks_251 4 rfl ?_
      obtain ⟨v55, hv55, hf⟩ := lt_elim hf
      have hJv55 : Ev l D cy g K yX12_laysCooks cX12_laysCooks 10 none (rmd 6 0 0) (MX D cy g K (rmd 6 0 0) Φ) 0 0 M x (L q54.2.2) 284 [(0, vr g 75), (1, vb v18), (2, vi v14), (3, vi v19), (4, vb q54.1), (5, vb q54.2.1)] [vl v55, vi v19, vr g 92] := by
        obtain ⟨g60, hf⟩ := gd_elim hf
        obtain ⟨μ61, hμ61, hf⟩ := lt_elim hf
        refine ev_last dX12_laysCooks_284 (hS.lt (hc 92 rfl)) rfl g60 (hS.up (hc 92 rfl) hμ61) ?_
        refine ev_iload_n dX12_laysCooks_285 1 rfl ?_
        obtain ⟨v62, hv62, hf⟩ := lt_elim hf
        have hJv62 : Ev l D cy g K yX12_laysCooks cX12_laysCooks 10 none (rmd 6 0 0) (MX D cy g K (rmd 6 0 0) Φ) 0 0 M x (L μ61) 304 [(0, vr g 75), (1, vb v18), (2, vi v14), (3, vi v19), (4, vb q54.1), (5, vb q54.2.1)] [vb v62] := by
          refine ev_istore_n (al2 := [(1, vb v62), (0, vr g 75), (2, vi v14), (3, vi v19), (4, vb q54.1), (5, vb q54.2.1)]) dX12_laysCooks_304 1 rfl (by decide) rfl ?_
          refine ev_iinc (al2 := [(3, vi (v19 + 1)), (1, vb v62), (0, vr g 75), (2, vi v14), (4, vb q54.1), (5, vb q54.2.1)]) dX12_laysCooks_305 3 rfl (by decide) rfl ?_
          refine ev_goto 75 dX12_laysCooks_308 (by decide) ?_
          obtain rfl := Option.some.inj hf
          refine ev_sub [2, 1, 3, 0] rfl ?_
          exact hr
        refine ev_ifb_ne 299 dX12_laysCooks_286 (by decide) (fun h63 => ?_) (fun h63 => ?_)
        · refine ev_iconst dX12_laysCooks_299 ?_
          refine ev_goto 304 dX12_laysCooks_300 (by decide) ?_
          have e9 : v62 = true := hv62.trans ((if_pos h63))
          subst e9
          exact hJv62
        · refine ev_iload dX12_laysCooks_289 4 rfl ?_
          refine ev_ifb_ne 299 dX12_laysCooks_291 (by decide) (fun h64 => ?_) (fun h64 => ?_)
          · refine ev_iconst dX12_laysCooks_299 ?_
            refine ev_goto 304 dX12_laysCooks_300 (by decide) ?_
            have e9 : v62 = true := hv62.trans (((if_neg h63)).trans (if_pos h64))
            subst e9
            exact hJv62
          · refine ev_iload dX12_laysCooks_294 5 rfl ?_
            refine ev_ifb_eq 303 dX12_laysCooks_296 (by decide) (fun h65 => ?_) (fun h65 => ?_)
            · refine ev_iconst dX12_laysCooks_303 ?_
              have e9 : v62 = false := hv62.trans (((if_neg h63)).trans (((if_neg h64)).trans (if_neg h65)))
              subst e9
              exact hJv62
            · refine ev_iconst dX12_laysCooks_299 ?_
              refine ev_goto 304 dX12_laysCooks_300 (by decide) ?_
              have e9 : v62 = true := hv62.trans (((if_neg h63)).trans (((if_neg h64)).trans (if_pos h65)))
              subst e9
              exact hJv62
      refine ev_ifb_ne 261 dX12_laysCooks_253 (by decide) (fun h56 => ?_) (fun h56 => ?_)
      · refine ev_ldc2 2 dX12_laysCooks_261 klX12_336 (by decide) ?_
        refine ev_iload_n dX12_laysCooks_264 2 rfl ?_
        refine ev_iconst dX12_laysCooks_265 ?_
        refine ev_iadd dX12_laysCooks_266 ?_
        refine ev_i2l dX12_laysCooks_267 ?_
        refine ev_lmul dX12_laysCooks_268 ?_
        refine ev_iload dX12_laysCooks_269 4 rfl ?_
        refine ev_ifb_eq 278 dX12_laysCooks_271 (by decide) (fun h57 => ?_) (fun h57 => ?_)
        · refine ev_lconst 0 dX12_laysCooks_278 rfl ?_
          refine ev_ladd dX12_laysCooks_279 ?_
          refine ev_goto 284 dX12_laysCooks_280 (by decide) ?_
          have e9 : v55 = ((2 * (w32 (v14 + 1))) + 0) := hv55.trans (((if_pos h56)).trans (if_neg h57))
          subst e9
          exact hJv55
        · refine ev_lconst 1 dX12_laysCooks_274 rfl ?_
          refine ev_goto 279 dX12_laysCooks_275 (by decide) ?_
          refine ev_ladd dX12_laysCooks_279 ?_
          refine ev_goto 284 dX12_laysCooks_280 (by decide) ?_
          have e9 : v55 = ((2 * (w32 (v14 + 1))) + 1) := hv55.trans (((if_pos h56)).trans (if_pos h57))
          subst e9
          exact hJv55
      · refine ev_iload dX12_laysCooks_256 5 rfl ?_
        refine ev_ifb_eq 283 dX12_laysCooks_258 (by decide) (fun h58 => ?_) (fun h58 => ?_)
        · refine ev_lconst 0 dX12_laysCooks_283 rfl ?_
          have e9 : v55 = 0 := hv55.trans (((if_neg h56)).trans (if_neg h58))
          subst e9
          exact hJv55
        · refine ev_ldc2 2 dX12_laysCooks_261 klX12_336 (by decide) ?_
          refine ev_iload_n dX12_laysCooks_264 2 rfl ?_
          refine ev_iconst dX12_laysCooks_265 ?_
          refine ev_iadd dX12_laysCooks_266 ?_
          refine ev_i2l dX12_laysCooks_267 ?_
          refine ev_lmul dX12_laysCooks_268 ?_
          refine ev_iload dX12_laysCooks_269 4 rfl ?_
          refine ev_ifb_eq 278 dX12_laysCooks_271 (by decide) (fun h59 => ?_) (fun h59 => ?_)
          · refine ev_lconst 0 dX12_laysCooks_278 rfl ?_
            refine ev_ladd dX12_laysCooks_279 ?_
            refine ev_goto 284 dX12_laysCooks_280 (by decide) ?_
            have e9 : v55 = ((2 * (w32 (v14 + 1))) + 0) := hv55.trans (((if_neg h56)).trans (((if_pos h58)).trans (if_neg h59)))
            subst e9
            exact hJv55
          · refine ev_lconst 1 dX12_laysCooks_274 rfl ?_
            refine ev_goto 279 dX12_laysCooks_275 (by decide) ?_
            refine ev_ladd dX12_laysCooks_279 ?_
            refine ev_goto 284 dX12_laysCooks_280 (by decide) ?_
            have e9 : v55 = ((2 * (w32 (v14 + 1))) + 1) := hv55.trans (((if_neg h56)).trans (((if_pos h58)).trans (if_pos h59)))
            subst e9
            exact hJv55
def fX12_laysCooks_b59 (v13 : Bool) (v14 : Int) (μ : Mem) : Option ((Bool × Int × Mem) ⊕ (Mem)) :=
  if v13 = true then
    lt (if w32 v14 = 0 then
        true
      else
        false) fun v16 =>
    (loopN (fun s => fX12_laysCooks_b75 v14 s.1 s.2.1 s.2.2) FU (v16, 0, μ)).bind fun q66 =>
    some (.inl (q66.1, (v14 + 1), q66.2))
  else
    some (.inr μ)
set_option maxRecDepth 4000 in
theorem tX12_laysCooks_b59 (hS : Sd M K P L) (hc : CIn P 75 95) (v13 : Bool) (v14 : Int) (μ : Mem)  {o : (Bool × Int × Mem) ⊕ (Mem)} (hf : fX12_laysCooks_b59 v13 v14 μ = some o) (hr : (Sum.elim (fun s : Bool × Int × Mem => Ev l D cy g K yX12_laysCooks cX12_laysCooks 10 none (rmd 6 0 0) (MX D cy g K (rmd 6 0 0) Φ) 0 0 M x (L s.2.2) 59 [(0, vr g 75), (1, vb s.1), (2, vi s.2.1)] []) (fun e : Mem => Ev l D cy g K yX12_laysCooks cX12_laysCooks 10 none (rmd 6 0 0) (MX D cy g K (rmd 6 0 0) Φ) 0 0 M x (L e) 317 [] [])) o) : Ev l D cy g K yX12_laysCooks cX12_laysCooks 10 none (rmd 6 0 0) (MX D cy g K (rmd 6 0 0) Φ) 0 0 M x (L μ) 59 [(0, vr g 75), (1, vb v13), (2, vi v14)] [] := by
  unfold fX12_laysCooks_b59 at hf
  refine ev_iload_n dX12_laysCooks_59 1 rfl ?_
  refine ev_ifb_eq 317 dX12_laysCooks_60 (by decide) (fun h15 => ?_) (fun h15 => ?_)
  · rw [if_neg h15] at hf
    obtain rfl := Option.some.inj hf
    refine ev_sub [] rfl ?_
    exact hr
  · rw [if_pos h15] at hf
    refine ev_iload_n dX12_laysCooks_63 2 rfl ?_
    obtain ⟨v16, hv16, hf⟩ := lt_elim hf
    have hJv16 : Ev l D cy g K yX12_laysCooks cX12_laysCooks 10 none (rmd 6 0 0) (MX D cy g K (rmd 6 0 0) Φ) 0 0 M x (L μ) 72 [(0, vr g 75), (1, vb v13), (2, vi v14)] [vb v16] := by
      refine ev_istore_n (al2 := [(1, vb v16), (0, vr g 75), (2, vi v14)]) dX12_laysCooks_72 1 rfl (by decide) rfl ?_
      refine ev_iconst dX12_laysCooks_73 ?_
      refine ev_istore_n (al2 := [(3, vi 0), (1, vb v16), (0, vr g 75), (2, vi v14)]) dX12_laysCooks_74 3 rfl (by decide) rfl ?_
      obtain ⟨q66, hq66, hf⟩ := Option.bind_eq_some_iff.mp hf
      refine ev_sub [2, 1, 3, 0] rfl ?_
      refine loop_ev (H := (fun s : Bool × Int × Mem => Ev l D cy g K yX12_laysCooks cX12_laysCooks 10 none (rmd 6 0 0) (MX D cy g K (rmd 6 0 0) Φ) 0 0 M x (L s.2.2) 75 [(0, vr g 75), (1, vb s.1), (2, vi v14), (3, vi s.2.1)] [])) (Hx := (fun e : Bool × Mem => Ev l D cy g K yX12_laysCooks cX12_laysCooks 10 none (rmd 6 0 0) (MX D cy g K (rmd 6 0 0) Φ) 0 0 M x (L e.2) 311 [(0, vr g 75), (1, vb e.1), (2, vi v14)] [])) (fun s o hb hr => tX12_laysCooks_b75 hS hc v14 s.1 s.2.1 s.2.2 hb hr) FU _ _ hq66 ?_
      show Ev l D cy g K yX12_laysCooks cX12_laysCooks 10 none (rmd 6 0 0) (MX D cy g K (rmd 6 0 0) Φ) 0 0 M x (L q66.2) 311 [(0, vr g 75), (1, vb q66.1), (2, vi v14)] []
      refine ev_iinc (al2 := [(2, vi (v14 + 1)), (0, vr g 75), (1, vb q66.1)]) dX12_laysCooks_311 2 rfl (by decide) rfl ?_
      refine ev_goto 59 dX12_laysCooks_314 (by decide) ?_
      obtain rfl := Option.some.inj hf
      refine ev_sub [1, 2, 0] rfl ?_
      exact hr
    refine ev_if_ne 71 dX12_laysCooks_64 (by decide) (fun h17 => ?_) (fun h17 => ?_)
    · refine ev_iconst dX12_laysCooks_71 ?_
      have e9 : v16 = false := hv16.trans ((if_neg h17))
      subst e9
      exact hJv16
    · refine ev_iconst dX12_laysCooks_67 ?_
      refine ev_goto 72 dX12_laysCooks_68 (by decide) ?_
      have e9 : v16 = true := hv16.trans ((if_pos h17))
      subst e9
      exact hJv16
def fX12_laysCooks  (μ : Mem) : Option (Mem) :=
  if w32 (μ 75 26) = w32 3 then
    some (μ)
  else
    lt (upd2 μ 75 26 3) fun μ2 =>
    (loopN (fun s => fX12_laysCooks_b16 s.1 s.2) FU (0, μ2)).bind fun q12 =>
    (loopN (fun s => fX12_laysCooks_b59 s.1 s.2.1 s.2.2) FU (true, 0, q12)).bind fun q67 =>
    some (q67)
set_option maxRecDepth 4000 in
theorem eX12_laysCooks (hS : Sd M K P L) (hc : CIn P 75 95)  (μ : Mem)  {o : Mem} (hf : fX12_laysCooks  μ = some o) (hr : (fun o : Mem => Φ none M x (L o)) o) : Ev l D cy g K yX12_laysCooks cX12_laysCooks 10 none (rmd 6 0 0) (MX D cy g K (rmd 6 0 0) Φ) 0 0 M x (L μ) 0 [(0, vr g 75)] [] := by
  unfold fX12_laysCooks at hf
  refine ev_aload_n dX12_laysCooks_0 0 rfl ?_
  refine ev_getI 26 dX12_laysCooks_1 (hS.lt (hc 75 rfl)) rfl (hS.mem _ (hc 75 rfl)) ciX12 (by decide) rfl flX12_251 ?_
  refine ev_iconst dX12_laysCooks_4 ?_
  refine ev_icmp_ne 9 dX12_laysCooks_5 (by decide) (fun h1 => ?_) (fun h1 => ?_)
  · rw [if_neg h1] at hf
    refine ev_aload_n dX12_laysCooks_9 0 rfl ?_
    refine ev_iconst dX12_laysCooks_10 ?_
    obtain ⟨μ2, hμ2, hf⟩ := lt_elim hf
    refine ev_putI 26 dX12_laysCooks_11 (hS.lt (hc 75 rfl)) rfl ciX12 (by decide) (Or.inl rfl) rfl rfl flX12_251 (hS.up (hc 75 rfl) hμ2) ?_
    refine ev_iconst dX12_laysCooks_14 ?_
    refine ev_istore_n (al2 := [(1, vi 0), (0, vr g 75)]) dX12_laysCooks_15 1 rfl (by decide) rfl ?_
    obtain ⟨q12, hq12, hf⟩ := Option.bind_eq_some_iff.mp hf
    refine ev_sub [1, 0] rfl ?_
    refine loop_ev (H := (fun s : Int × Mem => Ev l D cy g K yX12_laysCooks cX12_laysCooks 10 none (rmd 6 0 0) (MX D cy g K (rmd 6 0 0) Φ) 0 0 M x (L s.2) 16 [(0, vr g 75), (1, vi s.1)] [])) (Hx := (fun e : Mem => Ev l D cy g K yX12_laysCooks cX12_laysCooks 10 none (rmd 6 0 0) (MX D cy g K (rmd 6 0 0) Φ) 0 0 M x (L e) 55 [(0, vr g 75)] [])) (fun s o hb hr => tX12_laysCooks_b16 hS hc s.1 s.2 hb hr) FU _ _ hq12 ?_
    show Ev l D cy g K yX12_laysCooks cX12_laysCooks 10 none (rmd 6 0 0) (MX D cy g K (rmd 6 0 0) Φ) 0 0 M x (L q12) 55 [(0, vr g 75)] []
    refine ev_iconst dX12_laysCooks_55 ?_
    refine ev_istore_n (al2 := [(1, vi 1), (0, vr g 75)]) dX12_laysCooks_56 1 rfl (by decide) rfl ?_
    refine ev_iconst dX12_laysCooks_57 ?_
    refine ev_istore_n (al2 := [(2, vi 0), (1, vi 1), (0, vr g 75)]) dX12_laysCooks_58 2 rfl (by decide) rfl ?_
    obtain ⟨q67, hq67, hf⟩ := Option.bind_eq_some_iff.mp hf
    refine ev_sub [2, 1, 0] rfl ?_
    refine loop_ev (H := (fun s : Bool × Int × Mem => Ev l D cy g K yX12_laysCooks cX12_laysCooks 10 none (rmd 6 0 0) (MX D cy g K (rmd 6 0 0) Φ) 0 0 M x (L s.2.2) 59 [(0, vr g 75), (1, vb s.1), (2, vi s.2.1)] [])) (Hx := (fun e : Mem => Ev l D cy g K yX12_laysCooks cX12_laysCooks 10 none (rmd 6 0 0) (MX D cy g K (rmd 6 0 0) Φ) 0 0 M x (L e) 317 [] [])) (fun s o hb hr => tX12_laysCooks_b59 hS hc s.1 s.2.1 s.2.2 hb hr) FU _ _ hq67 ?_
    show Ev l D cy g K yX12_laysCooks cX12_laysCooks 10 none (rmd 6 0 0) (MX D cy g K (rmd 6 0 0) Φ) 0 0 M x (L q67) 317 [] []
    obtain rfl := Option.some.inj hf
    exact ev_vret dX12_laysCooks_317 rfl ⟨Nat.zero_le _, Nat.zero_le _⟩ hr
  · rw [if_pos h1] at hf
    obtain rfl := Option.some.inj hf
    exact ev_vret dX12_laysCooks_8 rfl ⟨Nat.zero_le _, Nat.zero_le _⟩ hr
theorem tX12_laysCooks (hS : Sd M K P L) (hc : CIn P 75 95) (μ : Mem) {o : Mem} (hf : fX12_laysCooks μ = some o) : Cn l D cy g K K yX12_laysCooks cX12_laysCooks 10 none (rmd 6 0 0) [vr g 75] M x (L μ) (PE none M x (L o)) :=
 Cn.of (by decide) (Nat.le_of_ble_eq_true rfl) (eX12_laysCooks hS hc μ hf (PE_i _ _ _ _))
def fX12_wins (what : Int) (μ : Mem) : Option (Int × Mem) :=
  lt (upd2 μ 75 0 0) fun μ1 =>
  if (fX12_within what 0 1) = true then
    (fX12_laysCooks μ1).bind fun μ3 =>
    gd (0 ≤ w32 (μ3 88 0) ∧ w32 (μ3 88 0) < 3840) <|
    lt (μ3 92 (w32 (μ3 88 0)).toNat) fun v5 =>
    lt (if w32 what = 0 then
        if w64 v5 = w64 0 then
          2
        else
          (l_2i (l_rem v5 2))
      else
        if w64 v5 = w64 0 then
          (-1)
        else
          ((l_2i (l_div v5 2)) - 1)) fun v6 =>
    some ((v6, μ3))
  else
    some (((-2), μ1))
set_option maxRecDepth 4000 in
theorem eX12_wins (hS : Sd M K P L) (hc : CIn P 75 95) (what : Int) (μ : Mem)  {o : Int × Mem} (hf : fX12_wins what μ = some o) (hr : (fun o : Int × Mem => Φ (some (vi o.1)) M x (L o.2)) o) : Ev l D cy g K yX12_wins cX12_wins 4 (some .int) (rmd 7 0 0) (MX D cy g K (rmd 7 0 0) Φ) 0 0 M x (L μ) 0 [(0, vr g 75), (1, vi what)] [] := by
  unfold fX12_wins at hf
  refine ev_aload_n dX12_wins_0 0 rfl ?_
  refine ev_iconst dX12_wins_1 ?_
  obtain ⟨μ1, hμ1, hf⟩ := lt_elim hf
  refine ev_putI 0 dX12_wins_2 (hS.lt (hc 75 rfl)) rfl ciX12 (by decide) (Or.inl rfl) rfl rfl flX12_1 (hS.up (hc 75 rfl) hμ1) ?_
  refine ev_iload_n dX12_wins_5 1 rfl ?_
  refine ev_iconst dX12_wins_6 ?_
  refine ev_iconst dX12_wins_7 ?_
  refine cl_S1 (As := [vi what, vi 0, vi 1]) (st := []) miX12_within (tX12_within what 0 1 (L μ1) (o := (fX12_within what 0 1)) rfl) dX12_wins_8 lkX12_270 stX12_within rfl ⟨⟨Nat.le_of_ble_eq_true rfl, Nat.le_of_ble_eq_true rfl⟩, Nat.zero_le _, Nat.zero_le _⟩ (Nat.le_of_ble_eq_true rfl) ?_
  refine ev_ifb_ne 17 dX12_wins_11 (by decide) (fun h2 => ?_) (fun h2 => ?_)
  · rw [if_pos h2] at hf
    refine ev_aload_n dX12_wins_17 0 rfl ?_
    obtain ⟨μ3, hμ3, hf⟩ := Option.bind_eq_some_iff.mp hf
    refine cl_V0 (As := []) (st := []) miX12_laysCooks (tX12_laysCooks hS (hc.w rfl rfl) μ1 hμ3) dX12_wins_18 lkX12_352 inX12_laysCooks rfl (hS.lt (hc 75 rfl)) rfl ⟨rfl, rfl⟩ ⟨⟨Nat.le_of_ble_eq_true rfl, Nat.le_of_ble_eq_true rfl⟩, Nat.zero_le _, Nat.zero_le _⟩ (Nat.le_of_ble_eq_true rfl) ?_
    refine ev_aload_n dX12_wins_21 0 rfl ?_
    refine ev_getK 25 dX12_wins_22 (hS.lt (hc 75 rfl)) rfl (hS.K1 (hc 75 rfl) rfl) ciX12 (by decide) rfl flX12_107 ?_
    refine ev_aload_n dX12_wins_25 0 rfl ?_
    refine ev_getK 19 dX12_wins_26 (hS.lt (hc 75 rfl)) rfl (hS.K1 (hc 75 rfl) rfl) ciX12 (by decide) rfl flX12_94 ?_
    refine ev_iconst dX12_wins_29 ?_
    refine ev_iald dX12_wins_30 (hS.lt (hc 88 rfl)) rfl (hS.mem _ (hc 88 rfl)) ⟨by decide, by decide⟩ ?_
    refine ev_rn (w := vi (μ3 88 0)) (by rw [show (w32 0).toNat = 0 from by decide]) ?_
    obtain ⟨g4, hf⟩ := gd_elim hf
    refine ev_lald dX12_wins_31 (hS.lt (hc 92 rfl)) rfl (hS.mem _ (hc 92 rfl)) g4 ?_
    obtain ⟨v5, hv5, hf⟩ := lt_elim hf
    refine ev_rnl hv5 ?_
    refine ev_lstore_n (al2 := [(2, vl v5), (0, vr g 75), (1, vi what)]) dX12_wins_32 2 rfl (by decide) rfl ?_
    refine ev_iload_n dX12_wins_33 2 rfl ?_
    obtain ⟨v6, hv6, hf⟩ := lt_elim hf
    have hJv6 : Ev l D cy g K yX12_wins cX12_wins 4 (some .int) (rmd 7 0 0) (MX D cy g K (rmd 7 0 0) Φ) 0 0 M x (L μ3) 74 [(2, vl v5), (0, vr g 75), (1, vi what)] [vi v6] := by
      obtain rfl := Option.some.inj hf
      exact ev_iret dX12_wins_74 rfl ⟨Nat.zero_le _, Nat.zero_le _⟩ hr
    refine ev_if_ne 56 dX12_wins_34 (by decide) (fun h7 => ?_) (fun h7 => ?_)
    · refine ev_lload_n dX12_wins_56 0 rfl ?_
      refine ev_lconst 0 dX12_wins_57 rfl ?_
      refine ev_lcmp_ne 66 dX12_wins_58 dX12_wins_59 (by decide) (fun h8 => ?_) (fun h8 => ?_)
      · refine ev_lload_n dX12_wins_66 0 rfl ?_
        refine ev_ldc2 2 dX12_wins_67 klX12_336 (by decide) ?_
        refine ev_ldiv dX12_wins_70 (by decide) ?_
        refine ev_l2i dX12_wins_71 ?_
        refine ev_iconst dX12_wins_72 ?_
        refine ev_isub dX12_wins_73 ?_
        have e9 : v6 = ((l_2i (l_div v5 2)) - 1) := hv6.trans (((if_neg h7)).trans (if_neg h8))
        subst e9
        exact hJv6
      · refine ev_iconst dX12_wins_62 ?_
        refine ev_goto 74 dX12_wins_63 (by decide) ?_
        have e9 : v6 = (-1) := hv6.trans (((if_neg h7)).trans (if_pos h8))
        subst e9
        exact hJv6
    · refine ev_lload_n dX12_wins_37 0 rfl ?_
      refine ev_lconst 0 dX12_wins_38 rfl ?_
      refine ev_lcmp_ne 47 dX12_wins_39 dX12_wins_40 (by decide) (fun h9 => ?_) (fun h9 => ?_)
      · refine ev_lload_n dX12_wins_47 0 rfl ?_
        refine ev_ldc2 2 dX12_wins_48 klX12_336 (by decide) ?_
        refine ev_lrem dX12_wins_51 (by decide) ?_
        refine ev_l2i dX12_wins_52 ?_
        refine ev_goto 74 dX12_wins_53 (by decide) ?_
        have e9 : v6 = (l_2i (l_rem v5 2)) := hv6.trans (((if_pos h7)).trans (if_neg h9))
        subst e9
        exact hJv6
      · refine ev_iconst dX12_wins_43 ?_
        refine ev_goto 74 dX12_wins_44 (by decide) ?_
        have e9 : v6 = 2 := hv6.trans (((if_pos h7)).trans (if_pos h9))
        subst e9
        exact hJv6
  · rw [if_neg h2] at hf
    refine ev_bipush dX12_wins_14 (by decide) ?_
    obtain rfl := Option.some.inj hf
    exact ev_iret dX12_wins_16 rfl ⟨Nat.zero_le _, Nat.zero_le _⟩ hr
theorem tX12_wins (hS : Sd M K P L) (hc : CIn P 75 95) (what : Int) (μ : Mem) {o : Int × Mem} (hf : fX12_wins what μ = some o) : Cn l D cy g K K yX12_wins cX12_wins 4 (some .int) (rmd 7 0 0) [vr g 75, vi what] M x (L μ) (PE (some (vi o.1)) M x (L o.2)) :=
 Cn.of (by decide) (Nat.le_of_ble_eq_true rfl) (eX12_wins hS hc what μ hf (PE_i _ _ _ _))
def fX12_his_j86 (v9 : Int) (v18 : Int) (v19 : Int) (w20 : Int) (μ : Mem) : Option ((Int × Int × Mem) ⊕ (Int × Mem)) :=
  gd (0 ≤ w32 v19 ∧ w32 v19 < 6) <|
  lt (if w32 (μ 93 (w32 v19).toNat) < 0 then
      false
    else
      if w64 v9 = w64 0 then
        if w64 w20 = w64 0 then
          true
        else
          false
      else
        if w64 (l_rem v9 2) = w64 1 then
          if w64 w20 = w64 ((v9 - 2) + (-1)) then
            true
          else
            false
        else
          if w64 w20 = w64 ((v9 - 2) + 1) then
            true
          else
            false) fun v22 =>
  lt (if v22 = true then
      v19
    else
      v18) fun v29 =>
  some (.inl (v29, (v19 + (-1)), μ))
set_option maxRecDepth 4000 in
theorem tX12_his_j86 (hS : Sd M K P L) (hc : CIn P 75 95) (v9 : Int) (v18 : Int) (v19 : Int) (w20 : Int) (μ : Mem)  {o : (Int × Int × Mem) ⊕ (Int × Mem)} (hf : fX12_his_j86 v9 v18 v19 w20 μ = some o) (hr : (Sum.elim (fun s : Int × Int × Mem => Ev l D cy g K yX12_his cX12_his 9 (some .int) (rmd 7 0 0) (MX D cy g K (rmd 7 0 0) Φ) 0 0 M x (L s.2.2) 52 [(0, vr g 75), (2, vl v9), (4, vi s.1), (5, vi s.2.1)] []) (fun e : Int × Mem => Ev l D cy g K yX12_his cX12_his 9 (some .int) (rmd 7 0 0) (MX D cy g K (rmd 7 0 0) Φ) 0 0 M x (L e.2) 170 [(4, vi e.1)] [])) o) : Ev l D cy g K yX12_his cX12_his 9 (some .int) (rmd 7 0 0) (MX D cy g K (rmd 7 0 0) Φ) 0 0 M x (L μ) 86 [(0, vr g 75), (2, vl v9), (4, vi v18), (5, vi v19)] [vl w20] := by
  unfold fX12_his_j86 at hf
  refine ev_lstore (al2 := [(6, vl w20), (0, vr g 75), (2, vl v9), (4, vi v18), (5, vi v19)]) dX12_his_86 (by decide) rfl ?_
  refine ev_aload_n dX12_his_88 1 rfl ?_
  refine ev_getK 27 dX12_his_89 (hS.lt (hc 75 rfl)) rfl (hS.K1 (hc 75 rfl) rfl) ciX12 (by decide) rfl flX12_110 ?_
  refine ev_iload dX12_his_92 4 rfl ?_
  obtain ⟨g21, hf⟩ := gd_elim hf
  refine ev_iald dX12_his_94 (hS.lt (hc 93 rfl)) rfl (hS.mem _ (hc 93 rfl)) g21 ?_
  obtain ⟨v22, hv22, hf⟩ := lt_elim hf
  have hJv22 : Ev l D cy g K yX12_his cX12_his 9 (some .int) (rmd 7 0 0) (MX D cy g K (rmd 7 0 0) Φ) 0 0 M x (L μ) 148 [(6, vl w20), (0, vr g 75), (2, vl v9), (4, vi v18), (5, vi v19)] [vb v22] := by
    refine ev_istore (al2 := [(8, vb v22), (6, vl w20), (0, vr g 75), (2, vl v9), (4, vi v18), (5, vi v19)]) dX12_his_148 (by decide) rfl ?_
    refine ev_iload dX12_his_150 0 rfl ?_
    obtain ⟨v29, hv29, hf⟩ := lt_elim hf
    have hJv29 : Ev l D cy g K yX12_his cX12_his 9 (some .int) (rmd 7 0 0) (MX D cy g K (rmd 7 0 0) Φ) 0 0 M x (L μ) 162 [(8, vb v22), (6, vl w20), (0, vr g 75), (2, vl v9), (4, vi v18), (5, vi v19)] [vi v29] := by
      refine ev_istore (al2 := [(4, vi v29), (8, vb v22), (6, vl w20), (0, vr g 75), (2, vl v9), (5, vi v19)]) dX12_his_162 (by decide) rfl ?_
      refine ev_iinc (al2 := [(5, vi (v19 + (-1))), (4, vi v29), (8, vb v22), (6, vl w20), (0, vr g 75), (2, vl v9)]) dX12_his_164 5 rfl (by decide) rfl ?_
      refine ev_goto 52 dX12_his_167 (by decide) ?_
      obtain rfl := Option.some.inj hf
      refine ev_sub [4, 5, 1, 0] rfl ?_
      exact hr
    refine ev_ifb_eq 160 dX12_his_152 (by decide) (fun h30 => ?_) (fun h30 => ?_)
    · refine ev_iload dX12_his_160 4 rfl ?_
      have e9 : v29 = v18 := hv29.trans ((if_neg h30))
      subst e9
      exact hJv29
    · refine ev_iload dX12_his_155 5 rfl ?_
      refine ev_goto 162 dX12_his_157 (by decide) ?_
      have e9 : v29 = v19 := hv29.trans ((if_pos h30))
      subst e9
      exact hJv29
  refine ev_if_lt 147 dX12_his_95 (by decide) (fun h23 => ?_) (fun h23 => ?_)
  · refine ev_iconst dX12_his_147 ?_
    have e9 : v22 = false := hv22.trans ((if_pos h23))
    subst e9
    exact hJv22
  · refine ev_lload_n dX12_his_98 2 rfl ?_
    refine ev_lconst 0 dX12_his_99 rfl ?_
    refine ev_lcmp_ne 114 dX12_his_100 dX12_his_101 (by decide) (fun h24 => ?_) (fun h24 => ?_)
    · refine ev_lload dX12_his_114 0 rfl ?_
      refine ev_lload_n dX12_his_116 2 rfl ?_
      refine ev_ldc2 2 dX12_his_117 klX12_336 (by decide) ?_
      refine ev_lsub dX12_his_120 ?_
      refine ev_lload_n dX12_his_121 2 rfl ?_
      refine ev_ldc2 2 dX12_his_122 klX12_336 (by decide) ?_
      refine ev_lrem dX12_his_125 (by decide) ?_
      refine ev_lconst 1 dX12_his_126 rfl ?_
      refine ev_lcmp_ne 137 dX12_his_127 dX12_his_128 (by decide) (fun h25 => ?_) (fun h25 => ?_)
      · refine ev_lconst 1 dX12_his_137 rfl ?_
        refine ev_ladd dX12_his_138 ?_
        refine ev_lcmp_ne 147 dX12_his_139 dX12_his_140 (by decide) (fun h26 => ?_) (fun h26 => ?_)
        · refine ev_iconst dX12_his_147 ?_
          have e9 : v22 = false := hv22.trans (((if_neg h23)).trans (((if_neg h24)).trans (((if_neg h25)).trans (if_neg h26))))
          subst e9
          exact hJv22
        · refine ev_iconst dX12_his_143 ?_
          refine ev_goto 148 dX12_his_144 (by decide) ?_
          have e9 : v22 = true := hv22.trans (((if_neg h23)).trans (((if_neg h24)).trans (((if_neg h25)).trans (if_pos h26))))
          subst e9
          exact hJv22
      · refine ev_ldc2 (-1) dX12_his_131 klX12_355 (by decide) ?_
        refine ev_goto 138 dX12_his_134 (by decide) ?_
        refine ev_ladd dX12_his_138 ?_
        refine ev_lcmp_ne 147 dX12_his_139 dX12_his_140 (by decide) (fun h27 => ?_) (fun h27 => ?_)
        · refine ev_iconst dX12_his_147 ?_
          have e9 : v22 = false := hv22.trans (((if_neg h23)).trans (((if_neg h24)).trans (((if_pos h25)).trans (if_neg h27))))
          subst e9
          exact hJv22
        · refine ev_iconst dX12_his_143 ?_
          refine ev_goto 148 dX12_his_144 (by decide) ?_
          have e9 : v22 = true := hv22.trans (((if_neg h23)).trans (((if_neg h24)).trans (((if_pos h25)).trans (if_pos h27))))
          subst e9
          exact hJv22
    · refine ev_lload dX12_his_104 0 rfl ?_
      refine ev_lconst 0 dX12_his_106 rfl ?_
      refine ev_lcmp_ne 147 dX12_his_107 dX12_his_108 (by decide) (fun h28 => ?_) (fun h28 => ?_)
      · refine ev_iconst dX12_his_147 ?_
        have e9 : v22 = false := hv22.trans (((if_neg h23)).trans (((if_pos h24)).trans (if_neg h28)))
        subst e9
        exact hJv22
      · refine ev_goto 143 dX12_his_111 (by decide) ?_
        refine ev_iconst dX12_his_143 ?_
        refine ev_goto 148 dX12_his_144 (by decide) ?_
        have e9 : v22 = true := hv22.trans (((if_neg h23)).trans (((if_pos h24)).trans (if_pos h28)))
        subst e9
        exact hJv22
def fX12_his_b52 (v9 : Int) (v11 : Int) (v12 : Int) (μ : Mem) : Option ((Int × Int × Mem) ⊕ (Int × Mem)) :=
  if w32 v12 < w32 1 then
    some (.inr (v11, μ))
  else
    gd (0 ≤ w32 v12 ∧ w32 v12 < 6) <|
    if w32 (μ 93 (w32 v12).toNat) < 0 then
      fX12_his_j86 v9 v11 v12 (-1) μ
    else
      gd (0 ≤ w32 v12 ∧ w32 v12 < 6) <|
      gd (0 ≤ w32 (μ 93 (w32 v12).toNat) ∧ w32 (μ 93 (w32 v12).toNat) < 3840) <|
      fX12_his_j86 v9 v11 v12 (μ 92 (w32 (μ 93 (w32 v12).toNat)).toNat) μ
set_option maxRecDepth 4000 in
theorem tX12_his_b52 (hS : Sd M K P L) (hc : CIn P 75 95) (v9 : Int) (v11 : Int) (v12 : Int) (μ : Mem)  {o : (Int × Int × Mem) ⊕ (Int × Mem)} (hf : fX12_his_b52 v9 v11 v12 μ = some o) (hr : (Sum.elim (fun s : Int × Int × Mem => Ev l D cy g K yX12_his cX12_his 9 (some .int) (rmd 7 0 0) (MX D cy g K (rmd 7 0 0) Φ) 0 0 M x (L s.2.2) 52 [(0, vr g 75), (2, vl v9), (4, vi s.1), (5, vi s.2.1)] []) (fun e : Int × Mem => Ev l D cy g K yX12_his cX12_his 9 (some .int) (rmd 7 0 0) (MX D cy g K (rmd 7 0 0) Φ) 0 0 M x (L e.2) 170 [(4, vi e.1)] [])) o) : Ev l D cy g K yX12_his cX12_his 9 (some .int) (rmd 7 0 0) (MX D cy g K (rmd 7 0 0) Φ) 0 0 M x (L μ) 52 [(0, vr g 75), (2, vl v9), (4, vi v11), (5, vi v12)] [] := by
  unfold fX12_his_b52 at hf
  refine ev_iload dX12_his_52 3 rfl ?_
  refine ev_iconst dX12_his_54 ?_
  refine ev_icmp_lt 170 dX12_his_55 (by decide) (fun h13 => ?_) (fun h13 => ?_)
  · rw [if_pos h13] at hf
    obtain rfl := Option.some.inj hf
    refine ev_sub [2] rfl ?_
    exact hr
  · rw [if_neg h13] at hf
    refine ev_aload_n dX12_his_58 0 rfl ?_
    refine ev_getK 27 dX12_his_59 (hS.lt (hc 75 rfl)) rfl (hS.K1 (hc 75 rfl) rfl) ciX12 (by decide) rfl flX12_110 ?_
    refine ev_iload dX12_his_62 3 rfl ?_
    obtain ⟨g14, hf⟩ := gd_elim hf
    refine ev_iald dX12_his_64 (hS.lt (hc 93 rfl)) rfl (hS.mem _ (hc 93 rfl)) g14 ?_
    refine ev_if_ge 74 dX12_his_65 (by decide) (fun h15 => ?_) (fun h15 => ?_)
    · rw [if_neg h15] at hf
      refine ev_aload_n dX12_his_74 0 rfl ?_
      refine ev_getK 25 dX12_his_75 (hS.lt (hc 75 rfl)) rfl (hS.K1 (hc 75 rfl) rfl) ciX12 (by decide) rfl flX12_107 ?_
      refine ev_aload_n dX12_his_78 0 rfl ?_
      refine ev_getK 27 dX12_his_79 (hS.lt (hc 75 rfl)) rfl (hS.K1 (hc 75 rfl) rfl) ciX12 (by decide) rfl flX12_110 ?_
      refine ev_iload dX12_his_82 3 rfl ?_
      obtain ⟨g16, hf⟩ := gd_elim hf
      refine ev_iald dX12_his_84 (hS.lt (hc 93 rfl)) rfl (hS.mem _ (hc 93 rfl)) g16 ?_
      obtain ⟨g17, hf⟩ := gd_elim hf
      refine ev_lald dX12_his_85 (hS.lt (hc 92 rfl)) rfl (hS.mem _ (hc 92 rfl)) g17 ?_
      refine ev_sub [0, 1, 2, 3] rfl ?_
      exact tX12_his_j86 hS hc v9 v11 v12 (μ 92 (w32 (μ 93 (w32 v12).toNat)).toNat) μ hf hr
    · rw [if_pos h15] at hf
      refine ev_ldc2 (-1) dX12_his_68 klX12_355 (by decide) ?_
      refine ev_goto 86 dX12_his_71 (by decide) ?_
      refine ev_sub [0, 1, 2, 3] rfl ?_
      exact tX12_his_j86 hS hc v9 v11 v12 (-1) μ hf hr
def fX12_his  (μ : Mem) : Option (Int × Mem) :=
  lt (upd2 μ 75 0 0) fun μ1 =>
  (fX12_laysCooks μ1).bind fun μ2 =>
  lt (μ2 88 0) fun v3 =>
  (fX12_lays v3 μ2).bind fun μ4 =>
  (fX12_isServed μ4).bind fun v5 =>
  if v5 = true then
    some (((-1), μ4))
  else
    (fX12_leadsFrom v3 0 μ4).bind fun μ7 =>
    gd (0 ≤ w32 v3 ∧ w32 v3 < 3840) <|
    lt (μ7 92 (w32 v3).toNat) fun v9 =>
    lt (μ7 81 0) fun v10 =>
    (loopN (fun s => fX12_his_b52 v9 s.1 s.2.1 s.2.2) FU ((-1), v10, μ7)).bind fun q34 =>
    some ((q34.1, q34.2))
set_option maxRecDepth 4000 in
theorem eX12_his (hS : Sd M K P L) (hc : CIn P 75 95)  (μ : Mem)  {o : Int × Mem} (hf : fX12_his  μ = some o) (hr : (fun o : Int × Mem => Φ (some (vi o.1)) M x (L o.2)) o) : Ev l D cy g K yX12_his cX12_his 9 (some .int) (rmd 7 0 0) (MX D cy g K (rmd 7 0 0) Φ) 0 0 M x (L μ) 0 [(0, vr g 75)] [] := by
  unfold fX12_his at hf
  refine ev_aload_n dX12_his_0 0 rfl ?_
  refine ev_iconst dX12_his_1 ?_
  obtain ⟨μ1, hμ1, hf⟩ := lt_elim hf
  refine ev_putI 0 dX12_his_2 (hS.lt (hc 75 rfl)) rfl ciX12 (by decide) (Or.inl rfl) rfl rfl flX12_1 (hS.up (hc 75 rfl) hμ1) ?_
  refine ev_aload_n dX12_his_5 0 rfl ?_
  obtain ⟨μ2, hμ2, hf⟩ := Option.bind_eq_some_iff.mp hf
  refine cl_V0 (As := []) (st := []) miX12_laysCooks (tX12_laysCooks hS (hc.w rfl rfl) μ1 hμ2) dX12_his_6 lkX12_352 inX12_laysCooks rfl (hS.lt (hc 75 rfl)) rfl ⟨rfl, rfl⟩ ⟨⟨Nat.le_of_ble_eq_true rfl, Nat.le_of_ble_eq_true rfl⟩, Nat.zero_le _, Nat.zero_le _⟩ (Nat.le_of_ble_eq_true rfl) ?_
  refine ev_aload_n dX12_his_9 0 rfl ?_
  refine ev_getK 19 dX12_his_10 (hS.lt (hc 75 rfl)) rfl (hS.K1 (hc 75 rfl) rfl) ciX12 (by decide) rfl flX12_94 ?_
  refine ev_iconst dX12_his_13 ?_
  refine ev_iald dX12_his_14 (hS.lt (hc 88 rfl)) rfl (hS.mem _ (hc 88 rfl)) ⟨by decide, by decide⟩ ?_
  refine ev_rn (w := vi (μ2 88 0)) (by rw [show (w32 0).toNat = 0 from by decide]) ?_
  obtain ⟨v3, hv3, hf⟩ := lt_elim hf
  refine ev_rni hv3 ?_
  refine ev_istore_n (al2 := [(1, vi v3), (0, vr g 75)]) dX12_his_15 1 rfl (by decide) rfl ?_
  refine ev_aload_n dX12_his_16 1 rfl ?_
  refine ev_iload_n dX12_his_17 0 rfl ?_
  obtain ⟨μ4, hμ4, hf⟩ := Option.bind_eq_some_iff.mp hf
  refine cl_V0 (As := [vi v3]) (st := []) miX12_lays (tX12_lays hS (hc.w rfl rfl) v3 μ2 hμ4) dX12_his_18 lkX12_274 inX12_lays rfl (hS.lt (hc 75 rfl)) rfl ⟨rfl, rfl⟩ ⟨⟨Nat.le_of_ble_eq_true rfl, Nat.le_of_ble_eq_true rfl⟩, Nat.zero_le _, Nat.zero_le _⟩ (Nat.le_of_ble_eq_true rfl) ?_
  refine ev_aload_n dX12_his_21 1 rfl ?_
  obtain ⟨v5, hv5, hf⟩ := Option.bind_eq_some_iff.mp hf
  refine cl_V1 (As := []) (st := []) miX12_isServed (tX12_isServed hS (hc.w rfl rfl) μ4 hv5) dX12_his_22 lkX12_289 inX12_isServed rfl (hS.lt (hc 75 rfl)) rfl ⟨rfl, rfl⟩ ⟨⟨Nat.le_of_ble_eq_true rfl, Nat.le_of_ble_eq_true rfl⟩, Nat.zero_le _, Nat.zero_le _⟩ (Nat.le_of_ble_eq_true rfl) ?_
  refine ev_ifb_eq 30 dX12_his_25 (by decide) (fun h6 => ?_) (fun h6 => ?_)
  · rw [if_neg h6] at hf
    refine ev_aload_n dX12_his_30 1 rfl ?_
    refine ev_iload_n dX12_his_31 0 rfl ?_
    refine ev_iconst dX12_his_32 ?_
    obtain ⟨μ7, hμ7, hf⟩ := Option.bind_eq_some_iff.mp hf
    refine cl_V0 (As := [vi v3, vi 0]) (st := []) miX12_leadsFrom (tX12_leadsFrom hS (hc.w rfl rfl) v3 0 μ4 hμ7) dX12_his_33 lkX12_321 inX12_leadsFrom rfl (hS.lt (hc 75 rfl)) rfl ⟨rfl, rfl⟩ ⟨⟨Nat.le_of_ble_eq_true rfl, Nat.le_of_ble_eq_true rfl⟩, Nat.zero_le _, Nat.zero_le _⟩ (Nat.le_of_ble_eq_true rfl) ?_
    refine ev_aload_n dX12_his_36 1 rfl ?_
    refine ev_getK 25 dX12_his_37 (hS.lt (hc 75 rfl)) rfl (hS.K1 (hc 75 rfl) rfl) ciX12 (by decide) rfl flX12_107 ?_
    refine ev_iload_n dX12_his_40 0 rfl ?_
    obtain ⟨g8, hf⟩ := gd_elim hf
    refine ev_lald dX12_his_41 (hS.lt (hc 92 rfl)) rfl (hS.mem _ (hc 92 rfl)) g8 ?_
    obtain ⟨v9, hv9, hf⟩ := lt_elim hf
    refine ev_rnl hv9 ?_
    refine ev_lstore_n (al2 := [(2, vl v9), (1, vi v3), (0, vr g 75)]) dX12_his_42 2 rfl (by decide) rfl ?_
    refine ev_iconst dX12_his_43 ?_
    refine ev_istore (al2 := [(4, vi (-1)), (2, vl v9), (1, vi v3), (0, vr g 75)]) dX12_his_44 (by decide) rfl ?_
    refine ev_aload_n dX12_his_46 3 rfl ?_
    refine cl_V1 (As := []) (st := []) miX12_cakes (tX12_cakes hS (hc.w rfl rfl) μ7 (o := (μ7 81 0)) rfl) dX12_his_47 lkX12_209 inX12_cakes rfl (hS.lt (hc 75 rfl)) rfl ⟨rfl, rfl⟩ ⟨⟨Nat.le_of_ble_eq_true rfl, Nat.le_of_ble_eq_true rfl⟩, Nat.zero_le _, Nat.zero_le _⟩ (Nat.le_of_ble_eq_true rfl) ?_
    obtain ⟨v10, hv10, hf⟩ := lt_elim hf
    refine ev_rni hv10 ?_
    refine ev_istore (al2 := [(5, vi v10), (4, vi (-1)), (2, vl v9), (1, vi v3), (0, vr g 75)]) dX12_his_50 (by decide) rfl ?_
    obtain ⟨q34, hq34, hf⟩ := Option.bind_eq_some_iff.mp hf
    refine ev_sub [4, 2, 1, 0] rfl ?_
    refine loop_ev (H := (fun s : Int × Int × Mem => Ev l D cy g K yX12_his cX12_his 9 (some .int) (rmd 7 0 0) (MX D cy g K (rmd 7 0 0) Φ) 0 0 M x (L s.2.2) 52 [(0, vr g 75), (2, vl v9), (4, vi s.1), (5, vi s.2.1)] [])) (Hx := (fun e : Int × Mem => Ev l D cy g K yX12_his cX12_his 9 (some .int) (rmd 7 0 0) (MX D cy g K (rmd 7 0 0) Φ) 0 0 M x (L e.2) 170 [(4, vi e.1)] [])) (fun s o hb hr => tX12_his_b52 hS hc v9 s.1 s.2.1 s.2.2 hb hr) FU _ _ hq34 ?_
    show Ev l D cy g K yX12_his cX12_his 9 (some .int) (rmd 7 0 0) (MX D cy g K (rmd 7 0 0) Φ) 0 0 M x (L q34.2) 170 [(4, vi q34.1)] []
    refine ev_iload dX12_his_170 0 rfl ?_
    obtain rfl := Option.some.inj hf
    exact ev_iret dX12_his_172 rfl ⟨Nat.zero_le _, Nat.zero_le _⟩ hr
  · rw [if_pos h6] at hf
    refine ev_iconst dX12_his_28 ?_
    obtain rfl := Option.some.inj hf
    exact ev_iret dX12_his_29 rfl ⟨Nat.zero_le _, Nat.zero_le _⟩ hr
theorem tX12_his (hS : Sd M K P L) (hc : CIn P 75 95) (μ : Mem) {o : Int × Mem} (hf : fX12_his μ = some o) : Cn l D cy g K K yX12_his cX12_his 9 (some .int) (rmd 7 0 0) [vr g 75] M x (L μ) (PE (some (vi o.1)) M x (L o.2)) :=
 Cn.of (by decide) (Nat.le_of_ble_eq_true rfl) (eX12_his hS hc μ hf (PE_i _ _ _ _))
def fX12_sees_j36 (place : Int) (cake : Int) (is0 : Int) (μ : Mem) : Option (Bool × Mem) :=
  if w32 (μ 88 3) = w32 8 then
    some ((false, μ))
  else
    lt (4 + (3 * (μ 88 3))) fun v6 =>
    gd (0 ≤ w32 v6 ∧ w32 v6 < 588) <|
    lt (upd2 μ 88 ((w32 v6).toNat) place) fun μ8 =>
    gd (0 ≤ w32 (v6 + 1) ∧ w32 (v6 + 1) < 588) <|
    lt (upd2 μ8 88 ((w32 (v6 + 1)).toNat) cake) fun μ10 =>
    gd (0 ≤ w32 (v6 + 2) ∧ w32 (v6 + 2) < 588) <|
    lt (upd2 μ10 88 ((w32 (v6 + 2)).toNat) is0) fun μ12 =>
    lt (upd2 μ12 88 3 ((μ12 88 3) + 1)) fun μ13 =>
    some ((true, μ13))
set_option maxRecDepth 4000 in
theorem tX12_sees_j36 (hS : Sd M K P L) (hc : CIn P 75 89) (place : Int) (cake : Int) (is0 : Int) (μ : Mem)  {o : Bool × Mem} (hf : fX12_sees_j36 place cake is0 μ = some o) (hr : (fun o : Bool × Mem => Φ (some (vb o.1)) M x (L o.2)) o) : Ev l D cy g K yX12_sees cX12_sees 5 (some .boolean) (rmd 2 0 0) (MX D cy g K (rmd 2 0 0) Φ) 0 0 M x (L μ) 36 [(0, vr g 75), (1, vi place), (2, vi cake), (3, vi is0)] [] := by
  unfold fX12_sees_j36 at hf
  refine ev_aload_n dX12_sees_36 0 rfl ?_
  refine ev_getK 19 dX12_sees_37 (hS.lt (hc 75 rfl)) rfl (hS.K1 (hc 75 rfl) rfl) ciX12 (by decide) rfl flX12_94 ?_
  refine ev_iconst dX12_sees_40 ?_
  refine ev_iald dX12_sees_41 (hS.lt (hc 88 rfl)) rfl (hS.mem _ (hc 88 rfl)) ⟨by decide, by decide⟩ ?_
  refine ev_rn (w := vi (μ 88 3)) (by rw [show (w32 3).toNat = 3 from by decide]) ?_
  refine ev_bipush dX12_sees_42 (by decide) ?_
  refine ev_icmp_ne 49 dX12_sees_44 (by decide) (fun h5 => ?_) (fun h5 => ?_)
  · rw [if_neg h5] at hf
    refine ev_iconst dX12_sees_49 ?_
    refine ev_iconst dX12_sees_50 ?_
    refine ev_aload_n dX12_sees_51 0 rfl ?_
    refine ev_getK 19 dX12_sees_52 (hS.lt (hc 75 rfl)) rfl (hS.K1 (hc 75 rfl) rfl) ciX12 (by decide) rfl flX12_94 ?_
    refine ev_iconst dX12_sees_55 ?_
    refine ev_iald dX12_sees_56 (hS.lt (hc 88 rfl)) rfl (hS.mem _ (hc 88 rfl)) ⟨by decide, by decide⟩ ?_
    refine ev_rn (w := vi (μ 88 3)) (by rw [show (w32 3).toNat = 3 from by decide]) ?_
    refine ev_imul dX12_sees_57 ?_
    refine ev_iadd dX12_sees_58 ?_
    obtain ⟨v6, hv6, hf⟩ := lt_elim hf
    refine ev_rni hv6 ?_
    refine ev_istore (al2 := [(4, vi v6), (0, vr g 75), (1, vi place), (2, vi cake), (3, vi is0)]) dX12_sees_59 (by decide) rfl ?_
    refine ev_aload_n dX12_sees_61 1 rfl ?_
    refine ev_getK 19 dX12_sees_62 (hS.lt (hc 75 rfl)) rfl (hS.K1 (hc 75 rfl) rfl) ciX12 (by decide) rfl flX12_94 ?_
    refine ev_iload dX12_sees_65 0 rfl ?_
    refine ev_iload_n dX12_sees_67 2 rfl ?_
    obtain ⟨g7, hf⟩ := gd_elim hf
    obtain ⟨μ8, hμ8, hf⟩ := lt_elim hf
    refine ev_iast dX12_sees_68 (hS.lt (hc 88 rfl)) rfl g7 (hS.up (hc 88 rfl) hμ8) ?_
    refine ev_aload_n dX12_sees_69 1 rfl ?_
    refine ev_getK 19 dX12_sees_70 (hS.lt (hc 75 rfl)) rfl (hS.K1 (hc 75 rfl) rfl) ciX12 (by decide) rfl flX12_94 ?_
    refine ev_iload dX12_sees_73 0 rfl ?_
    refine ev_iconst dX12_sees_75 ?_
    refine ev_iadd dX12_sees_76 ?_
    refine ev_iload_n dX12_sees_77 3 rfl ?_
    obtain ⟨g9, hf⟩ := gd_elim hf
    obtain ⟨μ10, hμ10, hf⟩ := lt_elim hf
    refine ev_iast dX12_sees_78 (hS.lt (hc 88 rfl)) rfl g9 (hS.up (hc 88 rfl) hμ10) ?_
    refine ev_aload_n dX12_sees_79 1 rfl ?_
    refine ev_getK 19 dX12_sees_80 (hS.lt (hc 75 rfl)) rfl (hS.K1 (hc 75 rfl) rfl) ciX12 (by decide) rfl flX12_94 ?_
    refine ev_iload dX12_sees_83 0 rfl ?_
    refine ev_iconst dX12_sees_85 ?_
    refine ev_iadd dX12_sees_86 ?_
    refine ev_iload_n dX12_sees_87 4 rfl ?_
    obtain ⟨g11, hf⟩ := gd_elim hf
    obtain ⟨μ12, hμ12, hf⟩ := lt_elim hf
    refine ev_iast dX12_sees_88 (hS.lt (hc 88 rfl)) rfl g11 (hS.up (hc 88 rfl) hμ12) ?_
    refine ev_aload_n dX12_sees_89 1 rfl ?_
    refine ev_getK 19 dX12_sees_90 (hS.lt (hc 75 rfl)) rfl (hS.K1 (hc 75 rfl) rfl) ciX12 (by decide) rfl flX12_94 ?_
    refine ev_iconst dX12_sees_93 ?_
    refine ev_dup2 dX12_sees_94 rfl rfl ?_
    refine ev_iald dX12_sees_95 (hS.lt (hc 88 rfl)) rfl (hS.mem _ (hc 88 rfl)) ⟨by decide, by decide⟩ ?_
    refine ev_rn (w := vi (μ12 88 3)) (by rw [show (w32 3).toNat = 3 from by decide]) ?_
    refine ev_iconst dX12_sees_96 ?_
    refine ev_iadd dX12_sees_97 ?_
    obtain ⟨μ13, hμ13, hf⟩ := lt_elim hf
    refine ev_iast (N2 := L μ13) dX12_sees_98 (hS.lt (hc 88 rfl)) rfl ⟨by decide, by decide⟩ (by rw [show (w32 3).toNat = 3 from by decide]; exact hS.up (hc 88 rfl) hμ13) ?_
    refine ev_iconst dX12_sees_99 ?_
    obtain rfl := Option.some.inj hf
    exact ev_bret (b := true) dX12_sees_100 rfl ⟨Nat.zero_le _, Nat.zero_le _⟩ hr
  · rw [if_pos h5] at hf
    refine ev_iconst dX12_sees_47 ?_
    obtain rfl := Option.some.inj hf
    exact ev_bret (b := false) dX12_sees_48 rfl ⟨Nat.zero_le _, Nat.zero_le _⟩ hr
def fX12_sees (place : Int) (cake : Int) (is0 : Int) (μ : Mem) : Option (Bool × Mem) :=
  lt (fX12_within place 0 ((μ 81 0) - 1)) fun v1 =>
  if v1 = true then
    if (fX12_within cake 0 5) = true then
      if w32 cake < w32 5 then
        if w32 cake < w32 (μ 81 0) then
          fX12_sees_j36 place cake is0 μ
        else
          some ((false, μ))
      else
        fX12_sees_j36 place cake is0 μ
    else
      some ((false, μ))
  else
    some ((false, μ))
set_option maxRecDepth 4000 in
theorem eX12_sees (hS : Sd M K P L) (hc : CIn P 75 89) (place : Int) (cake : Int) (is0 : Int) (μ : Mem)  {o : Bool × Mem} (hf : fX12_sees place cake is0 μ = some o) (hr : (fun o : Bool × Mem => Φ (some (vb o.1)) M x (L o.2)) o) : Ev l D cy g K yX12_sees cX12_sees 5 (some .boolean) (rmd 2 0 0) (MX D cy g K (rmd 2 0 0) Φ) 0 0 M x (L μ) 0 [(0, vr g 75), (1, vi place), (2, vi cake), (3, vi is0)] [] := by
  unfold fX12_sees at hf
  refine ev_iload_n dX12_sees_0 1 rfl ?_
  refine ev_iconst dX12_sees_1 ?_
  refine ev_aload_n dX12_sees_2 0 rfl ?_
  refine cl_V1 (As := []) (st := [vi 0, vi place]) miX12_cakes (tX12_cakes hS (hc.w rfl rfl) μ (o := (μ 81 0)) rfl) dX12_sees_3 lkX12_209 inX12_cakes rfl (hS.lt (hc 75 rfl)) rfl ⟨rfl, rfl⟩ ⟨⟨Nat.le_of_ble_eq_true rfl, Nat.le_of_ble_eq_true rfl⟩, Nat.zero_le _, Nat.zero_le _⟩ (Nat.le_of_ble_eq_true rfl) ?_
  refine ev_iconst dX12_sees_6 ?_
  refine ev_isub dX12_sees_7 ?_
  obtain ⟨v1, hv1, hf⟩ := lt_elim hf
  refine cl_S1 (As := [vi place, vi 0, vi ((μ 81 0) - 1)]) (st := []) miX12_within (tX12_within place 0 ((μ 81 0) - 1) (L μ) hv1.symm) dX12_sees_8 lkX12_270 stX12_within rfl ⟨⟨Nat.le_of_ble_eq_true rfl, Nat.le_of_ble_eq_true rfl⟩, Nat.zero_le _, Nat.zero_le _⟩ (Nat.le_of_ble_eq_true rfl) ?_
  refine ev_ifb_eq 47 dX12_sees_11 (by decide) (fun h2 => ?_) (fun h2 => ?_)
  · rw [if_neg h2] at hf
    refine ev_iconst dX12_sees_47 ?_
    obtain rfl := Option.some.inj hf
    exact ev_bret (b := false) dX12_sees_48 rfl ⟨Nat.zero_le _, Nat.zero_le _⟩ hr
  · rw [if_pos h2] at hf
    refine ev_iload_n dX12_sees_14 2 rfl ?_
    refine ev_iconst dX12_sees_15 ?_
    refine ev_iconst dX12_sees_16 ?_
    refine cl_S1 (As := [vi cake, vi 0, vi 5]) (st := []) miX12_within (tX12_within cake 0 5 (L μ) (o := (fX12_within cake 0 5)) rfl) dX12_sees_17 lkX12_270 stX12_within rfl ⟨⟨Nat.le_of_ble_eq_true rfl, Nat.le_of_ble_eq_true rfl⟩, Nat.zero_le _, Nat.zero_le _⟩ (Nat.le_of_ble_eq_true rfl) ?_
    refine ev_ifb_eq 47 dX12_sees_20 (by decide) (fun h3 => ?_) (fun h3 => ?_)
    · rw [if_neg h3] at hf
      refine ev_iconst dX12_sees_47 ?_
      obtain rfl := Option.some.inj hf
      exact ev_bret (b := false) dX12_sees_48 rfl ⟨Nat.zero_le _, Nat.zero_le _⟩ hr
    · rw [if_pos h3] at hf
      refine ev_iload_n dX12_sees_23 2 rfl ?_
      refine ev_iconst dX12_sees_24 ?_
      refine ev_icmp_ge 36 dX12_sees_25 (by decide) (fun h4 => ?_) (fun h4 => ?_)
      · rw [if_neg h4] at hf
        refine ev_sub [0, 1, 2, 3] rfl ?_
        exact tX12_sees_j36 hS hc place cake is0 μ hf hr
      · rw [if_pos h4] at hf
        refine ev_iload_n dX12_sees_28 2 rfl ?_
        refine ev_aload_n dX12_sees_29 0 rfl ?_
        refine cl_V1 (As := []) (st := [vi cake]) miX12_cakes (tX12_cakes hS (hc.w rfl rfl) μ (o := (μ 81 0)) rfl) dX12_sees_30 lkX12_209 inX12_cakes rfl (hS.lt (hc 75 rfl)) rfl ⟨rfl, rfl⟩ ⟨⟨Nat.le_of_ble_eq_true rfl, Nat.le_of_ble_eq_true rfl⟩, Nat.zero_le _, Nat.zero_le _⟩ (Nat.le_of_ble_eq_true rfl) ?_
        refine ev_icmp_ge 47 dX12_sees_33 (by decide) (fun h14 => ?_) (fun h14 => ?_)
        · rw [if_neg h14] at hf
          refine ev_iconst dX12_sees_47 ?_
          obtain rfl := Option.some.inj hf
          exact ev_bret (b := false) dX12_sees_48 rfl ⟨Nat.zero_le _, Nat.zero_le _⟩ hr
        · rw [if_pos h14] at hf
          refine ev_sub [0, 1, 2, 3] rfl ?_
          exact tX12_sees_j36 hS hc place cake is0 μ hf hr
theorem tX12_sees (hS : Sd M K P L) (hc : CIn P 75 89) (place : Int) (cake : Int) (is0 : Int) (μ : Mem) {o : Bool × Mem} (hf : fX12_sees place cake is0 μ = some o) : Cn l D cy g K K yX12_sees cX12_sees 5 (some .boolean) (rmd 2 0 0) [vr g 75, vi place, vi cake, vi is0] M x (L μ) (PE (some (vb o.1)) M x (L o.2)) :=
 Cn.of (by decide) (Nat.le_of_ble_eq_true rfl) (eX12_sees hS hc place cake is0 μ hf (PE_i _ _ _ _))
def fX12_see (place : Int) (cake : Int) (is0 : Bool) (μ : Mem) : Option (Bool × Mem) :=
  lt (upd2 μ 75 0 0) fun μ1 =>
  if w32 cake = w32 5 then
    some ((false, μ1))
  else
    lt (if is0 = true then
        true
      else
        false) fun v3 =>
    (fX12_sees place cake (b2i v3) μ1).bind fun q5 =>
    lt (if q5.1 = true then
        true
      else
        false) fun v6 =>
    some ((v6, q5.2))
set_option maxRecDepth 4000 in
theorem eX12_see (hS : Sd M K P L) (hc : CIn P 75 89) (place : Int) (cake : Int) (is0 : Bool) (μ : Mem)  {o : Bool × Mem} (hf : fX12_see place cake is0 μ = some o) (hr : (fun o : Bool × Mem => Φ (some (vb o.1)) M x (L o.2)) o) : Ev l D cy g K yX12_see cX12_see 4 (some .boolean) (rmd 3 0 0) (MX D cy g K (rmd 3 0 0) Φ) 0 0 M x (L μ) 0 [(0, vr g 75), (1, vi place), (2, vi cake), (3, vb is0)] [] := by
  unfold fX12_see at hf
  refine ev_aload_n dX12_see_0 0 rfl ?_
  refine ev_iconst dX12_see_1 ?_
  obtain ⟨μ1, hμ1, hf⟩ := lt_elim hf
  refine ev_putI 0 dX12_see_2 (hS.lt (hc 75 rfl)) rfl ciX12 (by decide) (Or.inl rfl) rfl rfl flX12_1 (hS.up (hc 75 rfl) hμ1) ?_
  refine ev_iload_n dX12_see_5 2 rfl ?_
  refine ev_iconst dX12_see_6 ?_
  refine ev_icmp_eq 32 dX12_see_7 (by decide) (fun h2 => ?_) (fun h2 => ?_)
  · rw [if_pos h2] at hf
    refine ev_iconst dX12_see_32 ?_
    obtain rfl := Option.some.inj hf
    exact ev_bret (b := false) dX12_see_33 rfl ⟨Nat.zero_le _, Nat.zero_le _⟩ hr
  · rw [if_neg h2] at hf
    refine ev_aload_n dX12_see_10 0 rfl ?_
    refine ev_iload_n dX12_see_11 1 rfl ?_
    refine ev_iload_n dX12_see_12 2 rfl ?_
    refine ev_iload_n dX12_see_13 3 rfl ?_
    obtain ⟨v3, hv3, hf⟩ := lt_elim hf
    have hJv3 : Ev l D cy g K yX12_see cX12_see 4 (some .boolean) (rmd 3 0 0) (MX D cy g K (rmd 3 0 0) Φ) 0 0 M x (L μ1) 22 [(0, vr g 75), (1, vi place), (2, vi cake), (3, vb is0)] [vb v3, vi cake, vi place, vr g 75] := by
      obtain ⟨q5, hq5, hf⟩ := Option.bind_eq_some_iff.mp hf
      refine cl_V1 (As := [vi place, vi cake, vb v3]) (st := []) miX12_sees (tX12_sees hS (hc.w rfl rfl) place cake (b2i v3) μ1 hq5) dX12_see_22 lkX12_357 inX12_sees rfl (hS.lt (hc 75 rfl)) rfl ⟨rfl, rfl⟩ ⟨⟨Nat.le_of_ble_eq_true rfl, Nat.le_of_ble_eq_true rfl⟩, Nat.zero_le _, Nat.zero_le _⟩ (Nat.le_of_ble_eq_true rfl) ?_
      obtain ⟨v6, hv6, hf⟩ := lt_elim hf
      have hJv6 : Ev l D cy g K yX12_see cX12_see 4 (some .boolean) (rmd 3 0 0) (MX D cy g K (rmd 3 0 0) Φ) 0 0 M x (L q5.2) 33 [(0, vr g 75), (1, vi place), (2, vi cake), (3, vb is0)] [vb v6] := by
        obtain rfl := Option.some.inj hf
        exact ev_bret (b := v6) dX12_see_33 rfl ⟨Nat.zero_le _, Nat.zero_le _⟩ hr
      refine ev_ifb_eq 32 dX12_see_25 (by decide) (fun h7 => ?_) (fun h7 => ?_)
      · refine ev_iconst dX12_see_32 ?_
        have e9 : v6 = false := hv6.trans ((if_neg h7))
        subst e9
        exact hJv6
      · refine ev_iconst dX12_see_28 ?_
        refine ev_goto 33 dX12_see_29 (by decide) ?_
        have e9 : v6 = true := hv6.trans ((if_pos h7))
        subst e9
        exact hJv6
    refine ev_ifb_eq 21 dX12_see_14 (by decide) (fun h4 => ?_) (fun h4 => ?_)
    · refine ev_iconst dX12_see_21 ?_
      have e9 : v3 = false := hv3.trans ((if_neg h4))
      subst e9
      exact hJv3
    · refine ev_iconst dX12_see_17 ?_
      refine ev_goto 22 dX12_see_18 (by decide) ?_
      have e9 : v3 = true := hv3.trans ((if_pos h4))
      subst e9
      exact hJv3
theorem tX12_see (hS : Sd M K P L) (hc : CIn P 75 89) (place : Int) (cake : Int) (is0 : Bool) (μ : Mem) {o : Bool × Mem} (hf : fX12_see place cake is0 μ = some o) : Cn l D cy g K K yX12_see cX12_see 4 (some .boolean) (rmd 3 0 0) [vr g 75, vi place, vi cake, vb is0] M x (L μ) (PE (some (vb o.1)) M x (L o.2)) :=
 Cn.of (by decide) (Nat.le_of_ble_eq_true rfl) (eX12_see hS hc place cake is0 μ hf (PE_i _ _ _ _))
def fX12_lies (place : Int) (isUp : Bool) (μ : Mem) : Option (Bool × Mem) :=
  lt (upd2 μ 75 0 0) fun μ1 =>
  lt (if isUp = true then
      true
    else
      false) fun v2 =>
  (fX12_sees place 5 (b2i v2) μ1).bind fun q4 =>
  some ((q4.1, q4.2))
set_option maxRecDepth 4000 in
theorem eX12_lies (hS : Sd M K P L) (hc : CIn P 75 89) (place : Int) (isUp : Bool) (μ : Mem)  {o : Bool × Mem} (hf : fX12_lies place isUp μ = some o) (hr : (fun o : Bool × Mem => Φ (some (vb o.1)) M x (L o.2)) o) : Ev l D cy g K yX12_lies cX12_lies 3 (some .boolean) (rmd 3 0 0) (MX D cy g K (rmd 3 0 0) Φ) 0 0 M x (L μ) 0 [(0, vr g 75), (1, vi place), (2, vb isUp)] [] := by
  unfold fX12_lies at hf
  refine ev_aload_n dX12_lies_0 0 rfl ?_
  refine ev_iconst dX12_lies_1 ?_
  obtain ⟨μ1, hμ1, hf⟩ := lt_elim hf
  refine ev_putI 0 dX12_lies_2 (hS.lt (hc 75 rfl)) rfl ciX12 (by decide) (Or.inl rfl) rfl rfl flX12_1 (hS.up (hc 75 rfl) hμ1) ?_
  refine ev_aload_n dX12_lies_5 0 rfl ?_
  refine ev_iload_n dX12_lies_6 1 rfl ?_
  refine ev_iconst dX12_lies_7 ?_
  refine ev_iload_n dX12_lies_8 2 rfl ?_
  obtain ⟨v2, hv2, hf⟩ := lt_elim hf
  have hJv2 : Ev l D cy g K yX12_lies cX12_lies 3 (some .boolean) (rmd 3 0 0) (MX D cy g K (rmd 3 0 0) Φ) 0 0 M x (L μ1) 17 [(0, vr g 75), (1, vi place), (2, vb isUp)] [vb v2, vi 5, vi place, vr g 75] := by
    obtain ⟨q4, hq4, hf⟩ := Option.bind_eq_some_iff.mp hf
    refine cl_V1 (As := [vi place, vi 5, vb v2]) (st := []) miX12_sees (tX12_sees hS (hc.w rfl rfl) place 5 (b2i v2) μ1 hq4) dX12_lies_17 lkX12_357 inX12_sees rfl (hS.lt (hc 75 rfl)) rfl ⟨rfl, rfl⟩ ⟨⟨Nat.le_of_ble_eq_true rfl, Nat.le_of_ble_eq_true rfl⟩, Nat.zero_le _, Nat.zero_le _⟩ (Nat.le_of_ble_eq_true rfl) ?_
    obtain rfl := Option.some.inj hf
    exact ev_bret (b := q4.1) dX12_lies_20 rfl ⟨Nat.zero_le _, Nat.zero_le _⟩ hr
  refine ev_ifb_eq 16 dX12_lies_9 (by decide) (fun h3 => ?_) (fun h3 => ?_)
  · refine ev_iconst dX12_lies_16 ?_
    have e9 : v2 = false := hv2.trans ((if_neg h3))
    subst e9
    exact hJv2
  · refine ev_iconst dX12_lies_12 ?_
    refine ev_goto 17 dX12_lies_13 (by decide) ?_
    have e9 : v2 = true := hv2.trans ((if_pos h3))
    subst e9
    exact hJv2
theorem tX12_lies (hS : Sd M K P L) (hc : CIn P 75 89) (place : Int) (isUp : Bool) (μ : Mem) {o : Bool × Mem} (hf : fX12_lies place isUp μ = some o) : Cn l D cy g K K yX12_lies cX12_lies 3 (some .boolean) (rmd 3 0 0) [vr g 75, vi place, vb isUp] M x (L μ) (PE (some (vb o.1)) M x (L o.2)) :=
 Cn.of (by decide) (Nat.le_of_ble_eq_true rfl) (eX12_lies hS hc place isUp μ hf (PE_i _ _ _ _))
def fX12_isAsSeen_j73 (v20 : Bool) (v21 : Int) (v22 : Int) (w23 : Int) (μ : Mem) : Option ((Bool × Int) ⊕ (Bool)) :=
  if v20 = true then
    gd (0 ≤ w32 (v22 + 2) ∧ w32 (v22 + 2) < 588) <|
    lt (if w32 (μ 88 (w32 (v22 + 2)).toNat) = w32 1 then
        true
      else
        false) fun v26 =>
    lt (if w32 w23 = w32 (b2i v26) then
        true
      else
        false) fun v28 =>
    some (.inl (v28, (v21 + 1)))
  else
    some (.inl (false, (v21 + 1)))
set_option maxRecDepth 4000 in
theorem tX12_isAsSeen_j73 (hS : Sd M K P L) (hc : CIn P 75 92) (v20 : Bool) (v21 : Int) (v22 : Int) (w23 : Int) (μ : Mem)  {o : (Bool × Int) ⊕ (Bool)} (hf : fX12_isAsSeen_j73 v20 v21 v22 w23 μ = some o) (hr : (Sum.elim (fun s : Bool × Int => Ev l D cy g K yX12_isAsSeen cX12_isAsSeen 6 (some .boolean) (rmd 1 0 0) (MX D cy g K (rmd 1 0 0) Φ) 0 0 M x (L μ) 4 [(0, vr g 75), (1, vb s.1), (2, vi s.2)] []) (fun e : Bool => Ev l D cy g K yX12_isAsSeen cX12_isAsSeen 6 (some .boolean) (rmd 1 0 0) (MX D cy g K (rmd 1 0 0) Φ) 0 0 M x (L μ) 113 [(1, vb e)] [])) o) : Ev l D cy g K yX12_isAsSeen cX12_isAsSeen 6 (some .boolean) (rmd 1 0 0) (MX D cy g K (rmd 1 0 0) Φ) 0 0 M x (L μ) 73 [(0, vr g 75), (1, vb v20), (2, vi v21), (3, vi v22)] [vi w23] := by
  unfold fX12_isAsSeen_j73 at hf
  refine ev_istore (al2 := [(5, vi w23), (0, vr g 75), (1, vb v20), (2, vi v21), (3, vi v22)]) dX12_isAsSeen_73 (by decide) rfl ?_
  refine ev_iload_n dX12_isAsSeen_75 2 rfl ?_
  refine ev_ifb_eq 105 dX12_isAsSeen_76 (by decide) (fun h24 => ?_) (fun h24 => ?_)
  · rw [if_neg h24] at hf
    refine ev_iconst dX12_isAsSeen_105 ?_
    refine ev_istore_n (al2 := [(1, vi 0), (5, vi w23), (0, vr g 75), (2, vi v21), (3, vi v22)]) dX12_isAsSeen_106 1 rfl (by decide) rfl ?_
    refine ev_iinc (al2 := [(2, vi (v21 + 1)), (1, vi 0), (5, vi w23), (0, vr g 75), (3, vi v22)]) dX12_isAsSeen_107 3 rfl (by decide) rfl ?_
    refine ev_goto 4 dX12_isAsSeen_110 (by decide) ?_
    obtain rfl := Option.some.inj hf
    refine ev_sub [3, 1, 0] rfl ?_
    exact hr
  · rw [if_pos h24] at hf
    refine ev_iload dX12_isAsSeen_79 0 rfl ?_
    refine ev_aload_n dX12_isAsSeen_81 1 rfl ?_
    refine ev_getK 19 dX12_isAsSeen_82 (hS.lt (hc 75 rfl)) rfl (hS.K1 (hc 75 rfl) rfl) ciX12 (by decide) rfl flX12_94 ?_
    refine ev_iload_n dX12_isAsSeen_85 4 rfl ?_
    refine ev_iconst dX12_isAsSeen_86 ?_
    refine ev_iadd dX12_isAsSeen_87 ?_
    obtain ⟨g25, hf⟩ := gd_elim hf
    refine ev_iald dX12_isAsSeen_88 (hS.lt (hc 88 rfl)) rfl (hS.mem _ (hc 88 rfl)) g25 ?_
    refine ev_iconst dX12_isAsSeen_89 ?_
    obtain ⟨v26, hv26, hf⟩ := lt_elim hf
    have hJv26 : Ev l D cy g K yX12_isAsSeen cX12_isAsSeen 6 (some .boolean) (rmd 1 0 0) (MX D cy g K (rmd 1 0 0) Φ) 0 0 M x (L μ) 98 [(5, vi w23), (0, vr g 75), (1, vb v20), (2, vi v21), (3, vi v22)] [vb v26, vi w23] := by
      obtain ⟨v28, hv28, hf⟩ := lt_elim hf
      have hJv28 : Ev l D cy g K yX12_isAsSeen cX12_isAsSeen 6 (some .boolean) (rmd 1 0 0) (MX D cy g K (rmd 1 0 0) Φ) 0 0 M x (L μ) 106 [(5, vi w23), (0, vr g 75), (1, vb v20), (2, vi v21), (3, vi v22)] [vb v28] := by
        refine ev_istore_n (al2 := [(1, vb v28), (5, vi w23), (0, vr g 75), (2, vi v21), (3, vi v22)]) dX12_isAsSeen_106 1 rfl (by decide) rfl ?_
        refine ev_iinc (al2 := [(2, vi (v21 + 1)), (1, vb v28), (5, vi w23), (0, vr g 75), (3, vi v22)]) dX12_isAsSeen_107 3 rfl (by decide) rfl ?_
        refine ev_goto 4 dX12_isAsSeen_110 (by decide) ?_
        obtain rfl := Option.some.inj hf
        refine ev_sub [3, 1, 0] rfl ?_
        exact hr
      refine ev_icmp_ne 105 dX12_isAsSeen_98 (by decide) (fun h29 => ?_) (fun h29 => ?_)
      · refine ev_iconst dX12_isAsSeen_105 ?_
        have e9 : v28 = false := hv28.trans ((if_neg h29))
        subst e9
        exact hJv28
      · refine ev_iconst dX12_isAsSeen_101 ?_
        refine ev_goto 106 dX12_isAsSeen_102 (by decide) ?_
        have e9 : v28 = true := hv28.trans ((if_pos h29))
        subst e9
        exact hJv28
    refine ev_icmp_ne 97 dX12_isAsSeen_90 (by decide) (fun h27 => ?_) (fun h27 => ?_)
    · refine ev_iconst dX12_isAsSeen_97 ?_
      have e9 : v26 = false := hv26.trans ((if_neg h27))
      subst e9
      exact hJv26
    · refine ev_iconst dX12_isAsSeen_93 ?_
      refine ev_goto 98 dX12_isAsSeen_94 (by decide) ?_
      have e9 : v26 = true := hv26.trans ((if_pos h27))
      subst e9
      exact hJv26
def fX12_isAsSeen_b4 (v1 : Bool) (v2 : Int) (μ : Mem) : Option ((Bool × Int) ⊕ (Bool)) :=
  if w32 v2 < w32 (μ 88 3) then
    lt (4 + (3 * v2)) fun v4 =>
    gd (0 ≤ w32 v4 ∧ w32 v4 < 588) <|
    gd (0 ≤ w32 (μ 88 (w32 v4).toNat) ∧ w32 (μ 88 (w32 v4).toNat) < 5) <|
    lt (μ 90 (w32 (μ 88 (w32 v4).toNat)).toNat) fun v7 =>
    gd (0 ≤ w32 (v4 + 1) ∧ w32 (v4 + 1) < 588) <|
    if w32 (μ 88 (w32 (v4 + 1)).toNat) = w32 5 then
      gd (0 ≤ w32 v7 ∧ w32 v7 < 5) <|
      fX12_isAsSeen_j73 v1 v2 v4 (b2i ((μ 91 (w32 v7).toNat) != 0)) μ
    else
      gd (0 ≤ w32 (v4 + 1) ∧ w32 (v4 + 1) < 588) <|
      lt (if w32 v7 = w32 (μ 88 (w32 (v4 + 1)).toNat) then
          true
        else
          false) fun v11 =>
      if v1 = true then
        gd (0 ≤ w32 (v4 + 2) ∧ w32 (v4 + 2) < 588) <|
        lt (if w32 (μ 88 (w32 (v4 + 2)).toNat) = w32 1 then
            true
          else
            false) fun v15 =>
        lt (if w32 (b2i v11) = w32 (b2i v15) then
            true
          else
            false) fun v17 =>
        some (.inl (v17, (v2 + 1)))
      else
        some (.inl (false, (v2 + 1)))
  else
    some (.inr v1)
set_option maxRecDepth 4000 in
theorem tX12_isAsSeen_b4 (hS : Sd M K P L) (hc : CIn P 75 92) (v1 : Bool) (v2 : Int) (μ : Mem)  {o : (Bool × Int) ⊕ (Bool)} (hf : fX12_isAsSeen_b4 v1 v2 μ = some o) (hr : (Sum.elim (fun s : Bool × Int => Ev l D cy g K yX12_isAsSeen cX12_isAsSeen 6 (some .boolean) (rmd 1 0 0) (MX D cy g K (rmd 1 0 0) Φ) 0 0 M x (L μ) 4 [(0, vr g 75), (1, vb s.1), (2, vi s.2)] []) (fun e : Bool => Ev l D cy g K yX12_isAsSeen cX12_isAsSeen 6 (some .boolean) (rmd 1 0 0) (MX D cy g K (rmd 1 0 0) Φ) 0 0 M x (L μ) 113 [(1, vb e)] [])) o) : Ev l D cy g K yX12_isAsSeen cX12_isAsSeen 6 (some .boolean) (rmd 1 0 0) (MX D cy g K (rmd 1 0 0) Φ) 0 0 M x (L μ) 4 [(0, vr g 75), (1, vb v1), (2, vi v2)] [] := by
  unfold fX12_isAsSeen_b4 at hf
  refine ev_iload_n dX12_isAsSeen_4 2 rfl ?_
  refine ev_aload_n dX12_isAsSeen_5 0 rfl ?_
  refine ev_getK 19 dX12_isAsSeen_6 (hS.lt (hc 75 rfl)) rfl (hS.K1 (hc 75 rfl) rfl) ciX12 (by decide) rfl flX12_94 ?_
  refine ev_iconst dX12_isAsSeen_9 ?_
  refine ev_iald dX12_isAsSeen_10 (hS.lt (hc 88 rfl)) rfl (hS.mem _ (hc 88 rfl)) ⟨by decide, by decide⟩ ?_
  refine ev_rn (w := vi (μ 88 3)) (by rw [show (w32 3).toNat = 3 from by decide]) ?_
  refine ev_icmp_ge 113 dX12_isAsSeen_11 (by decide) (fun h3 => ?_) (fun h3 => ?_)
  · rw [if_neg h3] at hf
    obtain rfl := Option.some.inj hf
    refine ev_sub [1] rfl ?_
    exact hr
  · rw [if_pos h3] at hf
    refine ev_iconst dX12_isAsSeen_14 ?_
    refine ev_iconst dX12_isAsSeen_15 ?_
    refine ev_iload_n dX12_isAsSeen_16 2 rfl ?_
    refine ev_imul dX12_isAsSeen_17 ?_
    refine ev_iadd dX12_isAsSeen_18 ?_
    obtain ⟨v4, hv4, hf⟩ := lt_elim hf
    refine ev_rni hv4 ?_
    refine ev_istore_n (al2 := [(3, vi v4), (0, vr g 75), (1, vb v1), (2, vi v2)]) dX12_isAsSeen_19 3 rfl (by decide) rfl ?_
    refine ev_aload_n dX12_isAsSeen_20 1 rfl ?_
    refine ev_getK 23 dX12_isAsSeen_21 (hS.lt (hc 75 rfl)) rfl (hS.K1 (hc 75 rfl) rfl) ciX12 (by decide) rfl flX12_101 ?_
    refine ev_aload_n dX12_isAsSeen_24 1 rfl ?_
    refine ev_getK 19 dX12_isAsSeen_25 (hS.lt (hc 75 rfl)) rfl (hS.K1 (hc 75 rfl) rfl) ciX12 (by decide) rfl flX12_94 ?_
    refine ev_iload_n dX12_isAsSeen_28 0 rfl ?_
    obtain ⟨g5, hf⟩ := gd_elim hf
    refine ev_iald dX12_isAsSeen_29 (hS.lt (hc 88 rfl)) rfl (hS.mem _ (hc 88 rfl)) g5 ?_
    obtain ⟨g6, hf⟩ := gd_elim hf
    refine ev_iald dX12_isAsSeen_30 (hS.lt (hc 90 rfl)) rfl (hS.mem _ (hc 90 rfl)) g6 ?_
    obtain ⟨v7, hv7, hf⟩ := lt_elim hf
    refine ev_rni hv7 ?_
    refine ev_istore (al2 := [(4, vi v7), (3, vi v4), (0, vr g 75), (1, vb v1), (2, vi v2)]) dX12_isAsSeen_31 (by decide) rfl ?_
    refine ev_aload_n dX12_isAsSeen_33 2 rfl ?_
    refine ev_getK 19 dX12_isAsSeen_34 (hS.lt (hc 75 rfl)) rfl (hS.K1 (hc 75 rfl) rfl) ciX12 (by decide) rfl flX12_94 ?_
    refine ev_iload_n dX12_isAsSeen_37 1 rfl ?_
    refine ev_iconst dX12_isAsSeen_38 ?_
    refine ev_iadd dX12_isAsSeen_39 ?_
    obtain ⟨g8, hf⟩ := gd_elim hf
    refine ev_iald dX12_isAsSeen_40 (hS.lt (hc 88 rfl)) rfl (hS.mem _ (hc 88 rfl)) g8 ?_
    refine ev_iconst dX12_isAsSeen_41 ?_
    refine ev_icmp_ne 55 dX12_isAsSeen_42 (by decide) (fun h9 => ?_) (fun h9 => ?_)
    · rw [if_neg h9] at hf
      refine ev_iload dX12_isAsSeen_55 0 rfl ?_
      refine ev_aload_n dX12_isAsSeen_57 2 rfl ?_
      refine ev_getK 19 dX12_isAsSeen_58 (hS.lt (hc 75 rfl)) rfl (hS.K1 (hc 75 rfl) rfl) ciX12 (by decide) rfl flX12_94 ?_
      refine ev_iload_n dX12_isAsSeen_61 1 rfl ?_
      refine ev_iconst dX12_isAsSeen_62 ?_
      refine ev_iadd dX12_isAsSeen_63 ?_
      obtain ⟨g10, hf⟩ := gd_elim hf
      refine ev_iald dX12_isAsSeen_64 (hS.lt (hc 88 rfl)) rfl (hS.mem _ (hc 88 rfl)) g10 ?_
      obtain ⟨v11, hv11, hf⟩ := lt_elim hf
      have hJv11 : Ev l D cy g K yX12_isAsSeen cX12_isAsSeen 6 (some .boolean) (rmd 1 0 0) (MX D cy g K (rmd 1 0 0) Φ) 0 0 M x (L μ) 73 [(4, vi v7), (3, vi v4), (0, vr g 75), (1, vb v1), (2, vi v2)] [vb v11] := by
        refine ev_istore (al2 := [(5, vb v11), (4, vi v7), (3, vi v4), (0, vr g 75), (1, vb v1), (2, vi v2)]) dX12_isAsSeen_73 (by decide) rfl ?_
        refine ev_iload_n dX12_isAsSeen_75 4 rfl ?_
        refine ev_ifb_eq 105 dX12_isAsSeen_76 (by decide) (fun h13 => ?_) (fun h13 => ?_)
        · rw [if_neg h13] at hf
          refine ev_iconst dX12_isAsSeen_105 ?_
          refine ev_istore_n (al2 := [(1, vi 0), (5, vb v11), (4, vi v7), (3, vi v4), (0, vr g 75), (2, vi v2)]) dX12_isAsSeen_106 1 rfl (by decide) rfl ?_
          refine ev_iinc (al2 := [(2, vi (v2 + 1)), (1, vi 0), (5, vb v11), (4, vi v7), (3, vi v4), (0, vr g 75)]) dX12_isAsSeen_107 5 rfl (by decide) rfl ?_
          refine ev_goto 4 dX12_isAsSeen_110 (by decide) ?_
          obtain rfl := Option.some.inj hf
          refine ev_sub [5, 1, 0] rfl ?_
          exact hr
        · rw [if_pos h13] at hf
          refine ev_iload dX12_isAsSeen_79 0 rfl ?_
          refine ev_aload_n dX12_isAsSeen_81 3 rfl ?_
          refine ev_getK 19 dX12_isAsSeen_82 (hS.lt (hc 75 rfl)) rfl (hS.K1 (hc 75 rfl) rfl) ciX12 (by decide) rfl flX12_94 ?_
          refine ev_iload_n dX12_isAsSeen_85 2 rfl ?_
          refine ev_iconst dX12_isAsSeen_86 ?_
          refine ev_iadd dX12_isAsSeen_87 ?_
          obtain ⟨g14, hf⟩ := gd_elim hf
          refine ev_iald dX12_isAsSeen_88 (hS.lt (hc 88 rfl)) rfl (hS.mem _ (hc 88 rfl)) g14 ?_
          refine ev_iconst dX12_isAsSeen_89 ?_
          obtain ⟨v15, hv15, hf⟩ := lt_elim hf
          have hJv15 : Ev l D cy g K yX12_isAsSeen cX12_isAsSeen 6 (some .boolean) (rmd 1 0 0) (MX D cy g K (rmd 1 0 0) Φ) 0 0 M x (L μ) 98 [(5, vb v11), (4, vi v7), (3, vi v4), (0, vr g 75), (1, vb v1), (2, vi v2)] [vb v15, vb v11] := by
            obtain ⟨v17, hv17, hf⟩ := lt_elim hf
            have hJv17 : Ev l D cy g K yX12_isAsSeen cX12_isAsSeen 6 (some .boolean) (rmd 1 0 0) (MX D cy g K (rmd 1 0 0) Φ) 0 0 M x (L μ) 106 [(5, vb v11), (4, vi v7), (3, vi v4), (0, vr g 75), (1, vb v1), (2, vi v2)] [vb v17] := by
              refine ev_istore_n (al2 := [(1, vb v17), (5, vb v11), (4, vi v7), (3, vi v4), (0, vr g 75), (2, vi v2)]) dX12_isAsSeen_106 1 rfl (by decide) rfl ?_
              refine ev_iinc (al2 := [(2, vi (v2 + 1)), (1, vb v17), (5, vb v11), (4, vi v7), (3, vi v4), (0, vr g 75)]) dX12_isAsSeen_107 5 rfl (by decide) rfl ?_
              refine ev_goto 4 dX12_isAsSeen_110 (by decide) ?_
              obtain rfl := Option.some.inj hf
              refine ev_sub [5, 1, 0] rfl ?_
              exact hr
            refine ev_icmp_ne 105 dX12_isAsSeen_98 (by decide) (fun h18 => ?_) (fun h18 => ?_)
            · refine ev_iconst dX12_isAsSeen_105 ?_
              have e9 : v17 = false := hv17.trans ((if_neg h18))
              subst e9
              exact hJv17
            · refine ev_iconst dX12_isAsSeen_101 ?_
              refine ev_goto 106 dX12_isAsSeen_102 (by decide) ?_
              have e9 : v17 = true := hv17.trans ((if_pos h18))
              subst e9
              exact hJv17
          refine ev_icmp_ne 97 dX12_isAsSeen_90 (by decide) (fun h16 => ?_) (fun h16 => ?_)
          · refine ev_iconst dX12_isAsSeen_97 ?_
            have e9 : v15 = false := hv15.trans ((if_neg h16))
            subst e9
            exact hJv15
          · refine ev_iconst dX12_isAsSeen_93 ?_
            refine ev_goto 98 dX12_isAsSeen_94 (by decide) ?_
            have e9 : v15 = true := hv15.trans ((if_pos h16))
            subst e9
            exact hJv15
      refine ev_icmp_ne 72 dX12_isAsSeen_65 (by decide) (fun h12 => ?_) (fun h12 => ?_)
      · refine ev_iconst dX12_isAsSeen_72 ?_
        have e9 : v11 = false := hv11.trans ((if_neg h12))
        subst e9
        exact hJv11
      · refine ev_iconst dX12_isAsSeen_68 ?_
        refine ev_goto 73 dX12_isAsSeen_69 (by decide) ?_
        have e9 : v11 = true := hv11.trans ((if_pos h12))
        subst e9
        exact hJv11
    · rw [if_pos h9] at hf
      refine ev_aload_n dX12_isAsSeen_45 2 rfl ?_
      refine ev_getK 24 dX12_isAsSeen_46 (hS.lt (hc 75 rfl)) rfl (hS.K1 (hc 75 rfl) rfl) ciX12 (by decide) rfl flX12_104 ?_
      refine ev_iload dX12_isAsSeen_49 0 rfl ?_
      obtain ⟨g19, hf⟩ := gd_elim hf
      refine ev_zald dX12_isAsSeen_51 (hS.lt (hc 91 rfl)) rfl (hS.mem _ (hc 91 rfl)) g19 ?_
      refine ev_goto 73 dX12_isAsSeen_52 (by decide) ?_
      refine ev_sub [2, 3, 4, 1] rfl ?_
      exact tX12_isAsSeen_j73 hS hc v1 v2 v4 (b2i ((μ 91 (w32 v7).toNat) != 0)) μ hf hr
def fX12_isAsSeen  (μ : Mem) : Option (Bool) :=
  (loopN (fun s => fX12_isAsSeen_b4 s.1 s.2 μ) FU (true, 0)).bind fun q30 =>
  some (q30)
set_option maxRecDepth 4000 in
theorem eX12_isAsSeen (hS : Sd M K P L) (hc : CIn P 75 92)  (μ : Mem)  {o : Bool} (hf : fX12_isAsSeen  μ = some o) (hr : (fun o : Bool => Φ (some (vb o)) M x (L μ)) o) : Ev l D cy g K yX12_isAsSeen cX12_isAsSeen 6 (some .boolean) (rmd 1 0 0) (MX D cy g K (rmd 1 0 0) Φ) 0 0 M x (L μ) 0 [(0, vr g 75)] [] := by
  unfold fX12_isAsSeen at hf
  refine ev_iconst dX12_isAsSeen_0 ?_
  refine ev_istore_n (al2 := [(1, vi 1), (0, vr g 75)]) dX12_isAsSeen_1 1 rfl (by decide) rfl ?_
  refine ev_iconst dX12_isAsSeen_2 ?_
  refine ev_istore_n (al2 := [(2, vi 0), (1, vi 1), (0, vr g 75)]) dX12_isAsSeen_3 2 rfl (by decide) rfl ?_
  obtain ⟨q30, hq30, hf⟩ := Option.bind_eq_some_iff.mp hf
  refine ev_sub [2, 1, 0] rfl ?_
  refine loop_ev (H := (fun s : Bool × Int => Ev l D cy g K yX12_isAsSeen cX12_isAsSeen 6 (some .boolean) (rmd 1 0 0) (MX D cy g K (rmd 1 0 0) Φ) 0 0 M x (L μ) 4 [(0, vr g 75), (1, vb s.1), (2, vi s.2)] [])) (Hx := (fun e : Bool => Ev l D cy g K yX12_isAsSeen cX12_isAsSeen 6 (some .boolean) (rmd 1 0 0) (MX D cy g K (rmd 1 0 0) Φ) 0 0 M x (L μ) 113 [(1, vb e)] [])) (fun s o hb hr => tX12_isAsSeen_b4 hS hc s.1 s.2 μ hb hr) FU _ _ hq30 ?_
  show Ev l D cy g K yX12_isAsSeen cX12_isAsSeen 6 (some .boolean) (rmd 1 0 0) (MX D cy g K (rmd 1 0 0) Φ) 0 0 M x (L μ) 113 [(1, vb q30)] []
  refine ev_iload_n dX12_isAsSeen_113 0 rfl ?_
  obtain rfl := Option.some.inj hf
  exact ev_bret (b := q30) dX12_isAsSeen_114 rfl ⟨Nat.zero_le _, Nat.zero_le _⟩ hr
theorem tX12_isAsSeen (hS : Sd M K P L) (hc : CIn P 75 92) (μ : Mem) {o : Bool} (hf : fX12_isAsSeen μ = some o) : Cn l D cy g K K yX12_isAsSeen cX12_isAsSeen 6 (some .boolean) (rmd 1 0 0) [vr g 75] M x (L μ) (PE (some (vb o)) M x (L μ)) :=
 Cn.of (by decide) (Nat.le_of_ble_eq_true rfl) (eX12_isAsSeen hS hc μ hf (PE_i _ _ _ _))
def fX12_talliesNow_b2 (v1 : Int) (μ : Mem) : Option ((Int × Mem) ⊕ (Mem)) :=
  if w32 v1 < w32 50 then
    gd (0 ≤ w32 v1 ∧ w32 v1 < 50) <|
    lt (upd2 μ 95 ((w32 v1).toNat) 0) fun μ4 =>
    some (.inl ((v1 + 1), μ4))
  else
    some (.inr μ)
set_option maxRecDepth 4000 in
theorem tX12_talliesNow_b2 (hS : Sd M K P L) (hc : CIn P 75 96) (v1 : Int) (μ : Mem)  {o : (Int × Mem) ⊕ (Mem)} (hf : fX12_talliesNow_b2 v1 μ = some o) (hr : (Sum.elim (fun s : Int × Mem => Ev l D cy g K yX12_talliesNow cX12_talliesNow 4 (some .int) (rmd 5 0 0) (MX D cy g K (rmd 5 0 0) Φ) 0 0 M x (L s.2) 2 [(0, vr g 75), (1, vi s.1)] []) (fun e : Mem => Ev l D cy g K yX12_talliesNow cX12_talliesNow 4 (some .int) (rmd 5 0 0) (MX D cy g K (rmd 5 0 0) Φ) 0 0 M x (L e) 21 [(0, vr g 75)] [])) o) : Ev l D cy g K yX12_talliesNow cX12_talliesNow 4 (some .int) (rmd 5 0 0) (MX D cy g K (rmd 5 0 0) Φ) 0 0 M x (L μ) 2 [(0, vr g 75), (1, vi v1)] [] := by
  unfold fX12_talliesNow_b2 at hf
  refine ev_iload_n dX12_talliesNow_2 1 rfl ?_
  refine ev_bipush dX12_talliesNow_3 (by decide) ?_
  refine ev_icmp_ge 21 dX12_talliesNow_5 (by decide) (fun h2 => ?_) (fun h2 => ?_)
  · rw [if_neg h2] at hf
    obtain rfl := Option.some.inj hf
    refine ev_sub [0] rfl ?_
    exact hr
  · rw [if_pos h2] at hf
    refine ev_aload_n dX12_talliesNow_8 0 rfl ?_
    refine ev_getK 29 dX12_talliesNow_9 (hS.lt (hc 75 rfl)) rfl (hS.K1 (hc 75 rfl) rfl) ciX12 (by decide) rfl flX12_116 ?_
    refine ev_iload_n dX12_talliesNow_12 1 rfl ?_
    refine ev_iconst dX12_talliesNow_13 ?_
    obtain ⟨g3, hf⟩ := gd_elim hf
    obtain ⟨μ4, hμ4, hf⟩ := lt_elim hf
    refine ev_iast dX12_talliesNow_14 (hS.lt (hc 95 rfl)) rfl g3 (hS.up (hc 95 rfl) hμ4) ?_
    refine ev_iinc (al2 := [(1, vi (v1 + 1)), (0, vr g 75)]) dX12_talliesNow_15 1 rfl (by decide) rfl ?_
    refine ev_goto 2 dX12_talliesNow_18 (by decide) ?_
    obtain rfl := Option.some.inj hf
    refine ev_sub [1, 0] rfl ?_
    exact hr
def fX12_talliesNow_b50 (c13 : Int) (v7 : Int) (v14 : Int) (μ : Mem) : Option ((Int × Mem) ⊕ (Mem)) :=
  if w32 v14 < w32 (μ 81 0) then
    gd (0 ≤ w32 v14 ∧ w32 v14 < 5) <|
    gd (0 ≤ w32 v14 ∧ w32 v14 < 5) <|
    gd (0 ≤ w32 (μ 90 (w32 v14).toNat) ∧ w32 (μ 90 (w32 v14).toNat) < 5) <|
    lt (if ((μ 91 (w32 (μ 90 (w32 v14).toNat)).toNat) != 0) = true then
        1
      else
        0) fun v19 =>
    gd (0 ≤ w32 (((10 * v14) + (2 * (μ 90 (w32 v14).toNat))) + v19) ∧ w32 (((10 * v14) + (2 * (μ 90 (w32 v14).toNat))) + v19) < 50) <|
    gd (0 ≤ w32 (((10 * v14) + (2 * (μ 90 (w32 v14).toNat))) + v19) ∧ w32 (((10 * v14) + (2 * (μ 90 (w32 v14).toNat))) + v19) < 50) <|
    lt (upd2 μ 95 ((w32 (((10 * v14) + (2 * (μ 90 (w32 v14).toNat))) + v19)).toNat) ((μ 95 (w32 (((10 * v14) + (2 * (μ 90 (w32 v14).toNat))) + v19)).toNat) + 1)) fun μ23 =>
    some (.inl ((v14 + 1), μ23))
  else
    some (.inr μ)
set_option maxRecDepth 4000 in
theorem tX12_talliesNow_b50 (hS : Sd M K P L) (hc : CIn P 75 96) (c13 : Int) (v7 : Int) (v14 : Int) (μ : Mem)  {o : (Int × Mem) ⊕ (Mem)} (hf : fX12_talliesNow_b50 c13 v7 v14 μ = some o) (hr : (Sum.elim (fun s : Int × Mem => Ev l D cy g K yX12_talliesNow cX12_talliesNow 4 (some .int) (rmd 5 0 0) (MX D cy g K (rmd 5 0 0) Φ) 0 0 M x (L s.2) 50 [(0, vr g 75), (1, vi c13), (2, vi v7), (3, vi s.1)] []) (fun e : Mem => Ev l D cy g K yX12_talliesNow cX12_talliesNow 4 (some .int) (rmd 5 0 0) (MX D cy g K (rmd 5 0 0) Φ) 0 0 M x (L e) 106 [(0, vr g 75), (1, vi c13), (2, vi v7)] [])) o) : Ev l D cy g K yX12_talliesNow cX12_talliesNow 4 (some .int) (rmd 5 0 0) (MX D cy g K (rmd 5 0 0) Φ) 0 0 M x (L μ) 50 [(0, vr g 75), (1, vi c13), (2, vi v7), (3, vi v14)] [] := by
  unfold fX12_talliesNow_b50 at hf
  refine ev_iload_n dX12_talliesNow_50 3 rfl ?_
  refine ev_aload_n dX12_talliesNow_51 0 rfl ?_
  refine cl_V1 (As := []) (st := [vi v14]) miX12_cakes (tX12_cakes hS (hc.w rfl rfl) μ (o := (μ 81 0)) rfl) dX12_talliesNow_52 lkX12_209 inX12_cakes rfl (hS.lt (hc 75 rfl)) rfl ⟨rfl, rfl⟩ ⟨⟨Nat.le_of_ble_eq_true rfl, Nat.le_of_ble_eq_true rfl⟩, Nat.zero_le _, Nat.zero_le _⟩ (Nat.le_of_ble_eq_true rfl) ?_
  refine ev_icmp_ge 106 dX12_talliesNow_55 (by decide) (fun h15 => ?_) (fun h15 => ?_)
  · rw [if_neg h15] at hf
    obtain rfl := Option.some.inj hf
    refine ev_sub [0, 1, 2] rfl ?_
    exact hr
  · rw [if_pos h15] at hf
    refine ev_aload_n dX12_talliesNow_58 0 rfl ?_
    refine ev_getK 29 dX12_talliesNow_59 (hS.lt (hc 75 rfl)) rfl (hS.K1 (hc 75 rfl) rfl) ciX12 (by decide) rfl flX12_116 ?_
    refine ev_bipush dX12_talliesNow_62 (by decide) ?_
    refine ev_iload_n dX12_talliesNow_64 3 rfl ?_
    refine ev_imul dX12_talliesNow_65 ?_
    refine ev_iconst dX12_talliesNow_66 ?_
    refine ev_aload_n dX12_talliesNow_67 0 rfl ?_
    refine ev_getK 23 dX12_talliesNow_68 (hS.lt (hc 75 rfl)) rfl (hS.K1 (hc 75 rfl) rfl) ciX12 (by decide) rfl flX12_101 ?_
    refine ev_iload_n dX12_talliesNow_71 3 rfl ?_
    obtain ⟨g16, hf⟩ := gd_elim hf
    refine ev_iald dX12_talliesNow_72 (hS.lt (hc 90 rfl)) rfl (hS.mem _ (hc 90 rfl)) g16 ?_
    refine ev_imul dX12_talliesNow_73 ?_
    refine ev_iadd dX12_talliesNow_74 ?_
    refine ev_aload_n dX12_talliesNow_75 0 rfl ?_
    refine ev_getK 24 dX12_talliesNow_76 (hS.lt (hc 75 rfl)) rfl (hS.K1 (hc 75 rfl) rfl) ciX12 (by decide) rfl flX12_104 ?_
    refine ev_aload_n dX12_talliesNow_79 0 rfl ?_
    refine ev_getK 23 dX12_talliesNow_80 (hS.lt (hc 75 rfl)) rfl (hS.K1 (hc 75 rfl) rfl) ciX12 (by decide) rfl flX12_101 ?_
    refine ev_iload_n dX12_talliesNow_83 3 rfl ?_
    obtain ⟨g17, hf⟩ := gd_elim hf
    refine ev_iald dX12_talliesNow_84 (hS.lt (hc 90 rfl)) rfl (hS.mem _ (hc 90 rfl)) g17 ?_
    obtain ⟨g18, hf⟩ := gd_elim hf
    refine ev_zald dX12_talliesNow_85 (hS.lt (hc 91 rfl)) rfl (hS.mem _ (hc 91 rfl)) g18 ?_
    obtain ⟨v19, hv19, hf⟩ := lt_elim hf
    have hJv19 : Ev l D cy g K yX12_talliesNow cX12_talliesNow 4 (some .int) (rmd 5 0 0) (MX D cy g K (rmd 5 0 0) Φ) 0 0 M x (L μ) 94 [(0, vr g 75), (1, vi c13), (2, vi v7), (3, vi v14)] [vi v19, vi ((10 * v14) + (2 * (μ 90 (w32 v14).toNat))), vr g 95] := by
      refine ev_iadd dX12_talliesNow_94 ?_
      refine ev_dup2 dX12_talliesNow_95 rfl rfl ?_
      obtain ⟨g21, hf⟩ := gd_elim hf
      refine ev_iald dX12_talliesNow_96 (hS.lt (hc 95 rfl)) rfl (hS.mem _ (hc 95 rfl)) g21 ?_
      refine ev_iconst dX12_talliesNow_97 ?_
      refine ev_iadd dX12_talliesNow_98 ?_
      obtain ⟨g22, hf⟩ := gd_elim hf
      obtain ⟨μ23, hμ23, hf⟩ := lt_elim hf
      refine ev_iast dX12_talliesNow_99 (hS.lt (hc 95 rfl)) rfl g22 (hS.up (hc 95 rfl) hμ23) ?_
      refine ev_iinc (al2 := [(3, vi (v14 + 1)), (0, vr g 75), (1, vi c13), (2, vi v7)]) dX12_talliesNow_100 3 rfl (by decide) rfl ?_
      refine ev_goto 50 dX12_talliesNow_103 (by decide) ?_
      obtain rfl := Option.some.inj hf
      refine ev_sub [1, 2, 3, 0] rfl ?_
      exact hr
    refine ev_ifb_eq 93 dX12_talliesNow_86 (by decide) (fun h20 => ?_) (fun h20 => ?_)
    · refine ev_iconst dX12_talliesNow_93 ?_
      have e9 : v19 = 0 := hv19.trans ((if_neg h20))
      subst e9
      exact hJv19
    · refine ev_iconst dX12_talliesNow_89 ?_
      refine ev_goto 94 dX12_talliesNow_90 (by decide) ?_
      have e9 : v19 = 1 := hv19.trans ((if_pos h20))
      subst e9
      exact hJv19
def fX12_talliesNow_b25 (v6 : Int) (v7 : Int) (μ : Mem) : Option ((Int × Int × Mem) ⊕ (Int × Mem)) :=
  (fX12_stacks μ).bind fun v8 =>
  if w32 v7 < w32 v8 then
    (fX12_lays v7 μ).bind fun μ10 =>
    (fX12_isAsSeen μ10).bind fun v11 =>
    if v11 = true then
      (loopN (fun s => fX12_talliesNow_b50 (v6 + 1) v7 s.1 s.2) FU (0, μ10)).bind fun q24 =>
      some (.inl ((v6 + 1), (v7 + 1), q24))
    else
      some (.inl (v6, (v7 + 1), μ10))
  else
    some (.inr (v6, μ))
set_option maxRecDepth 4000 in
theorem tX12_talliesNow_b25 (hS : Sd M K P L) (hc : CIn P 75 96) (v6 : Int) (v7 : Int) (μ : Mem)  {o : (Int × Int × Mem) ⊕ (Int × Mem)} (hf : fX12_talliesNow_b25 v6 v7 μ = some o) (hr : (Sum.elim (fun s : Int × Int × Mem => Ev l D cy g K yX12_talliesNow cX12_talliesNow 4 (some .int) (rmd 5 0 0) (MX D cy g K (rmd 5 0 0) Φ) 0 0 M x (L s.2.2) 25 [(0, vr g 75), (1, vi s.1), (2, vi s.2.1)] []) (fun e : Int × Mem => Ev l D cy g K yX12_talliesNow cX12_talliesNow 4 (some .int) (rmd 5 0 0) (MX D cy g K (rmd 5 0 0) Φ) 0 0 M x (L e.2) 112 [(1, vi e.1)] [])) o) : Ev l D cy g K yX12_talliesNow cX12_talliesNow 4 (some .int) (rmd 5 0 0) (MX D cy g K (rmd 5 0 0) Φ) 0 0 M x (L μ) 25 [(0, vr g 75), (1, vi v6), (2, vi v7)] [] := by
  unfold fX12_talliesNow_b25 at hf
  refine ev_iload_n dX12_talliesNow_25 2 rfl ?_
  refine ev_aload_n dX12_talliesNow_26 0 rfl ?_
  obtain ⟨v8, hv8, hf⟩ := Option.bind_eq_some_iff.mp hf
  refine cl_V1 (As := []) (st := [vi v7]) miX12_stacks (tX12_stacks hS (hc.w rfl rfl) μ hv8) dX12_talliesNow_27 lkX12_294 inX12_stacks rfl (hS.lt (hc 75 rfl)) rfl ⟨rfl, rfl⟩ ⟨⟨Nat.le_of_ble_eq_true rfl, Nat.le_of_ble_eq_true rfl⟩, Nat.zero_le _, Nat.zero_le _⟩ (Nat.le_of_ble_eq_true rfl) ?_
  refine ev_icmp_ge 112 dX12_talliesNow_30 (by decide) (fun h9 => ?_) (fun h9 => ?_)
  · rw [if_neg h9] at hf
    obtain rfl := Option.some.inj hf
    refine ev_sub [1] rfl ?_
    exact hr
  · rw [if_pos h9] at hf
    refine ev_aload_n dX12_talliesNow_33 0 rfl ?_
    refine ev_iload_n dX12_talliesNow_34 2 rfl ?_
    obtain ⟨μ10, hμ10, hf⟩ := Option.bind_eq_some_iff.mp hf
    refine cl_V0 (As := [vi v7]) (st := []) miX12_lays (tX12_lays hS (hc.w rfl rfl) v7 μ hμ10) dX12_talliesNow_35 lkX12_274 inX12_lays rfl (hS.lt (hc 75 rfl)) rfl ⟨rfl, rfl⟩ ⟨⟨Nat.le_of_ble_eq_true rfl, Nat.le_of_ble_eq_true rfl⟩, Nat.zero_le _, Nat.zero_le _⟩ (Nat.le_of_ble_eq_true rfl) ?_
    refine ev_aload_n dX12_talliesNow_38 0 rfl ?_
    obtain ⟨v11, hv11, hf⟩ := Option.bind_eq_some_iff.mp hf
    refine cl_V1 (As := []) (st := []) miX12_isAsSeen (tX12_isAsSeen hS (hc.w rfl rfl) μ10 hv11) dX12_talliesNow_39 lkX12_360 inX12_isAsSeen rfl (hS.lt (hc 75 rfl)) rfl ⟨rfl, rfl⟩ ⟨⟨Nat.le_of_ble_eq_true rfl, Nat.le_of_ble_eq_true rfl⟩, Nat.zero_le _, Nat.zero_le _⟩ (Nat.le_of_ble_eq_true rfl) ?_
    refine ev_ifb_eq 106 dX12_talliesNow_42 (by decide) (fun h12 => ?_) (fun h12 => ?_)
    · rw [if_neg h12] at hf
      refine ev_iinc (al2 := [(2, vi (v7 + 1)), (0, vr g 75), (1, vi v6)]) dX12_talliesNow_106 2 rfl (by decide) rfl ?_
      refine ev_goto 25 dX12_talliesNow_109 (by decide) ?_
      obtain rfl := Option.some.inj hf
      refine ev_sub [1, 2, 0] rfl ?_
      exact hr
    · rw [if_pos h12] at hf
      refine ev_iinc (al2 := [(1, vi (v6 + 1)), (0, vr g 75), (2, vi v7)]) dX12_talliesNow_45 1 rfl (by decide) rfl ?_
      refine ev_iconst dX12_talliesNow_48 ?_
      refine ev_istore_n (al2 := [(3, vi 0), (1, vi (v6 + 1)), (0, vr g 75), (2, vi v7)]) dX12_talliesNow_49 3 rfl (by decide) rfl ?_
      obtain ⟨q24, hq24, hf⟩ := Option.bind_eq_some_iff.mp hf
      refine ev_sub [2, 1, 3, 0] rfl ?_
      refine loop_ev (H := (fun s : Int × Mem => Ev l D cy g K yX12_talliesNow cX12_talliesNow 4 (some .int) (rmd 5 0 0) (MX D cy g K (rmd 5 0 0) Φ) 0 0 M x (L s.2) 50 [(0, vr g 75), (1, vi (v6 + 1)), (2, vi v7), (3, vi s.1)] [])) (Hx := (fun e : Mem => Ev l D cy g K yX12_talliesNow cX12_talliesNow 4 (some .int) (rmd 5 0 0) (MX D cy g K (rmd 5 0 0) Φ) 0 0 M x (L e) 106 [(0, vr g 75), (1, vi (v6 + 1)), (2, vi v7)] [])) (fun s o hb hr => tX12_talliesNow_b50 hS hc (v6 + 1) v7 s.1 s.2 hb hr) FU _ _ hq24 ?_
      show Ev l D cy g K yX12_talliesNow cX12_talliesNow 4 (some .int) (rmd 5 0 0) (MX D cy g K (rmd 5 0 0) Φ) 0 0 M x (L q24) 106 [(0, vr g 75), (1, vi (v6 + 1)), (2, vi v7)] []
      refine ev_iinc (al2 := [(2, vi (v7 + 1)), (0, vr g 75), (1, vi (v6 + 1))]) dX12_talliesNow_106 2 rfl (by decide) rfl ?_
      refine ev_goto 25 dX12_talliesNow_109 (by decide) ?_
      obtain rfl := Option.some.inj hf
      refine ev_sub [1, 2, 0] rfl ?_
      exact hr
def fX12_talliesNow  (μ : Mem) : Option (Int × Mem) :=
  (loopN (fun s => fX12_talliesNow_b2 s.1 s.2) FU (0, μ)).bind fun q5 =>
  (loopN (fun s => fX12_talliesNow_b25 s.1 s.2.1 s.2.2) FU (0, 0, q5)).bind fun q25 =>
  some ((q25.1, q25.2))
set_option maxRecDepth 4000 in
theorem eX12_talliesNow (hS : Sd M K P L) (hc : CIn P 75 96)  (μ : Mem)  {o : Int × Mem} (hf : fX12_talliesNow  μ = some o) (hr : (fun o : Int × Mem => Φ (some (vi o.1)) M x (L o.2)) o) : Ev l D cy g K yX12_talliesNow cX12_talliesNow 4 (some .int) (rmd 5 0 0) (MX D cy g K (rmd 5 0 0) Φ) 0 0 M x (L μ) 0 [(0, vr g 75)] [] := by
  unfold fX12_talliesNow at hf
  refine ev_iconst dX12_talliesNow_0 ?_
  refine ev_istore_n (al2 := [(1, vi 0), (0, vr g 75)]) dX12_talliesNow_1 1 rfl (by decide) rfl ?_
  obtain ⟨q5, hq5, hf⟩ := Option.bind_eq_some_iff.mp hf
  refine ev_sub [1, 0] rfl ?_
  refine loop_ev (H := (fun s : Int × Mem => Ev l D cy g K yX12_talliesNow cX12_talliesNow 4 (some .int) (rmd 5 0 0) (MX D cy g K (rmd 5 0 0) Φ) 0 0 M x (L s.2) 2 [(0, vr g 75), (1, vi s.1)] [])) (Hx := (fun e : Mem => Ev l D cy g K yX12_talliesNow cX12_talliesNow 4 (some .int) (rmd 5 0 0) (MX D cy g K (rmd 5 0 0) Φ) 0 0 M x (L e) 21 [(0, vr g 75)] [])) (fun s o hb hr => tX12_talliesNow_b2 hS hc s.1 s.2 hb hr) FU _ _ hq5 ?_
  show Ev l D cy g K yX12_talliesNow cX12_talliesNow 4 (some .int) (rmd 5 0 0) (MX D cy g K (rmd 5 0 0) Φ) 0 0 M x (L q5) 21 [(0, vr g 75)] []
  refine ev_iconst dX12_talliesNow_21 ?_
  refine ev_istore_n (al2 := [(1, vi 0), (0, vr g 75)]) dX12_talliesNow_22 1 rfl (by decide) rfl ?_
  refine ev_iconst dX12_talliesNow_23 ?_
  refine ev_istore_n (al2 := [(2, vi 0), (1, vi 0), (0, vr g 75)]) dX12_talliesNow_24 2 rfl (by decide) rfl ?_
  obtain ⟨q25, hq25, hf⟩ := Option.bind_eq_some_iff.mp hf
  refine ev_sub [2, 1, 0] rfl ?_
  refine loop_ev (H := (fun s : Int × Int × Mem => Ev l D cy g K yX12_talliesNow cX12_talliesNow 4 (some .int) (rmd 5 0 0) (MX D cy g K (rmd 5 0 0) Φ) 0 0 M x (L s.2.2) 25 [(0, vr g 75), (1, vi s.1), (2, vi s.2.1)] [])) (Hx := (fun e : Int × Mem => Ev l D cy g K yX12_talliesNow cX12_talliesNow 4 (some .int) (rmd 5 0 0) (MX D cy g K (rmd 5 0 0) Φ) 0 0 M x (L e.2) 112 [(1, vi e.1)] [])) (fun s o hb hr => tX12_talliesNow_b25 hS hc s.1 s.2.1 s.2.2 hb hr) FU _ _ hq25 ?_
  show Ev l D cy g K yX12_talliesNow cX12_talliesNow 4 (some .int) (rmd 5 0 0) (MX D cy g K (rmd 5 0 0) Φ) 0 0 M x (L q25.2) 112 [(1, vi q25.1)] []
  refine ev_iload_n dX12_talliesNow_112 0 rfl ?_
  obtain rfl := Option.some.inj hf
  exact ev_iret dX12_talliesNow_113 rfl ⟨Nat.zero_le _, Nat.zero_le _⟩ hr
theorem tX12_talliesNow (hS : Sd M K P L) (hc : CIn P 75 96) (μ : Mem) {o : Int × Mem} (hf : fX12_talliesNow μ = some o) : Cn l D cy g K K yX12_talliesNow cX12_talliesNow 4 (some .int) (rmd 5 0 0) [vr g 75] M x (L μ) (PE (some (vi o.1)) M x (L o.2)) :=
 Cn.of (by decide) (Nat.le_of_ble_eq_true rfl) (eX12_talliesNow hS hc μ hf (PE_i _ _ _ _))
def fX12_fit  (μ : Mem) : Option (Int × Mem) :=
  lt (upd2 μ 75 0 0) fun μ1 =>
  (fX12_talliesNow μ1).bind fun q2 =>
  some ((q2.1, q2.2))
set_option maxRecDepth 4000 in
theorem eX12_fit (hS : Sd M K P L) (hc : CIn P 75 96)  (μ : Mem)  {o : Int × Mem} (hf : fX12_fit  μ = some o) (hr : (fun o : Int × Mem => Φ (some (vi o.1)) M x (L o.2)) o) : Ev l D cy g K yX12_fit cX12_fit 1 (some .int) (rmd 6 0 0) (MX D cy g K (rmd 6 0 0) Φ) 0 0 M x (L μ) 0 [(0, vr g 75)] [] := by
  unfold fX12_fit at hf
  refine ev_aload_n dX12_fit_0 0 rfl ?_
  refine ev_iconst dX12_fit_1 ?_
  obtain ⟨μ1, hμ1, hf⟩ := lt_elim hf
  refine ev_putI 0 dX12_fit_2 (hS.lt (hc 75 rfl)) rfl ciX12 (by decide) (Or.inl rfl) rfl rfl flX12_1 (hS.up (hc 75 rfl) hμ1) ?_
  refine ev_aload_n dX12_fit_5 0 rfl ?_
  obtain ⟨q2, hq2, hf⟩ := Option.bind_eq_some_iff.mp hf
  refine cl_V1 (As := []) (st := []) miX12_talliesNow (tX12_talliesNow hS (hc.w rfl rfl) μ1 hq2) dX12_fit_6 lkX12_363 inX12_talliesNow rfl (hS.lt (hc 75 rfl)) rfl ⟨rfl, rfl⟩ ⟨⟨Nat.le_of_ble_eq_true rfl, Nat.le_of_ble_eq_true rfl⟩, Nat.zero_le _, Nat.zero_le _⟩ (Nat.le_of_ble_eq_true rfl) ?_
  obtain rfl := Option.some.inj hf
  exact ev_iret dX12_fit_9 rfl ⟨Nat.zero_le _, Nat.zero_le _⟩ hr
theorem tX12_fit (hS : Sd M K P L) (hc : CIn P 75 96) (μ : Mem) {o : Int × Mem} (hf : fX12_fit μ = some o) : Cn l D cy g K K yX12_fit cX12_fit 1 (some .int) (rmd 6 0 0) [vr g 75] M x (L μ) (PE (some (vi o.1)) M x (L o.2)) :=
 Cn.of (by decide) (Nat.le_of_ble_eq_true rfl) (eX12_fit hS hc μ hf (PE_i _ _ _ _))
def fX12_look_b28 (v3 : Int) (v4 : Int) (v5 : Int) (v7 : Int) (v8 : Int) (μ : Mem) : Option ((Int × Int × Mem) ⊕ (Int × Mem)) :=
  if w32 v8 < w32 10 then
    gd (0 ≤ w32 ((10 * v5) + v8) ∧ w32 ((10 * v5) + v8) < 50) <|
    if w32 (μ 95 (w32 ((10 * v5) + v8)).toNat) ≤ w32 v7 then
      some (.inl (v7, (v8 + 1), μ))
    else
      gd (0 ≤ w32 ((10 * v5) + v8) ∧ w32 ((10 * v5) + v8) < 50) <|
      lt (μ 95 (w32 ((10 * v5) + v8)).toNat) fun v13 =>
      some (.inl (v13, (v8 + 1), μ))
  else
    some (.inr (v7, μ))
set_option maxRecDepth 4000 in
theorem tX12_look_b28 (hS : Sd M K P L) (hc : CIn P 75 96) (v3 : Int) (v4 : Int) (v5 : Int) (v7 : Int) (v8 : Int) (μ : Mem)  {o : (Int × Int × Mem) ⊕ (Int × Mem)} (hf : fX12_look_b28 v3 v4 v5 v7 v8 μ = some o) (hr : (Sum.elim (fun s : Int × Int × Mem => Ev l D cy g K yX12_look cX12_look 6 (some .int) (rmd 6 0 0) (MX D cy g K (rmd 6 0 0) Φ) 0 0 M x (L s.2.2) 28 [(0, vr g 75), (1, vi v3), (2, vi v4), (3, vi v5), (4, vi s.1), (5, vi s.2.1)] []) (fun e : Int × Mem => Ev l D cy g K yX12_look cX12_look 6 (some .int) (rmd 6 0 0) (MX D cy g K (rmd 6 0 0) Φ) 0 0 M x (L e.2) 77 [(0, vr g 75), (1, vi v3), (2, vi v4), (3, vi v5), (4, vi e.1)] [])) o) : Ev l D cy g K yX12_look cX12_look 6 (some .int) (rmd 6 0 0) (MX D cy g K (rmd 6 0 0) Φ) 0 0 M x (L μ) 28 [(0, vr g 75), (1, vi v3), (2, vi v4), (3, vi v5), (4, vi v7), (5, vi v8)] [] := by
  unfold fX12_look_b28 at hf
  refine ev_iload dX12_look_28 5 rfl ?_
  refine ev_bipush dX12_look_30 (by decide) ?_
  refine ev_icmp_ge 77 dX12_look_32 (by decide) (fun h9 => ?_) (fun h9 => ?_)
  · rw [if_neg h9] at hf
    obtain rfl := Option.some.inj hf
    refine ev_sub [0, 1, 2, 3, 4] rfl ?_
    exact hr
  · rw [if_pos h9] at hf
    refine ev_aload_n dX12_look_35 0 rfl ?_
    refine ev_getK 29 dX12_look_36 (hS.lt (hc 75 rfl)) rfl (hS.K1 (hc 75 rfl) rfl) ciX12 (by decide) rfl flX12_116 ?_
    refine ev_bipush dX12_look_39 (by decide) ?_
    refine ev_iload_n dX12_look_41 3 rfl ?_
    refine ev_imul dX12_look_42 ?_
    refine ev_iload dX12_look_43 5 rfl ?_
    refine ev_iadd dX12_look_45 ?_
    obtain ⟨g10, hf⟩ := gd_elim hf
    refine ev_iald dX12_look_46 (hS.lt (hc 95 rfl)) rfl (hS.mem _ (hc 95 rfl)) g10 ?_
    refine ev_iload dX12_look_47 4 rfl ?_
    refine ev_icmp_le 67 dX12_look_49 (by decide) (fun h11 => ?_) (fun h11 => ?_)
    · rw [if_pos h11] at hf
      refine ev_iload dX12_look_67 4 rfl ?_
      refine ev_istore (al2 := [(4, vi v7), (0, vr g 75), (1, vi v3), (2, vi v4), (3, vi v5), (5, vi v8)]) dX12_look_69 (by decide) rfl ?_
      refine ev_iinc (al2 := [(5, vi (v8 + 1)), (4, vi v7), (0, vr g 75), (1, vi v3), (2, vi v4), (3, vi v5)]) dX12_look_71 5 rfl (by decide) rfl ?_
      refine ev_goto 28 dX12_look_74 (by decide) ?_
      obtain rfl := Option.some.inj hf
      refine ev_sub [2, 3, 4, 5, 1, 0] rfl ?_
      exact hr
    · rw [if_neg h11] at hf
      refine ev_aload_n dX12_look_52 0 rfl ?_
      refine ev_getK 29 dX12_look_53 (hS.lt (hc 75 rfl)) rfl (hS.K1 (hc 75 rfl) rfl) ciX12 (by decide) rfl flX12_116 ?_
      refine ev_bipush dX12_look_56 (by decide) ?_
      refine ev_iload_n dX12_look_58 3 rfl ?_
      refine ev_imul dX12_look_59 ?_
      refine ev_iload dX12_look_60 5 rfl ?_
      refine ev_iadd dX12_look_62 ?_
      obtain ⟨g12, hf⟩ := gd_elim hf
      refine ev_iald dX12_look_63 (hS.lt (hc 95 rfl)) rfl (hS.mem _ (hc 95 rfl)) g12 ?_
      refine ev_goto 69 dX12_look_64 (by decide) ?_
      obtain ⟨v13, hv13, hf⟩ := lt_elim hf
      refine ev_rni hv13 ?_
      refine ev_istore (al2 := [(4, vi v13), (0, vr g 75), (1, vi v3), (2, vi v4), (3, vi v5), (5, vi v8)]) dX12_look_69 (by decide) rfl ?_
      refine ev_iinc (al2 := [(5, vi (v8 + 1)), (4, vi v13), (0, vr g 75), (1, vi v3), (2, vi v4), (3, vi v5)]) dX12_look_71 5 rfl (by decide) rfl ?_
      refine ev_goto 28 dX12_look_74 (by decide) ?_
      obtain rfl := Option.some.inj hf
      refine ev_sub [2, 3, 4, 5, 1, 0] rfl ?_
      exact hr
def fX12_look_b14 (v3 : Int) (v4 : Int) (v5 : Int) (μ : Mem) : Option ((Int × Int × Int × Mem) ⊕ (Int × Mem)) :=
  if w32 v5 < w32 (μ 81 0) then
    (loopN (fun s => fX12_look_b28 v3 v4 v5 s.1 s.2.1 s.2.2) FU (0, 0, μ)).bind fun q14 =>
    lt (if w32 q14.1 < w32 v3 then
        v5
      else
        v4) fun v15 =>
    lt (if w32 q14.1 < w32 v3 then
        q14.1
      else
        v3) fun v17 =>
    some (.inl (v17, v15, (v5 + 1), q14.2))
  else
    some (.inr (v4, μ))
set_option maxRecDepth 4000 in
theorem tX12_look_b14 (hS : Sd M K P L) (hc : CIn P 75 96) (v3 : Int) (v4 : Int) (v5 : Int) (μ : Mem)  {o : (Int × Int × Int × Mem) ⊕ (Int × Mem)} (hf : fX12_look_b14 v3 v4 v5 μ = some o) (hr : (Sum.elim (fun s : Int × Int × Int × Mem => Ev l D cy g K yX12_look cX12_look 6 (some .int) (rmd 6 0 0) (MX D cy g K (rmd 6 0 0) Φ) 0 0 M x (L s.2.2.2) 14 [(0, vr g 75), (1, vi s.1), (2, vi s.2.1), (3, vi s.2.2.1)] []) (fun e : Int × Mem => Ev l D cy g K yX12_look cX12_look 6 (some .int) (rmd 6 0 0) (MX D cy g K (rmd 6 0 0) Φ) 0 0 M x (L e.2) 108 [(2, vi e.1)] [])) o) : Ev l D cy g K yX12_look cX12_look 6 (some .int) (rmd 6 0 0) (MX D cy g K (rmd 6 0 0) Φ) 0 0 M x (L μ) 14 [(0, vr g 75), (1, vi v3), (2, vi v4), (3, vi v5)] [] := by
  unfold fX12_look_b14 at hf
  refine ev_iload_n dX12_look_14 3 rfl ?_
  refine ev_aload_n dX12_look_15 0 rfl ?_
  refine cl_V1 (As := []) (st := [vi v5]) miX12_cakes (tX12_cakes hS (hc.w rfl rfl) μ (o := (μ 81 0)) rfl) dX12_look_16 lkX12_209 inX12_cakes rfl (hS.lt (hc 75 rfl)) rfl ⟨rfl, rfl⟩ ⟨⟨Nat.le_of_ble_eq_true rfl, Nat.le_of_ble_eq_true rfl⟩, Nat.zero_le _, Nat.zero_le _⟩ (Nat.le_of_ble_eq_true rfl) ?_
  refine ev_icmp_ge 108 dX12_look_19 (by decide) (fun h6 => ?_) (fun h6 => ?_)
  · rw [if_neg h6] at hf
    obtain rfl := Option.some.inj hf
    refine ev_sub [2] rfl ?_
    exact hr
  · rw [if_pos h6] at hf
    refine ev_iconst dX12_look_22 ?_
    refine ev_istore (al2 := [(4, vi 0), (0, vr g 75), (1, vi v3), (2, vi v4), (3, vi v5)]) dX12_look_23 (by decide) rfl ?_
    refine ev_iconst dX12_look_25 ?_
    refine ev_istore (al2 := [(5, vi 0), (4, vi 0), (0, vr g 75), (1, vi v3), (2, vi v4), (3, vi v5)]) dX12_look_26 (by decide) rfl ?_
    obtain ⟨q14, hq14, hf⟩ := Option.bind_eq_some_iff.mp hf
    refine ev_sub [2, 3, 4, 5, 1, 0] rfl ?_
    refine loop_ev (H := (fun s : Int × Int × Mem => Ev l D cy g K yX12_look cX12_look 6 (some .int) (rmd 6 0 0) (MX D cy g K (rmd 6 0 0) Φ) 0 0 M x (L s.2.2) 28 [(0, vr g 75), (1, vi v3), (2, vi v4), (3, vi v5), (4, vi s.1), (5, vi s.2.1)] [])) (Hx := (fun e : Int × Mem => Ev l D cy g K yX12_look cX12_look 6 (some .int) (rmd 6 0 0) (MX D cy g K (rmd 6 0 0) Φ) 0 0 M x (L e.2) 77 [(0, vr g 75), (1, vi v3), (2, vi v4), (3, vi v5), (4, vi e.1)] [])) (fun s o hb hr => tX12_look_b28 hS hc v3 v4 v5 s.1 s.2.1 s.2.2 hb hr) FU _ _ hq14 ?_
    show Ev l D cy g K yX12_look cX12_look 6 (some .int) (rmd 6 0 0) (MX D cy g K (rmd 6 0 0) Φ) 0 0 M x (L q14.2) 77 [(0, vr g 75), (1, vi v3), (2, vi v4), (3, vi v5), (4, vi q14.1)] []
    refine ev_iload dX12_look_77 4 rfl ?_
    refine ev_iload_n dX12_look_79 1 rfl ?_
    obtain ⟨v15, hv15, hf⟩ := lt_elim hf
    have hJv15 : Ev l D cy g K yX12_look cX12_look 6 (some .int) (rmd 6 0 0) (MX D cy g K (rmd 6 0 0) Φ) 0 0 M x (L q14.2) 88 [(0, vr g 75), (1, vi v3), (2, vi v4), (3, vi v5), (4, vi q14.1)] [vi v15] := by
      refine ev_istore_n (al2 := [(2, vi v15), (0, vr g 75), (1, vi v3), (3, vi v5), (4, vi q14.1)]) dX12_look_88 2 rfl (by decide) rfl ?_
      refine ev_iload dX12_look_89 4 rfl ?_
      refine ev_iload_n dX12_look_91 2 rfl ?_
      obtain ⟨v17, hv17, hf⟩ := lt_elim hf
      have hJv17 : Ev l D cy g K yX12_look cX12_look 6 (some .int) (rmd 6 0 0) (MX D cy g K (rmd 6 0 0) Φ) 0 0 M x (L q14.2) 101 [(2, vi v15), (0, vr g 75), (1, vi v3), (3, vi v5), (4, vi q14.1)] [vi v17] := by
        refine ev_istore_n (al2 := [(1, vi v17), (2, vi v15), (0, vr g 75), (3, vi v5), (4, vi q14.1)]) dX12_look_101 1 rfl (by decide) rfl ?_
        refine ev_iinc (al2 := [(3, vi (v5 + 1)), (1, vi v17), (2, vi v15), (0, vr g 75), (4, vi q14.1)]) dX12_look_102 3 rfl (by decide) rfl ?_
        refine ev_goto 14 dX12_look_105 (by decide) ?_
        obtain rfl := Option.some.inj hf
        refine ev_sub [3, 1, 2, 0] rfl ?_
        exact hr
      refine ev_icmp_ge 100 dX12_look_92 (by decide) (fun h18 => ?_) (fun h18 => ?_)
      · refine ev_iload_n dX12_look_100 2 rfl ?_
        have e9 : v17 = v3 := hv17.trans ((if_neg h18))
        subst e9
        exact hJv17
      · refine ev_iload dX12_look_95 4 rfl ?_
        refine ev_goto 101 dX12_look_97 (by decide) ?_
        have e9 : v17 = q14.1 := hv17.trans ((if_pos h18))
        subst e9
        exact hJv17
    refine ev_icmp_ge 87 dX12_look_80 (by decide) (fun h16 => ?_) (fun h16 => ?_)
    · refine ev_iload_n dX12_look_87 2 rfl ?_
      have e9 : v15 = v4 := hv15.trans ((if_neg h16))
      subst e9
      exact hJv15
    · refine ev_iload_n dX12_look_83 3 rfl ?_
      refine ev_goto 88 dX12_look_84 (by decide) ?_
      have e9 : v15 = v5 := hv15.trans ((if_pos h16))
      subst e9
      exact hJv15
def fX12_look  (μ : Mem) : Option (Int × Mem) :=
  lt (upd2 μ 75 0 0) fun μ1 =>
  (fX12_talliesNow μ1).bind fun q2 =>
  (loopN (fun s => fX12_look_b14 s.1 s.2.1 s.2.2.1 s.2.2.2) FU (q2.1, (-1), 0, q2.2)).bind fun q19 =>
  some ((q19.1, q19.2))
set_option maxRecDepth 4000 in
theorem eX12_look (hS : Sd M K P L) (hc : CIn P 75 96)  (μ : Mem)  {o : Int × Mem} (hf : fX12_look  μ = some o) (hr : (fun o : Int × Mem => Φ (some (vi o.1)) M x (L o.2)) o) : Ev l D cy g K yX12_look cX12_look 6 (some .int) (rmd 6 0 0) (MX D cy g K (rmd 6 0 0) Φ) 0 0 M x (L μ) 0 [(0, vr g 75)] [] := by
  unfold fX12_look at hf
  refine ev_aload_n dX12_look_0 0 rfl ?_
  refine ev_iconst dX12_look_1 ?_
  obtain ⟨μ1, hμ1, hf⟩ := lt_elim hf
  refine ev_putI 0 dX12_look_2 (hS.lt (hc 75 rfl)) rfl ciX12 (by decide) (Or.inl rfl) rfl rfl flX12_1 (hS.up (hc 75 rfl) hμ1) ?_
  refine ev_aload_n dX12_look_5 0 rfl ?_
  obtain ⟨q2, hq2, hf⟩ := Option.bind_eq_some_iff.mp hf
  refine cl_V1 (As := []) (st := []) miX12_talliesNow (tX12_talliesNow hS (hc.w rfl rfl) μ1 hq2) dX12_look_6 lkX12_363 inX12_talliesNow rfl (hS.lt (hc 75 rfl)) rfl ⟨rfl, rfl⟩ ⟨⟨Nat.le_of_ble_eq_true rfl, Nat.le_of_ble_eq_true rfl⟩, Nat.zero_le _, Nat.zero_le _⟩ (Nat.le_of_ble_eq_true rfl) ?_
  refine ev_istore_n (al2 := [(1, vi q2.1), (0, vr g 75)]) dX12_look_9 1 rfl (by decide) rfl ?_
  refine ev_iconst dX12_look_10 ?_
  refine ev_istore_n (al2 := [(2, vi (-1)), (1, vi q2.1), (0, vr g 75)]) dX12_look_11 2 rfl (by decide) rfl ?_
  refine ev_iconst dX12_look_12 ?_
  refine ev_istore_n (al2 := [(3, vi 0), (2, vi (-1)), (1, vi q2.1), (0, vr g 75)]) dX12_look_13 3 rfl (by decide) rfl ?_
  obtain ⟨q19, hq19, hf⟩ := Option.bind_eq_some_iff.mp hf
  refine ev_sub [3, 2, 1, 0] rfl ?_
  refine loop_ev (H := (fun s : Int × Int × Int × Mem => Ev l D cy g K yX12_look cX12_look 6 (some .int) (rmd 6 0 0) (MX D cy g K (rmd 6 0 0) Φ) 0 0 M x (L s.2.2.2) 14 [(0, vr g 75), (1, vi s.1), (2, vi s.2.1), (3, vi s.2.2.1)] [])) (Hx := (fun e : Int × Mem => Ev l D cy g K yX12_look cX12_look 6 (some .int) (rmd 6 0 0) (MX D cy g K (rmd 6 0 0) Φ) 0 0 M x (L e.2) 108 [(2, vi e.1)] [])) (fun s o hb hr => tX12_look_b14 hS hc s.1 s.2.1 s.2.2.1 s.2.2.2 hb hr) FU _ _ hq19 ?_
  show Ev l D cy g K yX12_look cX12_look 6 (some .int) (rmd 6 0 0) (MX D cy g K (rmd 6 0 0) Φ) 0 0 M x (L q19.2) 108 [(2, vi q19.1)] []
  refine ev_iload_n dX12_look_108 0 rfl ?_
  obtain rfl := Option.some.inj hf
  exact ev_iret dX12_look_109 rfl ⟨Nat.zero_le _, Nat.zero_le _⟩ hr
theorem tX12_look (hS : Sd M K P L) (hc : CIn P 75 96) (μ : Mem) {o : Int × Mem} (hf : fX12_look μ = some o) : Cn l D cy g K K yX12_look cX12_look 6 (some .int) (rmd 6 0 0) [vr g 75] M x (L μ) (PE (some (vi o.1)) M x (L o.2)) :=
 Cn.of (by decide) (Nat.le_of_ble_eq_true rfl) (eX12_look hS hc μ hf (PE_i _ _ _ _))
def fX12_chance_b29 (times : Int) (ever : Bool) (v4 : Int) (v5 : Int) (μ : Mem) : Option ((Int × Int × Mem) ⊕ (Int × Mem)) :=
  if w32 v5 < w32 times then
    lt (v4 * (μ 81 0)) fun v7 =>
    some (.inl (v7, (v5 + 1), μ))
  else
    some (.inr (v4, μ))
set_option maxRecDepth 4000 in
theorem tX12_chance_b29 (hS : Sd M K P L) (hc : CIn P 75 92) (times : Int) (ever : Bool) (v4 : Int) (v5 : Int) (μ : Mem)  {o : (Int × Int × Mem) ⊕ (Int × Mem)} (hf : fX12_chance_b29 times ever v4 v5 μ = some o) (hr : (Sum.elim (fun s : Int × Int × Mem => Ev l D cy g K yX12_chance cX12_chance 11 (some .int) (rmd 5 0 0) (MX D cy g K (rmd 5 0 0) Φ) 0 0 M x (L s.2.2) 29 [(0, vr g 75), (1, vi times), (2, vb ever), (3, vi s.1), (4, vi s.2.1)] []) (fun e : Int × Mem => Ev l D cy g K yX12_chance cX12_chance 11 (some .int) (rmd 5 0 0) (MX D cy g K (rmd 5 0 0) Φ) 0 0 M x (L e.2) 48 [(0, vr g 75), (1, vi times), (2, vb ever), (3, vi e.1)] [])) o) : Ev l D cy g K yX12_chance cX12_chance 11 (some .int) (rmd 5 0 0) (MX D cy g K (rmd 5 0 0) Φ) 0 0 M x (L μ) 29 [(0, vr g 75), (1, vi times), (2, vb ever), (3, vi v4), (4, vi v5)] [] := by
  unfold fX12_chance_b29 at hf
  refine ev_iload dX12_chance_29 4 rfl ?_
  refine ev_iload_n dX12_chance_31 1 rfl ?_
  refine ev_icmp_ge 48 dX12_chance_32 (by decide) (fun h6 => ?_) (fun h6 => ?_)
  · rw [if_neg h6] at hf
    obtain rfl := Option.some.inj hf
    refine ev_sub [0, 1, 2, 3] rfl ?_
    exact hr
  · rw [if_pos h6] at hf
    refine ev_iload_n dX12_chance_35 3 rfl ?_
    refine ev_aload_n dX12_chance_36 0 rfl ?_
    refine cl_V1 (As := []) (st := [vi v4]) miX12_cakes (tX12_cakes hS (hc.w rfl rfl) μ (o := (μ 81 0)) rfl) dX12_chance_37 lkX12_209 inX12_cakes rfl (hS.lt (hc 75 rfl)) rfl ⟨rfl, rfl⟩ ⟨⟨Nat.le_of_ble_eq_true rfl, Nat.le_of_ble_eq_true rfl⟩, Nat.zero_le _, Nat.zero_le _⟩ (Nat.le_of_ble_eq_true rfl) ?_
    refine ev_imul dX12_chance_40 ?_
    obtain ⟨v7, hv7, hf⟩ := lt_elim hf
    refine ev_rni hv7 ?_
    refine ev_istore_n (al2 := [(3, vi v7), (0, vr g 75), (1, vi times), (2, vb ever), (4, vi v5)]) dX12_chance_41 3 rfl (by decide) rfl ?_
    refine ev_iinc (al2 := [(4, vi (v5 + 1)), (3, vi v7), (0, vr g 75), (1, vi times), (2, vb ever)]) dX12_chance_42 4 rfl (by decide) rfl ?_
    refine ev_goto 29 dX12_chance_45 (by decide) ?_
    obtain rfl := Option.some.inj hf
    refine ev_sub [2, 3, 4, 1, 0] rfl ?_
    exact hr
def fX12_chance_j136 (times : Int) (ever : Bool) (c9 : Int) (v10 : Int) (v11 : Int) (v29 : Int) (v30 : Int) (μ : Mem) : Option ((Bool × Int × Int × Mem) ⊕ (Bool × Mem)) :=
  some (.inl (true, v29, (v30 + 1), μ))
set_option maxRecDepth 4000 in
theorem tX12_chance_j136 (hS : Sd M K P L) (hc : CIn P 75 92) (times : Int) (ever : Bool) (c9 : Int) (v10 : Int) (v11 : Int) (v29 : Int) (v30 : Int) (μ : Mem)  {o : (Bool × Int × Int × Mem) ⊕ (Bool × Mem)} (hf : fX12_chance_j136 times ever c9 v10 v11 v29 v30 μ = some o) (hr : (Sum.elim (fun s : Bool × Int × Int × Mem => Ev l D cy g K yX12_chance cX12_chance 11 (some .int) (rmd 5 0 0) (MX D cy g K (rmd 5 0 0) Φ) 0 0 M x (L s.2.2.2) 83 [(0, vr g 75), (1, vi times), (2, vb ever), (3, vi c9), (4, vl v10), (6, vi v11), (7, vb s.1), (8, vi s.2.1), (9, vi s.2.2.1)] []) (fun e : Bool × Mem => Ev l D cy g K yX12_chance cX12_chance 11 (some .int) (rmd 5 0 0) (MX D cy g K (rmd 5 0 0) Φ) 0 0 M x (L e.2) 149 [(0, vr g 75), (1, vi times), (2, vb ever), (3, vi c9), (4, vl v10), (6, vi v11), (7, vb e.1)] [])) o) : Ev l D cy g K yX12_chance cX12_chance 11 (some .int) (rmd 5 0 0) (MX D cy g K (rmd 5 0 0) Φ) 0 0 M x (L μ) 136 [(0, vr g 75), (1, vi times), (2, vb ever), (3, vi c9), (4, vl v10), (6, vi v11), (8, vi v29), (9, vi v30)] [] := by
  unfold fX12_chance_j136 at hf
  refine ev_iconst dX12_chance_136 ?_
  refine ev_goto 141 dX12_chance_137 (by decide) ?_
  refine ev_istore (al2 := [(7, vi 1), (0, vr g 75), (1, vi times), (2, vb ever), (3, vi c9), (4, vl v10), (6, vi v11), (8, vi v29), (9, vi v30)]) dX12_chance_141 (by decide) rfl ?_
  refine ev_iinc (al2 := [(9, vi (v30 + 1)), (7, vi 1), (0, vr g 75), (1, vi times), (2, vb ever), (3, vi c9), (4, vl v10), (6, vi v11), (8, vi v29)]) dX12_chance_143 8 rfl (by decide) rfl ?_
  refine ev_goto 83 dX12_chance_146 (by decide) ?_
  obtain rfl := Option.some.inj hf
  refine ev_sub [2, 3, 4, 5, 6, 7, 1, 8, 0] rfl ?_
  exact hr
def fX12_chance_j124 (times : Int) (ever : Bool) (c9 : Int) (v10 : Int) (v11 : Int) (v25 : Bool) (v26 : Int) (v27 : Int) (μ : Mem) : Option ((Bool × Int × Int × Mem) ⊕ (Bool × Mem)) :=
  if v25 = true then
    fX12_chance_j136 times ever c9 v10 v11 v26 v27 μ
  else
    (fX12_isServed μ).bind fun v31 =>
    lt (if v31 = true then
        true
      else
        false) fun v32 =>
    some (.inl (v32, v26, (v27 + 1), μ))
set_option maxRecDepth 4000 in
theorem tX12_chance_j124 (hS : Sd M K P L) (hc : CIn P 75 92) (times : Int) (ever : Bool) (c9 : Int) (v10 : Int) (v11 : Int) (v25 : Bool) (v26 : Int) (v27 : Int) (μ : Mem)  {o : (Bool × Int × Int × Mem) ⊕ (Bool × Mem)} (hf : fX12_chance_j124 times ever c9 v10 v11 v25 v26 v27 μ = some o) (hr : (Sum.elim (fun s : Bool × Int × Int × Mem => Ev l D cy g K yX12_chance cX12_chance 11 (some .int) (rmd 5 0 0) (MX D cy g K (rmd 5 0 0) Φ) 0 0 M x (L s.2.2.2) 83 [(0, vr g 75), (1, vi times), (2, vb ever), (3, vi c9), (4, vl v10), (6, vi v11), (7, vb s.1), (8, vi s.2.1), (9, vi s.2.2.1)] []) (fun e : Bool × Mem => Ev l D cy g K yX12_chance cX12_chance 11 (some .int) (rmd 5 0 0) (MX D cy g K (rmd 5 0 0) Φ) 0 0 M x (L e.2) 149 [(0, vr g 75), (1, vi times), (2, vb ever), (3, vi c9), (4, vl v10), (6, vi v11), (7, vb e.1)] [])) o) : Ev l D cy g K yX12_chance cX12_chance 11 (some .int) (rmd 5 0 0) (MX D cy g K (rmd 5 0 0) Φ) 0 0 M x (L μ) 124 [(0, vr g 75), (1, vi times), (2, vb ever), (3, vi c9), (4, vl v10), (6, vi v11), (7, vb v25), (8, vi v26), (9, vi v27)] [] := by
  unfold fX12_chance_j124 at hf
  refine ev_iload dX12_chance_124 6 rfl ?_
  refine ev_ifb_ne 136 dX12_chance_126 (by decide) (fun h28 => ?_) (fun h28 => ?_)
  · rw [if_pos h28] at hf
    refine ev_sub [0, 1, 2, 3, 4, 5, 7, 8] rfl ?_
    exact tX12_chance_j136 hS hc times ever c9 v10 v11 v26 v27 μ hf hr
  · rw [if_neg h28] at hf
    refine ev_aload_n dX12_chance_129 0 rfl ?_
    obtain ⟨v31, hv31, hf⟩ := Option.bind_eq_some_iff.mp hf
    refine cl_V1 (As := []) (st := []) miX12_isServed (tX12_isServed hS (hc.w rfl rfl) μ hv31) dX12_chance_130 lkX12_289 inX12_isServed rfl (hS.lt (hc 75 rfl)) rfl ⟨rfl, rfl⟩ ⟨⟨Nat.le_of_ble_eq_true rfl, Nat.le_of_ble_eq_true rfl⟩, Nat.zero_le _, Nat.zero_le _⟩ (Nat.le_of_ble_eq_true rfl) ?_
    obtain ⟨v32, hv32, hf⟩ := lt_elim hf
    have hJv32 : Ev l D cy g K yX12_chance cX12_chance 11 (some .int) (rmd 5 0 0) (MX D cy g K (rmd 5 0 0) Φ) 0 0 M x (L μ) 141 [(0, vr g 75), (1, vi times), (2, vb ever), (3, vi c9), (4, vl v10), (6, vi v11), (7, vb v25), (8, vi v26), (9, vi v27)] [vb v32] := by
      refine ev_istore (al2 := [(7, vb v32), (0, vr g 75), (1, vi times), (2, vb ever), (3, vi c9), (4, vl v10), (6, vi v11), (8, vi v26), (9, vi v27)]) dX12_chance_141 (by decide) rfl ?_
      refine ev_iinc (al2 := [(9, vi (v27 + 1)), (7, vb v32), (0, vr g 75), (1, vi times), (2, vb ever), (3, vi c9), (4, vl v10), (6, vi v11), (8, vi v26)]) dX12_chance_143 8 rfl (by decide) rfl ?_
      refine ev_goto 83 dX12_chance_146 (by decide) ?_
      obtain rfl := Option.some.inj hf
      refine ev_sub [2, 3, 4, 5, 6, 7, 1, 8, 0] rfl ?_
      exact hr
    refine ev_ifb_eq 140 dX12_chance_133 (by decide) (fun h33 => ?_) (fun h33 => ?_)
    · refine ev_iconst dX12_chance_140 ?_
      have e9 : v32 = false := hv32.trans ((if_neg h33))
      subst e9
      exact hJv32
    · refine ev_iconst dX12_chance_136 ?_
      refine ev_goto 141 dX12_chance_137 (by decide) ?_
      have e9 : v32 = true := hv32.trans ((if_pos h33))
      subst e9
      exact hJv32
def fX12_chance_b83 (times : Int) (ever : Bool) (c9 : Int) (v10 : Int) (v11 : Int) (v15 : Bool) (v16 : Int) (v17 : Int) (μ : Mem) : Option ((Bool × Int × Int × Mem) ⊕ (Bool × Mem)) :=
  if w32 v17 < w32 times then
    gd (¬ w32 (μ 81 0) = 0) <|
    lt ((i_rem v16 (μ 81 0)) + 1) fun v20 =>
    gd (¬ w32 (μ 81 0) = 0) <|
    lt (i_div v16 (μ 81 0)) fun v22 =>
    (fX12_mayTurn v20 μ).bind fun q23 =>
    if q23.1 = true then
      (fX12_turns v20 q23.2).bind fun μ34 =>
      fX12_chance_j124 times ever c9 v10 v11 v15 v22 v17 μ34
    else
      fX12_chance_j124 times ever c9 v10 v11 v15 v22 v17 q23.2
  else
    some (.inr (v15, μ))
set_option maxRecDepth 4000 in
theorem tX12_chance_b83 (hS : Sd M K P L) (hc : CIn P 75 92) (times : Int) (ever : Bool) (c9 : Int) (v10 : Int) (v11 : Int) (v15 : Bool) (v16 : Int) (v17 : Int) (μ : Mem)  {o : (Bool × Int × Int × Mem) ⊕ (Bool × Mem)} (hf : fX12_chance_b83 times ever c9 v10 v11 v15 v16 v17 μ = some o) (hr : (Sum.elim (fun s : Bool × Int × Int × Mem => Ev l D cy g K yX12_chance cX12_chance 11 (some .int) (rmd 5 0 0) (MX D cy g K (rmd 5 0 0) Φ) 0 0 M x (L s.2.2.2) 83 [(0, vr g 75), (1, vi times), (2, vb ever), (3, vi c9), (4, vl v10), (6, vi v11), (7, vb s.1), (8, vi s.2.1), (9, vi s.2.2.1)] []) (fun e : Bool × Mem => Ev l D cy g K yX12_chance cX12_chance 11 (some .int) (rmd 5 0 0) (MX D cy g K (rmd 5 0 0) Φ) 0 0 M x (L e.2) 149 [(0, vr g 75), (1, vi times), (2, vb ever), (3, vi c9), (4, vl v10), (6, vi v11), (7, vb e.1)] [])) o) : Ev l D cy g K yX12_chance cX12_chance 11 (some .int) (rmd 5 0 0) (MX D cy g K (rmd 5 0 0) Φ) 0 0 M x (L μ) 83 [(0, vr g 75), (1, vi times), (2, vb ever), (3, vi c9), (4, vl v10), (6, vi v11), (7, vb v15), (8, vi v16), (9, vi v17)] [] := by
  unfold fX12_chance_b83 at hf
  refine ev_iload dX12_chance_83 8 rfl ?_
  refine ev_iload_n dX12_chance_85 1 rfl ?_
  refine ev_icmp_ge 149 dX12_chance_86 (by decide) (fun h18 => ?_) (fun h18 => ?_)
  · rw [if_neg h18] at hf
    obtain rfl := Option.some.inj hf
    refine ev_sub [0, 1, 2, 3, 4, 5, 6] rfl ?_
    exact hr
  · rw [if_pos h18] at hf
    refine ev_iload dX12_chance_89 7 rfl ?_
    refine ev_aload_n dX12_chance_91 0 rfl ?_
    refine cl_V1 (As := []) (st := [vi v16]) miX12_cakes (tX12_cakes hS (hc.w rfl rfl) μ (o := (μ 81 0)) rfl) dX12_chance_92 lkX12_209 inX12_cakes rfl (hS.lt (hc 75 rfl)) rfl ⟨rfl, rfl⟩ ⟨⟨Nat.le_of_ble_eq_true rfl, Nat.le_of_ble_eq_true rfl⟩, Nat.zero_le _, Nat.zero_le _⟩ (Nat.le_of_ble_eq_true rfl) ?_
    obtain ⟨g19, hf⟩ := gd_elim hf
    refine ev_irem dX12_chance_95 g19 ?_
    refine ev_iconst dX12_chance_96 ?_
    refine ev_iadd dX12_chance_97 ?_
    obtain ⟨v20, hv20, hf⟩ := lt_elim hf
    refine ev_rni hv20 ?_
    refine ev_istore (al2 := [(10, vi v20), (0, vr g 75), (1, vi times), (2, vb ever), (3, vi c9), (4, vl v10), (6, vi v11), (7, vb v15), (8, vi v16), (9, vi v17)]) dX12_chance_98 (by decide) rfl ?_
    refine ev_iload dX12_chance_100 8 rfl ?_
    refine ev_aload_n dX12_chance_102 1 rfl ?_
    refine cl_V1 (As := []) (st := [vi v16]) miX12_cakes (tX12_cakes hS (hc.w rfl rfl) μ (o := (μ 81 0)) rfl) dX12_chance_103 lkX12_209 inX12_cakes rfl (hS.lt (hc 75 rfl)) rfl ⟨rfl, rfl⟩ ⟨⟨Nat.le_of_ble_eq_true rfl, Nat.le_of_ble_eq_true rfl⟩, Nat.zero_le _, Nat.zero_le _⟩ (Nat.le_of_ble_eq_true rfl) ?_
    obtain ⟨g21, hf⟩ := gd_elim hf
    refine ev_idiv dX12_chance_106 g21 ?_
    obtain ⟨v22, hv22, hf⟩ := lt_elim hf
    refine ev_rni hv22 ?_
    refine ev_istore (al2 := [(8, vi v22), (10, vi v20), (0, vr g 75), (1, vi times), (2, vb ever), (3, vi c9), (4, vl v10), (6, vi v11), (7, vb v15), (9, vi v17)]) dX12_chance_107 (by decide) rfl ?_
    refine ev_aload_n dX12_chance_109 2 rfl ?_
    refine ev_iload dX12_chance_110 1 rfl ?_
    obtain ⟨q23, hq23, hf⟩ := Option.bind_eq_some_iff.mp hf
    refine cl_V1 (As := [vi v20]) (st := []) miX12_mayTurn (tX12_mayTurn hS (hc.w rfl rfl) v20 μ hq23) dX12_chance_112 lkX12_277 inX12_mayTurn rfl (hS.lt (hc 75 rfl)) rfl ⟨rfl, rfl⟩ ⟨⟨Nat.le_of_ble_eq_true rfl, Nat.le_of_ble_eq_true rfl⟩, Nat.zero_le _, Nat.zero_le _⟩ (Nat.le_of_ble_eq_true rfl) ?_
    refine ev_ifb_eq 124 dX12_chance_115 (by decide) (fun h24 => ?_) (fun h24 => ?_)
    · rw [if_neg h24] at hf
      refine ev_sub [2, 3, 4, 5, 6, 7, 8, 0, 9] rfl ?_
      exact tX12_chance_j124 hS hc times ever c9 v10 v11 v15 v22 v17 q23.2 hf hr
    · rw [if_pos h24] at hf
      refine ev_aload_n dX12_chance_118 2 rfl ?_
      refine ev_iload dX12_chance_119 1 rfl ?_
      obtain ⟨μ34, hμ34, hf⟩ := Option.bind_eq_some_iff.mp hf
      refine cl_V0 (As := [vi v20]) (st := []) miX12_turns (tX12_turns hS (hc.w rfl rfl) v20 q23.2 hμ34) dX12_chance_121 lkX12_286 inX12_turns rfl (hS.lt (hc 75 rfl)) rfl ⟨rfl, rfl⟩ ⟨⟨Nat.le_of_ble_eq_true rfl, Nat.le_of_ble_eq_true rfl⟩, Nat.zero_le _, Nat.zero_le _⟩ (Nat.le_of_ble_eq_true rfl) ?_
      refine ev_sub [2, 3, 4, 5, 6, 7, 8, 0, 9] rfl ?_
      exact tX12_chance_j124 hS hc times ever c9 v10 v11 v15 v22 v17 μ34 hf hr
def fX12_chance_b54 (times : Int) (ever : Bool) (c9 : Int) (v10 : Int) (v11 : Int) (μ : Mem) : Option ((Int × Int × Mem) ⊕ (Int × Mem)) :=
  if w32 v11 < w32 c9 then
    (fX12_lays (μ 88 0) μ).bind fun μ13 =>
    (fX12_isServed μ13).bind fun v14 =>
    (loopN (fun s => fX12_chance_b83 times ever c9 v10 v11 s.1 s.2.1 s.2.2.1 s.2.2.2) FU (v14, v11, 0, μ13)).bind fun q38 =>
    if ever = true then
      lt (if q38.1 = true then
          1
        else
          0) fun v44 =>
      lt (v10 + v44) fun v46 =>
      some (.inl (v46, (v11 + 1), q38.2))
    else
      (fX12_isServed q38.2).bind fun v40 =>
      lt (if v40 = true then
          1
        else
          0) fun v41 =>
      lt (v10 + v41) fun v43 =>
      some (.inl (v43, (v11 + 1), q38.2))
  else
    some (.inr (v10, μ))
set_option maxRecDepth 4000 in
theorem tX12_chance_b54 (hS : Sd M K P L) (hc : CIn P 75 92) (times : Int) (ever : Bool) (c9 : Int) (v10 : Int) (v11 : Int) (μ : Mem)  {o : (Int × Int × Mem) ⊕ (Int × Mem)} (hf : fX12_chance_b54 times ever c9 v10 v11 μ = some o) (hr : (Sum.elim (fun s : Int × Int × Mem => Ev l D cy g K yX12_chance cX12_chance 11 (some .int) (rmd 5 0 0) (MX D cy g K (rmd 5 0 0) Φ) 0 0 M x (L s.2.2) 54 [(0, vr g 75), (1, vi times), (2, vb ever), (3, vi c9), (4, vl s.1), (6, vi s.2.1)] []) (fun e : Int × Mem => Ev l D cy g K yX12_chance cX12_chance 11 (some .int) (rmd 5 0 0) (MX D cy g K (rmd 5 0 0) Φ) 0 0 M x (L e.2) 189 [(3, vi c9), (4, vl e.1)] [])) o) : Ev l D cy g K yX12_chance cX12_chance 11 (some .int) (rmd 5 0 0) (MX D cy g K (rmd 5 0 0) Φ) 0 0 M x (L μ) 54 [(0, vr g 75), (1, vi times), (2, vb ever), (3, vi c9), (4, vl v10), (6, vi v11)] [] := by
  unfold fX12_chance_b54 at hf
  refine ev_iload dX12_chance_54 5 rfl ?_
  refine ev_iload_n dX12_chance_56 3 rfl ?_
  refine ev_icmp_ge 189 dX12_chance_57 (by decide) (fun h12 => ?_) (fun h12 => ?_)
  · rw [if_neg h12] at hf
    obtain rfl := Option.some.inj hf
    refine ev_sub [3, 4] rfl ?_
    exact hr
  · rw [if_pos h12] at hf
    refine ev_aload_n dX12_chance_60 0 rfl ?_
    refine ev_aload_n dX12_chance_61 0 rfl ?_
    refine ev_getK 19 dX12_chance_62 (hS.lt (hc 75 rfl)) rfl (hS.K1 (hc 75 rfl) rfl) ciX12 (by decide) rfl flX12_94 ?_
    refine ev_iconst dX12_chance_65 ?_
    refine ev_iald dX12_chance_66 (hS.lt (hc 88 rfl)) rfl (hS.mem _ (hc 88 rfl)) ⟨by decide, by decide⟩ ?_
    refine ev_rn (w := vi (μ 88 0)) (by rw [show (w32 0).toNat = 0 from by decide]) ?_
    obtain ⟨μ13, hμ13, hf⟩ := Option.bind_eq_some_iff.mp hf
    refine cl_V0 (As := [vi (μ 88 0)]) (st := []) miX12_lays (tX12_lays hS (hc.w rfl rfl) (μ 88 0) μ hμ13) dX12_chance_67 lkX12_274 inX12_lays rfl (hS.lt (hc 75 rfl)) rfl ⟨rfl, rfl⟩ ⟨⟨Nat.le_of_ble_eq_true rfl, Nat.le_of_ble_eq_true rfl⟩, Nat.zero_le _, Nat.zero_le _⟩ (Nat.le_of_ble_eq_true rfl) ?_
    refine ev_aload_n dX12_chance_70 0 rfl ?_
    obtain ⟨v14, hv14, hf⟩ := Option.bind_eq_some_iff.mp hf
    refine cl_V1 (As := []) (st := []) miX12_isServed (tX12_isServed hS (hc.w rfl rfl) μ13 hv14) dX12_chance_71 lkX12_289 inX12_isServed rfl (hS.lt (hc 75 rfl)) rfl ⟨rfl, rfl⟩ ⟨⟨Nat.le_of_ble_eq_true rfl, Nat.le_of_ble_eq_true rfl⟩, Nat.zero_le _, Nat.zero_le _⟩ (Nat.le_of_ble_eq_true rfl) ?_
    refine ev_istore (al2 := [(7, vb v14), (0, vr g 75), (1, vi times), (2, vb ever), (3, vi c9), (4, vl v10), (6, vi v11)]) dX12_chance_74 (by decide) rfl ?_
    refine ev_iload dX12_chance_76 6 rfl ?_
    refine ev_istore (al2 := [(8, vi v11), (7, vb v14), (0, vr g 75), (1, vi times), (2, vb ever), (3, vi c9), (4, vl v10), (6, vi v11)]) dX12_chance_78 (by decide) rfl ?_
    refine ev_iconst dX12_chance_80 ?_
    refine ev_istore (al2 := [(9, vi 0), (8, vi v11), (7, vb v14), (0, vr g 75), (1, vi times), (2, vb ever), (3, vi c9), (4, vl v10), (6, vi v11)]) dX12_chance_81 (by decide) rfl ?_
    obtain ⟨q38, hq38, hf⟩ := Option.bind_eq_some_iff.mp hf
    refine ev_sub [3, 4, 5, 6, 7, 8, 2, 1, 0] rfl ?_
    refine loop_ev (H := (fun s : Bool × Int × Int × Mem => Ev l D cy g K yX12_chance cX12_chance 11 (some .int) (rmd 5 0 0) (MX D cy g K (rmd 5 0 0) Φ) 0 0 M x (L s.2.2.2) 83 [(0, vr g 75), (1, vi times), (2, vb ever), (3, vi c9), (4, vl v10), (6, vi v11), (7, vb s.1), (8, vi s.2.1), (9, vi s.2.2.1)] [])) (Hx := (fun e : Bool × Mem => Ev l D cy g K yX12_chance cX12_chance 11 (some .int) (rmd 5 0 0) (MX D cy g K (rmd 5 0 0) Φ) 0 0 M x (L e.2) 149 [(0, vr g 75), (1, vi times), (2, vb ever), (3, vi c9), (4, vl v10), (6, vi v11), (7, vb e.1)] [])) (fun s o hb hr => tX12_chance_b83 hS hc times ever c9 v10 v11 s.1 s.2.1 s.2.2.1 s.2.2.2 hb hr) FU _ _ hq38 ?_
    show Ev l D cy g K yX12_chance cX12_chance 11 (some .int) (rmd 5 0 0) (MX D cy g K (rmd 5 0 0) Φ) 0 0 M x (L q38.2) 149 [(0, vr g 75), (1, vi times), (2, vb ever), (3, vi c9), (4, vl v10), (6, vi v11), (7, vb q38.1)] []
    refine ev_lload dX12_chance_149 4 rfl ?_
    refine ev_iload_n dX12_chance_151 2 rfl ?_
    refine ev_ifb_eq 168 dX12_chance_152 (by decide) (fun h39 => ?_) (fun h39 => ?_)
    · rw [if_neg h39] at hf
      refine ev_aload_n dX12_chance_168 0 rfl ?_
      obtain ⟨v40, hv40, hf⟩ := Option.bind_eq_some_iff.mp hf
      refine cl_V1 (As := []) (st := [vl v10]) miX12_isServed (tX12_isServed hS (hc.w rfl rfl) q38.2 hv40) dX12_chance_169 lkX12_289 inX12_isServed rfl (hS.lt (hc 75 rfl)) rfl ⟨rfl, rfl⟩ ⟨⟨Nat.le_of_ble_eq_true rfl, Nat.le_of_ble_eq_true rfl⟩, Nat.zero_le _, Nat.zero_le _⟩ (Nat.le_of_ble_eq_true rfl) ?_
      obtain ⟨v41, hv41, hf⟩ := lt_elim hf
      have hJv41 : Ev l D cy g K yX12_chance cX12_chance 11 (some .int) (rmd 5 0 0) (MX D cy g K (rmd 5 0 0) Φ) 0 0 M x (L q38.2) 180 [(0, vr g 75), (1, vi times), (2, vb ever), (3, vi c9), (4, vl v10), (6, vi v11), (7, vb q38.1)] [vl v41, vl v10] := by
        refine ev_ladd dX12_chance_180 ?_
        obtain ⟨v43, hv43, hf⟩ := lt_elim hf
        refine ev_rnl hv43 ?_
        refine ev_lstore (al2 := [(4, vl v43), (0, vr g 75), (1, vi times), (2, vb ever), (3, vi c9), (6, vi v11), (7, vb q38.1)]) dX12_chance_181 (by decide) rfl ?_
        refine ev_iinc (al2 := [(6, vi (v11 + 1)), (4, vl v43), (0, vr g 75), (1, vi times), (2, vb ever), (3, vi c9), (7, vb q38.1)]) dX12_chance_183 5 rfl (by decide) rfl ?_
        refine ev_goto 54 dX12_chance_186 (by decide) ?_
        obtain rfl := Option.some.inj hf
        refine ev_sub [2, 3, 4, 5, 1, 0] rfl ?_
        exact hr
      refine ev_ifb_eq 179 dX12_chance_172 (by decide) (fun h42 => ?_) (fun h42 => ?_)
      · refine ev_lconst 0 dX12_chance_179 rfl ?_
        have e9 : v41 = 0 := hv41.trans ((if_neg h42))
        subst e9
        exact hJv41
      · refine ev_lconst 1 dX12_chance_175 rfl ?_
        refine ev_goto 180 dX12_chance_176 (by decide) ?_
        have e9 : v41 = 1 := hv41.trans ((if_pos h42))
        subst e9
        exact hJv41
    · rw [if_pos h39] at hf
      refine ev_iload dX12_chance_155 6 rfl ?_
      obtain ⟨v44, hv44, hf⟩ := lt_elim hf
      have hJv44 : Ev l D cy g K yX12_chance cX12_chance 11 (some .int) (rmd 5 0 0) (MX D cy g K (rmd 5 0 0) Φ) 0 0 M x (L q38.2) 180 [(0, vr g 75), (1, vi times), (2, vb ever), (3, vi c9), (4, vl v10), (6, vi v11), (7, vb q38.1)] [vl v44, vl v10] := by
        refine ev_ladd dX12_chance_180 ?_
        obtain ⟨v46, hv46, hf⟩ := lt_elim hf
        refine ev_rnl hv46 ?_
        refine ev_lstore (al2 := [(4, vl v46), (0, vr g 75), (1, vi times), (2, vb ever), (3, vi c9), (6, vi v11), (7, vb q38.1)]) dX12_chance_181 (by decide) rfl ?_
        refine ev_iinc (al2 := [(6, vi (v11 + 1)), (4, vl v46), (0, vr g 75), (1, vi times), (2, vb ever), (3, vi c9), (7, vb q38.1)]) dX12_chance_183 5 rfl (by decide) rfl ?_
        refine ev_goto 54 dX12_chance_186 (by decide) ?_
        obtain rfl := Option.some.inj hf
        refine ev_sub [2, 3, 4, 5, 1, 0] rfl ?_
        exact hr
      refine ev_ifb_eq 164 dX12_chance_157 (by decide) (fun h45 => ?_) (fun h45 => ?_)
      · refine ev_lconst 0 dX12_chance_164 rfl ?_
        refine ev_goto 180 dX12_chance_165 (by decide) ?_
        have e9 : v44 = 0 := hv44.trans ((if_neg h45))
        subst e9
        exact hJv44
      · refine ev_lconst 1 dX12_chance_160 rfl ?_
        refine ev_goto 180 dX12_chance_161 (by decide) ?_
        have e9 : v44 = 1 := hv44.trans ((if_pos h45))
        subst e9
        exact hJv44
def fX12_chance (times : Int) (ever : Bool) (μ : Mem) : Option (Int × Mem) :=
  lt (upd2 μ 75 0 0) fun μ1 =>
  if (fX12_within times 1 6) = true then
    if w32 (μ1 81 0) = 0 then
      some (((-1), μ1))
    else
      (loopN (fun s => fX12_chance_b29 times ever s.1 s.2.1 s.2.2) FU (1, 0, μ1)).bind fun q8 =>
      (loopN (fun s => fX12_chance_b54 times ever q8.1 s.1 s.2.1 s.2.2) FU (0, 0, q8.2)).bind fun q47 =>
      gd (¬ w64 (w32 q8.1) = 0) <|
      some (((l_2i (l_div (q47.1 * 1000000) (w32 q8.1))), q47.2))
  else
    some (((-1), μ1))
set_option maxRecDepth 4000 in
theorem eX12_chance (hS : Sd M K P L) (hc : CIn P 75 92) (times : Int) (ever : Bool) (μ : Mem)  {o : Int × Mem} (hf : fX12_chance times ever μ = some o) (hr : (fun o : Int × Mem => Φ (some (vi o.1)) M x (L o.2)) o) : Ev l D cy g K yX12_chance cX12_chance 11 (some .int) (rmd 5 0 0) (MX D cy g K (rmd 5 0 0) Φ) 0 0 M x (L μ) 0 [(0, vr g 75), (1, vi times), (2, vb ever)] [] := by
  unfold fX12_chance at hf
  refine ev_aload_n dX12_chance_0 0 rfl ?_
  refine ev_iconst dX12_chance_1 ?_
  obtain ⟨μ1, hμ1, hf⟩ := lt_elim hf
  refine ev_putI 0 dX12_chance_2 (hS.lt (hc 75 rfl)) rfl ciX12 (by decide) (Or.inl rfl) rfl rfl flX12_1 (hS.up (hc 75 rfl) hμ1) ?_
  refine ev_iload_n dX12_chance_5 1 rfl ?_
  refine ev_iconst dX12_chance_6 ?_
  refine ev_bipush dX12_chance_7 (by decide) ?_
  refine cl_S1 (As := [vi times, vi 1, vi 6]) (st := []) miX12_within (tX12_within times 1 6 (L μ1) (o := (fX12_within times 1 6)) rfl) dX12_chance_9 lkX12_270 stX12_within rfl ⟨⟨Nat.le_of_ble_eq_true rfl, Nat.le_of_ble_eq_true rfl⟩, Nat.zero_le _, Nat.zero_le _⟩ (Nat.le_of_ble_eq_true rfl) ?_
  refine ev_ifb_eq 22 dX12_chance_12 (by decide) (fun h2 => ?_) (fun h2 => ?_)
  · rw [if_neg h2] at hf
    refine ev_iconst dX12_chance_22 ?_
    obtain rfl := Option.some.inj hf
    exact ev_iret dX12_chance_23 rfl ⟨Nat.zero_le _, Nat.zero_le _⟩ hr
  · rw [if_pos h2] at hf
    refine ev_aload_n dX12_chance_15 0 rfl ?_
    refine cl_V1 (As := []) (st := []) miX12_cakes (tX12_cakes hS (hc.w rfl rfl) μ1 (o := (μ1 81 0)) rfl) dX12_chance_16 lkX12_209 inX12_cakes rfl (hS.lt (hc 75 rfl)) rfl ⟨rfl, rfl⟩ ⟨⟨Nat.le_of_ble_eq_true rfl, Nat.le_of_ble_eq_true rfl⟩, Nat.zero_le _, Nat.zero_le _⟩ (Nat.le_of_ble_eq_true rfl) ?_
    refine ev_if_ne 24 dX12_chance_19 (by decide) (fun h3 => ?_) (fun h3 => ?_)
    · rw [if_neg h3] at hf
      refine ev_iconst dX12_chance_24 ?_
      refine ev_istore_n (al2 := [(3, vi 1), (0, vr g 75), (1, vi times), (2, vb ever)]) dX12_chance_25 3 rfl (by decide) rfl ?_
      refine ev_iconst dX12_chance_26 ?_
      refine ev_istore (al2 := [(4, vi 0), (3, vi 1), (0, vr g 75), (1, vi times), (2, vb ever)]) dX12_chance_27 (by decide) rfl ?_
      obtain ⟨q8, hq8, hf⟩ := Option.bind_eq_some_iff.mp hf
      refine ev_sub [2, 3, 4, 1, 0] rfl ?_
      refine loop_ev (H := (fun s : Int × Int × Mem => Ev l D cy g K yX12_chance cX12_chance 11 (some .int) (rmd 5 0 0) (MX D cy g K (rmd 5 0 0) Φ) 0 0 M x (L s.2.2) 29 [(0, vr g 75), (1, vi times), (2, vb ever), (3, vi s.1), (4, vi s.2.1)] [])) (Hx := (fun e : Int × Mem => Ev l D cy g K yX12_chance cX12_chance 11 (some .int) (rmd 5 0 0) (MX D cy g K (rmd 5 0 0) Φ) 0 0 M x (L e.2) 48 [(0, vr g 75), (1, vi times), (2, vb ever), (3, vi e.1)] [])) (fun s o hb hr => tX12_chance_b29 hS hc times ever s.1 s.2.1 s.2.2 hb hr) FU _ _ hq8 ?_
      show Ev l D cy g K yX12_chance cX12_chance 11 (some .int) (rmd 5 0 0) (MX D cy g K (rmd 5 0 0) Φ) 0 0 M x (L q8.2) 48 [(0, vr g 75), (1, vi times), (2, vb ever), (3, vi q8.1)] []
      refine ev_lconst 0 dX12_chance_48 rfl ?_
      refine ev_lstore (al2 := [(4, vl 0), (0, vr g 75), (1, vi times), (2, vb ever), (3, vi q8.1)]) dX12_chance_49 (by decide) rfl ?_
      refine ev_iconst dX12_chance_51 ?_
      refine ev_istore (al2 := [(6, vi 0), (4, vl 0), (0, vr g 75), (1, vi times), (2, vb ever), (3, vi q8.1)]) dX12_chance_52 (by decide) rfl ?_
      obtain ⟨q47, hq47, hf⟩ := Option.bind_eq_some_iff.mp hf
      refine ev_sub [2, 3, 4, 5, 1, 0] rfl ?_
      refine loop_ev (H := (fun s : Int × Int × Mem => Ev l D cy g K yX12_chance cX12_chance 11 (some .int) (rmd 5 0 0) (MX D cy g K (rmd 5 0 0) Φ) 0 0 M x (L s.2.2) 54 [(0, vr g 75), (1, vi times), (2, vb ever), (3, vi q8.1), (4, vl s.1), (6, vi s.2.1)] [])) (Hx := (fun e : Int × Mem => Ev l D cy g K yX12_chance cX12_chance 11 (some .int) (rmd 5 0 0) (MX D cy g K (rmd 5 0 0) Φ) 0 0 M x (L e.2) 189 [(3, vi q8.1), (4, vl e.1)] [])) (fun s o hb hr => tX12_chance_b54 hS hc times ever q8.1 s.1 s.2.1 s.2.2 hb hr) FU _ _ hq47 ?_
      show Ev l D cy g K yX12_chance cX12_chance 11 (some .int) (rmd 5 0 0) (MX D cy g K (rmd 5 0 0) Φ) 0 0 M x (L q47.2) 189 [(3, vi q8.1), (4, vl q47.1)] []
      refine ev_lload dX12_chance_189 1 rfl ?_
      refine ev_ldc2 1000000 dX12_chance_191 klX12_366 (by decide) ?_
      refine ev_lmul dX12_chance_194 ?_
      refine ev_iload_n dX12_chance_195 0 rfl ?_
      refine ev_i2l dX12_chance_196 ?_
      obtain ⟨g48, hf⟩ := gd_elim hf
      refine ev_ldiv dX12_chance_197 g48 ?_
      refine ev_l2i dX12_chance_198 ?_
      obtain rfl := Option.some.inj hf
      exact ev_iret dX12_chance_199 rfl ⟨Nat.zero_le _, Nat.zero_le _⟩ hr
    · rw [if_pos h3] at hf
      refine ev_iconst dX12_chance_22 ?_
      obtain rfl := Option.some.inj hf
      exact ev_iret dX12_chance_23 rfl ⟨Nat.zero_le _, Nat.zero_le _⟩ hr
theorem tX12_chance (hS : Sd M K P L) (hc : CIn P 75 92) (times : Int) (ever : Bool) (μ : Mem) {o : Int × Mem} (hf : fX12_chance times ever μ = some o) : Cn l D cy g K K yX12_chance cX12_chance 11 (some .int) (rmd 5 0 0) [vr g 75, vi times, vb ever] M x (L μ) (PE (some (vi o.1)) M x (L o.2)) :=
 Cn.of (by decide) (Nat.le_of_ble_eq_true rfl) (eX12_chance hS hc times ever μ hf (PE_i _ _ _ _))
def fX12_getsBy (own : Int) (other : Int) (lose : Int) (turns : Int) (waits : Int) : Int :=
  lt (if w32 own = w32 1 then
      if w32 other = w32 1 then
        (-lose)
      else
        turns
    else
      if w32 other = w32 1 then
        waits
      else
        0) fun v1 =>
  v1
set_option maxRecDepth 4000 in
theorem eX12_getsBy  (own : Int) (other : Int) (lose : Int) (turns : Int) (waits : Int) (μ : Mem)  {o : Int} (hf : fX12_getsBy own other lose turns waits = o) (hr : (fun o : Int => Φ (some (vi o)) M x μ) o) : Ev l D cy g K yX12_getsBy cX12_getsBy 5 (some .int) (rmd 1 0 0) (MX D cy g K (rmd 1 0 0) Φ) 0 0 M x μ 0 [(0, vi own), (1, vi other), (2, vi lose), (3, vi turns), (4, vi waits)] [] := by
  unfold fX12_getsBy at hf
  refine ev_iload_n dX12_getsBy_0 0 rfl ?_
  refine ev_iconst dX12_getsBy_1 ?_
  obtain ⟨v1, hv1, hf⟩ := lt_elim hf
  have hJv1 : Ev l D cy g K yX12_getsBy cX12_getsBy 5 (some .int) (rmd 1 0 0) (MX D cy g K (rmd 1 0 0) Φ) 0 0 M x μ 30 [(0, vi own), (1, vi other), (2, vi lose), (3, vi turns), (4, vi waits)] [vi v1] := by
    obtain rfl := hf
    exact ev_iret dX12_getsBy_30 rfl ⟨Nat.zero_le _, Nat.zero_le _⟩ hr
  refine ev_icmp_ne 19 dX12_getsBy_2 (by decide) (fun h2 => ?_) (fun h2 => ?_)
  · refine ev_iload_n dX12_getsBy_19 1 rfl ?_
    refine ev_iconst dX12_getsBy_20 ?_
    refine ev_icmp_ne 29 dX12_getsBy_21 (by decide) (fun h3 => ?_) (fun h3 => ?_)
    · refine ev_iconst dX12_getsBy_29 ?_
      have e9 : v1 = 0 := hv1.trans (((if_neg h2)).trans (if_neg h3))
      subst e9
      exact hJv1
    · refine ev_iload dX12_getsBy_24 4 rfl ?_
      refine ev_goto 30 dX12_getsBy_26 (by decide) ?_
      have e9 : v1 = waits := hv1.trans (((if_neg h2)).trans (if_pos h3))
      subst e9
      exact hJv1
  · refine ev_iload_n dX12_getsBy_5 1 rfl ?_
    refine ev_iconst dX12_getsBy_6 ?_
    refine ev_icmp_ne 15 dX12_getsBy_7 (by decide) (fun h4 => ?_) (fun h4 => ?_)
    · refine ev_iload_n dX12_getsBy_15 3 rfl ?_
      refine ev_goto 30 dX12_getsBy_16 (by decide) ?_
      have e9 : v1 = turns := hv1.trans (((if_pos h2)).trans (if_neg h4))
      subst e9
      exact hJv1
    · refine ev_iload_n dX12_getsBy_10 2 rfl ?_
      refine ev_ineg dX12_getsBy_11 ?_
      refine ev_goto 30 dX12_getsBy_12 (by decide) ?_
      have e9 : v1 = (-lose) := hv1.trans (((if_pos h2)).trans (if_pos h4))
      subst e9
      exact hJv1
theorem tX12_getsBy (own : Int) (other : Int) (lose : Int) (turns : Int) (waits : Int) (μ : Mem) {o : Int} (hf : fX12_getsBy own other lose turns waits = o) : Cn l D cy g K K yX12_getsBy cX12_getsBy 5 (some .int) (rmd 1 0 0) [vi own, vi other, vi lose, vi turns, vi waits] M x μ (PE (some (vi o)) M x μ) :=
 Cn.of (by decide) (Nat.le_of_ble_eq_true rfl) (eX12_getsBy own other lose turns waits μ hf (PE_i _ _ _ _))
def fX12_rests_b52 (lose : Int) (turns : Int) (waits : Int) (what : Int) (v1 : Bool) (v6 : Int) (v7 : Int) (v8 : Int) (μ : Mem) : Option ((Int × Int × Int × Mem) ⊕ (Int × Int × Mem)) :=
  if w32 v8 < w32 4 then
    if v1 = true then
      lt (i_div v8 2) fun v11 =>
      lt (i_rem v8 2) fun v12 =>
      lt (fX12_getsBy (1 - v11) v12 lose turns waits) fun v13 =>
      lt (fX12_getsBy v11 v12 lose turns waits) fun v14 =>
      lt (if w32 v13 ≤ w32 v14 then
          if w32 (fX12_getsBy (1 - v12) v11 lose turns waits) ≤ w32 (fX12_getsBy v12 v11 lose turns waits) then
            true
          else
            false
        else
          false) fun v15 =>
      lt (if v15 = true then
          if w32 v6 = w32 what then
            v8
          else
            v7
        else
          v7) fun v18 =>
      lt (if v15 = true then
          1
        else
          0) fun v21 =>
      lt (v6 + v21) fun v23 =>
      some (.inl (v23, v18, (v8 + 1), μ))
    else
      some (.inr (v6, v7, μ))
  else
    some (.inr (v6, v7, μ))
set_option maxRecDepth 4000 in
theorem tX12_rests_b52 (hS : Sd M K P L) (hc : CIn P 75 76) (lose : Int) (turns : Int) (waits : Int) (what : Int) (v1 : Bool) (v6 : Int) (v7 : Int) (v8 : Int) (μ : Mem)  {o : (Int × Int × Int × Mem) ⊕ (Int × Int × Mem)} (hf : fX12_rests_b52 lose turns waits what v1 v6 v7 v8 μ = some o) (hr : (Sum.elim (fun s : Int × Int × Int × Mem => Ev l D cy g K yX12_rests cX12_rests 12 (some .int) (rmd 2 0 0) (MX D cy g K (rmd 2 0 0) Φ) 0 0 M x (L s.2.2.2) 52 [(0, vr g 75), (1, vi lose), (2, vi turns), (3, vi waits), (4, vi what), (5, vb v1), (6, vi s.1), (7, vi s.2.1), (8, vi s.2.2.1)] []) (fun e : Int × Int × Mem => Ev l D cy g K yX12_rests cX12_rests 12 (some .int) (rmd 2 0 0) (MX D cy g K (rmd 2 0 0) Φ) 0 0 M x (L e.2.2) 174 [(0, vr g 75), (4, vi what), (5, vb v1), (6, vi e.1), (7, vi e.2.1)] [])) o) : Ev l D cy g K yX12_rests cX12_rests 12 (some .int) (rmd 2 0 0) (MX D cy g K (rmd 2 0 0) Φ) 0 0 M x (L μ) 52 [(0, vr g 75), (1, vi lose), (2, vi turns), (3, vi waits), (4, vi what), (5, vb v1), (6, vi v6), (7, vi v7), (8, vi v8)] [] := by
  unfold fX12_rests_b52 at hf
  refine ev_iload dX12_rests_52 8 rfl ?_
  refine ev_iconst dX12_rests_54 ?_
  refine ev_icmp_ge 174 dX12_rests_55 (by decide) (fun h9 => ?_) (fun h9 => ?_)
  · rw [if_neg h9] at hf
    obtain rfl := Option.some.inj hf
    refine ev_sub [0, 4, 5, 6, 7] rfl ?_
    exact hr
  · rw [if_pos h9] at hf
    refine ev_iload dX12_rests_58 5 rfl ?_
    refine ev_ifb_eq 174 dX12_rests_60 (by decide) (fun h10 => ?_) (fun h10 => ?_)
    · rw [if_neg h10] at hf
      obtain rfl := Option.some.inj hf
      refine ev_sub [0, 4, 5, 6, 7] rfl ?_
      exact hr
    · rw [if_pos h10] at hf
      refine ev_iload dX12_rests_63 8 rfl ?_
      refine ev_iconst dX12_rests_65 ?_
      refine ev_idiv dX12_rests_66 (by decide) ?_
      obtain ⟨v11, hv11, hf⟩ := lt_elim hf
      refine ev_rni hv11 ?_
      refine ev_istore (al2 := [(9, vi v11), (0, vr g 75), (1, vi lose), (2, vi turns), (3, vi waits), (4, vi what), (5, vb v1), (6, vi v6), (7, vi v7), (8, vi v8)]) dX12_rests_67 (by decide) rfl ?_
      refine ev_iload dX12_rests_69 9 rfl ?_
      refine ev_iconst dX12_rests_71 ?_
      refine ev_irem dX12_rests_72 (by decide) ?_
      obtain ⟨v12, hv12, hf⟩ := lt_elim hf
      refine ev_rni hv12 ?_
      refine ev_istore (al2 := [(10, vi v12), (9, vi v11), (0, vr g 75), (1, vi lose), (2, vi turns), (3, vi waits), (4, vi what), (5, vb v1), (6, vi v6), (7, vi v7), (8, vi v8)]) dX12_rests_73 (by decide) rfl ?_
      refine ev_iconst dX12_rests_75 ?_
      refine ev_iload dX12_rests_76 1 rfl ?_
      refine ev_isub dX12_rests_78 ?_
      refine ev_iload dX12_rests_79 0 rfl ?_
      refine ev_iload_n dX12_rests_81 3 rfl ?_
      refine ev_iload_n dX12_rests_82 4 rfl ?_
      refine ev_iload_n dX12_rests_83 5 rfl ?_
      obtain ⟨v13, hv13, hf⟩ := lt_elim hf
      refine cl_S1 (As := [vi (1 - v11), vi v12, vi lose, vi turns, vi waits]) (st := []) miX12_getsBy (tX12_getsBy (1 - v11) v12 lose turns waits (L μ) hv13.symm) dX12_rests_84 lkX12_368 stX12_getsBy rfl ⟨⟨Nat.le_of_ble_eq_true rfl, Nat.le_of_ble_eq_true rfl⟩, Nat.zero_le _, Nat.zero_le _⟩ (Nat.le_of_ble_eq_true rfl) ?_
      refine ev_iload dX12_rests_87 1 rfl ?_
      refine ev_iload dX12_rests_89 0 rfl ?_
      refine ev_iload_n dX12_rests_91 3 rfl ?_
      refine ev_iload_n dX12_rests_92 4 rfl ?_
      refine ev_iload_n dX12_rests_93 5 rfl ?_
      obtain ⟨v14, hv14, hf⟩ := lt_elim hf
      refine cl_S1 (As := [vi v11, vi v12, vi lose, vi turns, vi waits]) (st := [vi v13]) miX12_getsBy (tX12_getsBy v11 v12 lose turns waits (L μ) hv14.symm) dX12_rests_94 lkX12_368 stX12_getsBy rfl ⟨⟨Nat.le_of_ble_eq_true rfl, Nat.le_of_ble_eq_true rfl⟩, Nat.zero_le _, Nat.zero_le _⟩ (Nat.le_of_ble_eq_true rfl) ?_
      obtain ⟨v15, hv15, hf⟩ := lt_elim hf
      have hJv15 : Ev l D cy g K yX12_rests cX12_rests 12 (some .int) (rmd 2 0 0) (MX D cy g K (rmd 2 0 0) Φ) 0 0 M x (L μ) 130 [(10, vi v12), (9, vi v11), (0, vr g 75), (1, vi lose), (2, vi turns), (3, vi waits), (4, vi what), (5, vb v1), (6, vi v6), (7, vi v7), (8, vi v8)] [vb v15] := by
        refine ev_istore (al2 := [(11, vb v15), (10, vi v12), (9, vi v11), (0, vr g 75), (1, vi lose), (2, vi turns), (3, vi waits), (4, vi what), (5, vb v1), (6, vi v6), (7, vi v7), (8, vi v8)]) dX12_rests_130 (by decide) rfl ?_
        refine ev_iload dX12_rests_132 0 rfl ?_
        obtain ⟨v18, hv18, hf⟩ := lt_elim hf
        have hJv18 : Ev l D cy g K yX12_rests cX12_rests 12 (some .int) (rmd 2 0 0) (MX D cy g K (rmd 2 0 0) Φ) 0 0 M x (L μ) 151 [(11, vb v15), (10, vi v12), (9, vi v11), (0, vr g 75), (1, vi lose), (2, vi turns), (3, vi waits), (4, vi what), (5, vb v1), (6, vi v6), (7, vi v7), (8, vi v8)] [vi v18] := by
          refine ev_istore (al2 := [(7, vi v18), (11, vb v15), (10, vi v12), (9, vi v11), (0, vr g 75), (1, vi lose), (2, vi turns), (3, vi waits), (4, vi what), (5, vb v1), (6, vi v6), (8, vi v8)]) dX12_rests_151 (by decide) rfl ?_
          refine ev_iload dX12_rests_153 10 rfl ?_
          refine ev_iload dX12_rests_155 1 rfl ?_
          obtain ⟨v21, hv21, hf⟩ := lt_elim hf
          have hJv21 : Ev l D cy g K yX12_rests cX12_rests 12 (some .int) (rmd 2 0 0) (MX D cy g K (rmd 2 0 0) Φ) 0 0 M x (L μ) 165 [(7, vi v18), (11, vb v15), (10, vi v12), (9, vi v11), (0, vr g 75), (1, vi lose), (2, vi turns), (3, vi waits), (4, vi what), (5, vb v1), (6, vi v6), (8, vi v8)] [vi v21, vi v6] := by
            refine ev_iadd dX12_rests_165 ?_
            obtain ⟨v23, hv23, hf⟩ := lt_elim hf
            refine ev_rni hv23 ?_
            refine ev_istore (al2 := [(6, vi v23), (7, vi v18), (11, vb v15), (10, vi v12), (9, vi v11), (0, vr g 75), (1, vi lose), (2, vi turns), (3, vi waits), (4, vi what), (5, vb v1), (8, vi v8)]) dX12_rests_166 (by decide) rfl ?_
            refine ev_iinc (al2 := [(8, vi (v8 + 1)), (6, vi v23), (7, vi v18), (11, vb v15), (10, vi v12), (9, vi v11), (0, vr g 75), (1, vi lose), (2, vi turns), (3, vi waits), (4, vi what), (5, vb v1)]) dX12_rests_168 11 rfl (by decide) rfl ?_
            refine ev_goto 52 dX12_rests_171 (by decide) ?_
            obtain rfl := Option.some.inj hf
            refine ev_sub [6, 7, 8, 9, 10, 11, 1, 2, 0] rfl ?_
            exact hr
          refine ev_ifb_eq 164 dX12_rests_157 (by decide) (fun h22 => ?_) (fun h22 => ?_)
          · refine ev_iconst dX12_rests_164 ?_
            have e9 : v21 = 0 := hv21.trans ((if_neg h22))
            subst e9
            exact hJv21
          · refine ev_iconst dX12_rests_160 ?_
            refine ev_goto 165 dX12_rests_161 (by decide) ?_
            have e9 : v21 = 1 := hv21.trans ((if_pos h22))
            subst e9
            exact hJv21
        refine ev_ifb_eq 149 dX12_rests_134 (by decide) (fun h19 => ?_) (fun h19 => ?_)
        · refine ev_iload dX12_rests_149 10 rfl ?_
          have e9 : v18 = v7 := hv18.trans ((if_neg h19))
          subst e9
          exact hJv18
        · refine ev_iload dX12_rests_137 9 rfl ?_
          refine ev_iload dX12_rests_139 7 rfl ?_
          refine ev_icmp_ne 149 dX12_rests_141 (by decide) (fun h20 => ?_) (fun h20 => ?_)
          · refine ev_iload dX12_rests_149 10 rfl ?_
            have e9 : v18 = v7 := hv18.trans (((if_pos h19)).trans (if_neg h20))
            subst e9
            exact hJv18
          · refine ev_iload dX12_rests_144 11 rfl ?_
            refine ev_goto 151 dX12_rests_146 (by decide) ?_
            have e9 : v18 = v8 := hv18.trans (((if_pos h19)).trans (if_pos h20))
            subst e9
            exact hJv18
      refine ev_icmp_gt 129 dX12_rests_97 (by decide) (fun h16 => ?_) (fun h16 => ?_)
      · refine ev_iconst dX12_rests_129 ?_
        have e9 : v15 = false := hv15.trans ((if_neg h16))
        subst e9
        exact hJv15
      · refine ev_iconst dX12_rests_100 ?_
        refine ev_iload dX12_rests_101 0 rfl ?_
        refine ev_isub dX12_rests_103 ?_
        refine ev_iload dX12_rests_104 1 rfl ?_
        refine ev_iload_n dX12_rests_106 3 rfl ?_
        refine ev_iload_n dX12_rests_107 4 rfl ?_
        refine ev_iload_n dX12_rests_108 5 rfl ?_
        refine cl_S1 (As := [vi (1 - v12), vi v11, vi lose, vi turns, vi waits]) (st := []) miX12_getsBy (tX12_getsBy (1 - v12) v11 lose turns waits (L μ) (o := (fX12_getsBy (1 - v12) v11 lose turns waits)) rfl) dX12_rests_109 lkX12_368 stX12_getsBy rfl ⟨⟨Nat.le_of_ble_eq_true rfl, Nat.le_of_ble_eq_true rfl⟩, Nat.zero_le _, Nat.zero_le _⟩ (Nat.le_of_ble_eq_true rfl) ?_
        refine ev_iload dX12_rests_112 0 rfl ?_
        refine ev_iload dX12_rests_114 1 rfl ?_
        refine ev_iload_n dX12_rests_116 3 rfl ?_
        refine ev_iload_n dX12_rests_117 4 rfl ?_
        refine ev_iload_n dX12_rests_118 5 rfl ?_
        refine cl_S1 (As := [vi v12, vi v11, vi lose, vi turns, vi waits]) (st := [vi (fX12_getsBy (1 - v12) v11 lose turns waits)]) miX12_getsBy (tX12_getsBy v12 v11 lose turns waits (L μ) (o := (fX12_getsBy v12 v11 lose turns waits)) rfl) dX12_rests_119 lkX12_368 stX12_getsBy rfl ⟨⟨Nat.le_of_ble_eq_true rfl, Nat.le_of_ble_eq_true rfl⟩, Nat.zero_le _, Nat.zero_le _⟩ (Nat.le_of_ble_eq_true rfl) ?_
        refine ev_icmp_gt 129 dX12_rests_122 (by decide) (fun h17 => ?_) (fun h17 => ?_)
        · refine ev_iconst dX12_rests_129 ?_
          have e9 : v15 = false := hv15.trans (((if_pos h16)).trans (if_neg h17))
          subst e9
          exact hJv15
        · refine ev_iconst dX12_rests_125 ?_
          refine ev_goto 130 dX12_rests_126 (by decide) ?_
          have e9 : v15 = true := hv15.trans (((if_pos h16)).trans (if_pos h17))
          subst e9
          exact hJv15
def fX12_rests_j174 (lose : Int) (turns : Int) (waits : Int) (what : Int) (v25 : Bool) (v26 : Int) (v27 : Int) (μ : Mem) : Option (Int × Mem) :=
  lt (if v25 = true then
      if w32 what < 0 then
        false
      else
        if w32 v27 < 0 then
          true
        else
          false
    else
      true) fun v28 =>
  lt (upd2 μ 75 0 (b2i v28)) fun μ32 =>
  lt (if w32 (μ32 75 0) ≤ 0 then
      if w32 what < 0 then
        v26
      else
        v27
    else
      0) fun v33 =>
  some ((v33, μ32))
set_option maxRecDepth 4000 in
theorem tX12_rests_j174 (hS : Sd M K P L) (hc : CIn P 75 76) (lose : Int) (turns : Int) (waits : Int) (what : Int) (v25 : Bool) (v26 : Int) (v27 : Int) (μ : Mem)  {o : Int × Mem} (hf : fX12_rests_j174 lose turns waits what v25 v26 v27 μ = some o) (hr : (fun o : Int × Mem => Φ (some (vi o.1)) M x (L o.2)) o) : Ev l D cy g K yX12_rests cX12_rests 12 (some .int) (rmd 2 0 0) (MX D cy g K (rmd 2 0 0) Φ) 0 0 M x (L μ) 174 [(0, vr g 75), (4, vi what), (5, vb v25), (6, vi v26), (7, vi v27)] [] := by
  unfold fX12_rests_j174 at hf
  refine ev_aload_n dX12_rests_174 0 rfl ?_
  refine ev_iload dX12_rests_175 2 rfl ?_
  obtain ⟨v28, hv28, hf⟩ := lt_elim hf
  have hJv28 : Ev l D cy g K yX12_rests cX12_rests 12 (some .int) (rmd 2 0 0) (MX D cy g K (rmd 2 0 0) Φ) 0 0 M x (L μ) 195 [(0, vr g 75), (4, vi what), (5, vb v25), (6, vi v26), (7, vi v27)] [vb v28, vr g 75] := by
    obtain ⟨μ32, hμ32, hf⟩ := lt_elim hf
    refine ev_putI 0 dX12_rests_195 (hS.lt (hc 75 rfl)) rfl ciX12 (by decide) (Or.inl rfl) rfl rfl flX12_1 (hS.up (hc 75 rfl) hμ32) ?_
    refine ev_aload_n dX12_rests_198 0 rfl ?_
    refine ev_getI 0 dX12_rests_199 (hS.lt (hc 75 rfl)) rfl (hS.mem _ (hc 75 rfl)) ciX12 (by decide) rfl flX12_1 ?_
    obtain ⟨v33, hv33, hf⟩ := lt_elim hf
    have hJv33 : Ev l D cy g K yX12_rests cX12_rests 12 (some .int) (rmd 2 0 0) (MX D cy g K (rmd 2 0 0) Φ) 0 0 M x (L μ32) 221 [(0, vr g 75), (4, vi what), (5, vb v25), (6, vi v26), (7, vi v27)] [vi v33] := by
      obtain rfl := Option.some.inj hf
      exact ev_iret dX12_rests_221 rfl ⟨Nat.zero_le _, Nat.zero_le _⟩ hr
    refine ev_if_le 209 dX12_rests_202 (by decide) (fun h34 => ?_) (fun h34 => ?_)
    · refine ev_iload dX12_rests_209 1 rfl ?_
      refine ev_if_ge 219 dX12_rests_211 (by decide) (fun h35 => ?_) (fun h35 => ?_)
      · refine ev_iload dX12_rests_219 4 rfl ?_
        have e9 : v33 = v27 := hv33.trans (((if_pos h34)).trans (if_neg h35))
        subst e9
        exact hJv33
      · refine ev_iload dX12_rests_214 3 rfl ?_
        refine ev_goto 221 dX12_rests_216 (by decide) ?_
        have e9 : v33 = v26 := hv33.trans (((if_pos h34)).trans (if_pos h35))
        subst e9
        exact hJv33
    · refine ev_iconst dX12_rests_205 ?_
      refine ev_goto 221 dX12_rests_206 (by decide) ?_
      have e9 : v33 = 0 := hv33.trans ((if_neg h34))
      subst e9
      exact hJv33
  refine ev_ifb_eq 194 dX12_rests_177 (by decide) (fun h29 => ?_) (fun h29 => ?_)
  · refine ev_iconst dX12_rests_194 ?_
    have e9 : v28 = true := hv28.trans ((if_neg h29))
    subst e9
    exact hJv28
  · refine ev_iload dX12_rests_180 1 rfl ?_
    refine ev_if_lt 190 dX12_rests_182 (by decide) (fun h30 => ?_) (fun h30 => ?_)
    · refine ev_iconst dX12_rests_190 ?_
      refine ev_goto 195 dX12_rests_191 (by decide) ?_
      have e9 : v28 = false := hv28.trans (((if_pos h29)).trans (if_pos h30))
      subst e9
      exact hJv28
    · refine ev_iload dX12_rests_185 4 rfl ?_
      refine ev_if_lt 194 dX12_rests_187 (by decide) (fun h31 => ?_) (fun h31 => ?_)
      · refine ev_iconst dX12_rests_194 ?_
        have e9 : v28 = true := hv28.trans (((if_pos h29)).trans (((if_neg h30)).trans (if_pos h31)))
        subst e9
        exact hJv28
      · refine ev_iconst dX12_rests_190 ?_
        refine ev_goto 195 dX12_rests_191 (by decide) ?_
        have e9 : v28 = false := hv28.trans (((if_pos h29)).trans (((if_neg h30)).trans (if_neg h31)))
        subst e9
        exact hJv28
def fX12_rests (lose : Int) (turns : Int) (waits : Int) (what : Int) (μ : Mem) : Option (Int × Mem) :=
  lt (if (fX12_within lose 0 9) = true then
      if (fX12_within turns 0 9) = true then
        if (fX12_within waits 0 9) = true then
          if w32 what < w32 (-1) then
            false
          else
            true
        else
          false
      else
        false
    else
      false) fun v1 =>
  (loopN (fun s => fX12_rests_b52 lose turns waits what v1 s.1 s.2.1 s.2.2.1 s.2.2.2) FU (0, (-1), 0, μ)).bind fun q24 =>
  fX12_rests_j174 lose turns waits what v1 q24.1 q24.2.1 q24.2.2
set_option maxRecDepth 4000 in
theorem eX12_rests (hS : Sd M K P L) (hc : CIn P 75 76) (lose : Int) (turns : Int) (waits : Int) (what : Int) (μ : Mem)  {o : Int × Mem} (hf : fX12_rests lose turns waits what μ = some o) (hr : (fun o : Int × Mem => Φ (some (vi o.1)) M x (L o.2)) o) : Ev l D cy g K yX12_rests cX12_rests 12 (some .int) (rmd 2 0 0) (MX D cy g K (rmd 2 0 0) Φ) 0 0 M x (L μ) 0 [(0, vr g 75), (1, vi lose), (2, vi turns), (3, vi waits), (4, vi what)] [] := by
  unfold fX12_rests at hf
  refine ev_iload_n dX12_rests_0 1 rfl ?_
  refine ev_iconst dX12_rests_1 ?_
  refine ev_bipush dX12_rests_2 (by decide) ?_
  refine cl_S1 (As := [vi lose, vi 0, vi 9]) (st := []) miX12_within (tX12_within lose 0 9 (L μ) (o := (fX12_within lose 0 9)) rfl) dX12_rests_4 lkX12_270 stX12_within rfl ⟨⟨Nat.le_of_ble_eq_true rfl, Nat.le_of_ble_eq_true rfl⟩, Nat.zero_le _, Nat.zero_le _⟩ (Nat.le_of_ble_eq_true rfl) ?_
  obtain ⟨v1, hv1, hf⟩ := lt_elim hf
  have hJv1 : Ev l D cy g K yX12_rests cX12_rests 12 (some .int) (rmd 2 0 0) (MX D cy g K (rmd 2 0 0) Φ) 0 0 M x (L μ) 41 [(0, vr g 75), (1, vi lose), (2, vi turns), (3, vi waits), (4, vi what)] [vb v1] := by
    refine ev_istore (al2 := [(5, vb v1), (0, vr g 75), (1, vi lose), (2, vi turns), (3, vi waits), (4, vi what)]) dX12_rests_41 (by decide) rfl ?_
    refine ev_iconst dX12_rests_43 ?_
    refine ev_istore (al2 := [(6, vi 0), (5, vb v1), (0, vr g 75), (1, vi lose), (2, vi turns), (3, vi waits), (4, vi what)]) dX12_rests_44 (by decide) rfl ?_
    refine ev_iconst dX12_rests_46 ?_
    refine ev_istore (al2 := [(7, vi (-1)), (6, vi 0), (5, vb v1), (0, vr g 75), (1, vi lose), (2, vi turns), (3, vi waits), (4, vi what)]) dX12_rests_47 (by decide) rfl ?_
    refine ev_iconst dX12_rests_49 ?_
    refine ev_istore (al2 := [(8, vi 0), (7, vi (-1)), (6, vi 0), (5, vb v1), (0, vr g 75), (1, vi lose), (2, vi turns), (3, vi waits), (4, vi what)]) dX12_rests_50 (by decide) rfl ?_
    obtain ⟨q24, hq24, hf⟩ := Option.bind_eq_some_iff.mp hf
    refine ev_sub [4, 5, 6, 7, 8, 3, 2, 1, 0] rfl ?_
    refine loop_ev (H := (fun s : Int × Int × Int × Mem => Ev l D cy g K yX12_rests cX12_rests 12 (some .int) (rmd 2 0 0) (MX D cy g K (rmd 2 0 0) Φ) 0 0 M x (L s.2.2.2) 52 [(0, vr g 75), (1, vi lose), (2, vi turns), (3, vi waits), (4, vi what), (5, vb v1), (6, vi s.1), (7, vi s.2.1), (8, vi s.2.2.1)] [])) (Hx := (fun e : Int × Int × Mem => Ev l D cy g K yX12_rests cX12_rests 12 (some .int) (rmd 2 0 0) (MX D cy g K (rmd 2 0 0) Φ) 0 0 M x (L e.2.2) 174 [(0, vr g 75), (4, vi what), (5, vb v1), (6, vi e.1), (7, vi e.2.1)] [])) (fun s o hb hr => tX12_rests_b52 hS hc lose turns waits what v1 s.1 s.2.1 s.2.2.1 s.2.2.2 hb hr) FU _ _ hq24 ?_
    show Ev l D cy g K yX12_rests cX12_rests 12 (some .int) (rmd 2 0 0) (MX D cy g K (rmd 2 0 0) Φ) 0 0 M x (L q24.2.2) 174 [(0, vr g 75), (4, vi what), (5, vb v1), (6, vi q24.1), (7, vi q24.2.1)] []
    refine ev_sub [0, 1, 2, 3, 4] rfl ?_
    exact tX12_rests_j174 hS hc lose turns waits what v1 q24.1 q24.2.1 q24.2.2 hf hr
  refine ev_ifb_eq 40 dX12_rests_7 (by decide) (fun h2 => ?_) (fun h2 => ?_)
  · refine ev_iconst dX12_rests_40 ?_
    have e9 : v1 = false := hv1.trans ((if_neg h2))
    subst e9
    exact hJv1
  · refine ev_iload_n dX12_rests_10 2 rfl ?_
    refine ev_iconst dX12_rests_11 ?_
    refine ev_bipush dX12_rests_12 (by decide) ?_
    refine cl_S1 (As := [vi turns, vi 0, vi 9]) (st := []) miX12_within (tX12_within turns 0 9 (L μ) (o := (fX12_within turns 0 9)) rfl) dX12_rests_14 lkX12_270 stX12_within rfl ⟨⟨Nat.le_of_ble_eq_true rfl, Nat.le_of_ble_eq_true rfl⟩, Nat.zero_le _, Nat.zero_le _⟩ (Nat.le_of_ble_eq_true rfl) ?_
    refine ev_ifb_eq 40 dX12_rests_17 (by decide) (fun h3 => ?_) (fun h3 => ?_)
    · refine ev_iconst dX12_rests_40 ?_
      have e9 : v1 = false := hv1.trans (((if_pos h2)).trans (if_neg h3))
      subst e9
      exact hJv1
    · refine ev_iload_n dX12_rests_20 3 rfl ?_
      refine ev_iconst dX12_rests_21 ?_
      refine ev_bipush dX12_rests_22 (by decide) ?_
      refine cl_S1 (As := [vi waits, vi 0, vi 9]) (st := []) miX12_within (tX12_within waits 0 9 (L μ) (o := (fX12_within waits 0 9)) rfl) dX12_rests_24 lkX12_270 stX12_within rfl ⟨⟨Nat.le_of_ble_eq_true rfl, Nat.le_of_ble_eq_true rfl⟩, Nat.zero_le _, Nat.zero_le _⟩ (Nat.le_of_ble_eq_true rfl) ?_
      refine ev_ifb_eq 40 dX12_rests_27 (by decide) (fun h4 => ?_) (fun h4 => ?_)
      · refine ev_iconst dX12_rests_40 ?_
        have e9 : v1 = false := hv1.trans (((if_pos h2)).trans (((if_pos h3)).trans (if_neg h4)))
        subst e9
        exact hJv1
      · refine ev_iload dX12_rests_30 4 rfl ?_
        refine ev_iconst dX12_rests_32 ?_
        refine ev_icmp_lt 40 dX12_rests_33 (by decide) (fun h5 => ?_) (fun h5 => ?_)
        · refine ev_iconst dX12_rests_40 ?_
          have e9 : v1 = false := hv1.trans (((if_pos h2)).trans (((if_pos h3)).trans (((if_pos h4)).trans (if_pos h5))))
          subst e9
          exact hJv1
        · refine ev_iconst dX12_rests_36 ?_
          refine ev_goto 41 dX12_rests_37 (by decide) ?_
          have e9 : v1 = true := hv1.trans (((if_pos h2)).trans (((if_pos h3)).trans (((if_pos h4)).trans (if_neg h5))))
          subst e9
          exact hJv1
theorem tX12_rests (hS : Sd M K P L) (hc : CIn P 75 76) (lose : Int) (turns : Int) (waits : Int) (what : Int) (μ : Mem) {o : Int × Mem} (hf : fX12_rests lose turns waits what μ = some o) : Cn l D cy g K K yX12_rests cX12_rests 12 (some .int) (rmd 2 0 0) [vr g 75, vi lose, vi turns, vi waits, vi what] M x (L μ) (PE (some (vi o.1)) M x (L o.2)) :=
 Cn.of (by decide) (Nat.le_of_ble_eq_true rfl) (eX12_rests hS hc lose turns waits what μ hf (PE_i _ _ _ _))
def fX12_draw (m0 : Int) (μ : Mem) : Option (Int × Mem) :=
  lt (upd2 μ 75 30 (l_rem (((μ 75 30) * 1103515245) + 12345) 2147483648)) fun μ1 =>
  gd (¬ w64 (w32 m0) = 0) <|
  some (((l_2i (l_rem (l_div (μ1 75 30) 65536) (w32 m0))), μ1))
set_option maxRecDepth 4000 in
theorem eX12_draw (hS : Sd M K P L) (hc : CIn P 75 76) (m0 : Int) (μ : Mem)  {o : Int × Mem} (hf : fX12_draw m0 μ = some o) (hr : (fun o : Int × Mem => Φ (some (vi o.1)) M x (L o.2)) o) : Ev l D cy g K yX12_draw cX12_draw 2 (some .int) (rmd 1 0 0) (MX D cy g K (rmd 1 0 0) Φ) 0 0 M x (L μ) 0 [(0, vr g 75), (1, vi m0)] [] := by
  unfold fX12_draw at hf
  refine ev_aload_n dX12_draw_0 0 rfl ?_
  refine ev_aload_n dX12_draw_1 0 rfl ?_
  refine ev_getJ 30 dX12_draw_2 (hS.lt (hc 75 rfl)) rfl (hS.mem _ (hc 75 rfl)) ciX12 (by decide) rfl flX12_372 ?_
  refine ev_ldc2 1103515245 dX12_draw_5 klX12_376 (by decide) ?_
  refine ev_lmul dX12_draw_8 ?_
  refine ev_ldc2 12345 dX12_draw_9 klX12_378 (by decide) ?_
  refine ev_ladd dX12_draw_12 ?_
  refine ev_ldc2 2147483648 dX12_draw_13 klX12_380 (by decide) ?_
  refine ev_lrem dX12_draw_16 (by decide) ?_
  obtain ⟨μ1, hμ1, hf⟩ := lt_elim hf
  refine ev_putJ 30 dX12_draw_17 (hS.lt (hc 75 rfl)) rfl ciX12 (by decide) (Or.inl rfl) rfl rfl flX12_372 (hS.up (hc 75 rfl) hμ1) ?_
  refine ev_aload_n dX12_draw_20 0 rfl ?_
  refine ev_getJ 30 dX12_draw_21 (hS.lt (hc 75 rfl)) rfl (hS.mem _ (hc 75 rfl)) ciX12 (by decide) rfl flX12_372 ?_
  refine ev_ldc2 65536 dX12_draw_24 klX12_382 (by decide) ?_
  refine ev_ldiv dX12_draw_27 (by decide) ?_
  refine ev_iload_n dX12_draw_28 1 rfl ?_
  refine ev_i2l dX12_draw_29 ?_
  obtain ⟨g2, hf⟩ := gd_elim hf
  refine ev_lrem dX12_draw_30 g2 ?_
  refine ev_l2i dX12_draw_31 ?_
  obtain rfl := Option.some.inj hf
  exact ev_iret dX12_draw_32 rfl ⟨Nat.zero_le _, Nat.zero_le _⟩ hr
theorem tX12_draw (hS : Sd M K P L) (hc : CIn P 75 76) (m0 : Int) (μ : Mem) {o : Int × Mem} (hf : fX12_draw m0 μ = some o) : Cn l D cy g K K yX12_draw cX12_draw 2 (some .int) (rmd 1 0 0) [vr g 75, vi m0] M x (L μ) (PE (some (vi o.1)) M x (L o.2)) :=
 Cn.of (by decide) (Nat.le_of_ble_eq_true rfl) (eX12_draw hS hc m0 μ hf (PE_i _ _ _ _))
def fX12_mornings_j131 (seed : Int) (turns : Int) (what : Int) (v20 : Int) (v21 : Int) (v22 : Int) (v23 : Int) (μ : Mem) : Option ((Int × Int × Int × Int × Mem) ⊕ (Int × Int × Int × Mem)) :=
  if w32 v22 < 0 then
    (fX12_isServed μ).bind fun v25 =>
    lt (if v25 = true then
        v23
      else
        v22) fun v26 =>
    some (.inl (v20, v21, v26, (v23 + 1), μ))
  else
    some (.inl (v20, v21, v22, (v23 + 1), μ))
set_option maxRecDepth 4000 in
theorem tX12_mornings_j131 (hS : Sd M K P L) (hc : CIn P 75 92) (seed : Int) (turns : Int) (what : Int) (v20 : Int) (v21 : Int) (v22 : Int) (v23 : Int) (μ : Mem)  {o : (Int × Int × Int × Int × Mem) ⊕ (Int × Int × Int × Mem)} (hf : fX12_mornings_j131 seed turns what v20 v21 v22 v23 μ = some o) (hr : (Sum.elim (fun s : Int × Int × Int × Int × Mem => Ev l D cy g K yX12_mornings cX12_mornings 9 (some .int) (rmd 5 0 0) (MX D cy g K (rmd 5 0 0) Φ) 0 0 M x (L s.2.2.2.2) 77 [(0, vr g 75), (2, vi turns), (3, vi what), (4, vi s.1), (5, vi s.2.1), (6, vi s.2.2.1), (7, vi s.2.2.2.1)] []) (fun e : Int × Int × Int × Mem => Ev l D cy g K yX12_mornings cX12_mornings 9 (some .int) (rmd 5 0 0) (MX D cy g K (rmd 5 0 0) Φ) 0 0 M x (L e.2.2.2) 158 [(3, vi what), (4, vi e.1), (5, vi e.2.1), (6, vi e.2.2.1)] [])) o) : Ev l D cy g K yX12_mornings cX12_mornings 9 (some .int) (rmd 5 0 0) (MX D cy g K (rmd 5 0 0) Φ) 0 0 M x (L μ) 131 [(0, vr g 75), (2, vi turns), (3, vi what), (4, vi v20), (5, vi v21), (6, vi v22), (7, vi v23)] [] := by
  unfold fX12_mornings_j131 at hf
  refine ev_iload dX12_mornings_131 5 rfl ?_
  refine ev_if_ge 148 dX12_mornings_133 (by decide) (fun h24 => ?_) (fun h24 => ?_)
  · rw [if_neg h24] at hf
    refine ev_iload dX12_mornings_148 5 rfl ?_
    refine ev_istore (al2 := [(6, vi v22), (0, vr g 75), (2, vi turns), (3, vi what), (4, vi v20), (5, vi v21), (7, vi v23)]) dX12_mornings_150 (by decide) rfl ?_
    refine ev_iinc (al2 := [(7, vi (v23 + 1)), (6, vi v22), (0, vr g 75), (2, vi turns), (3, vi what), (4, vi v20), (5, vi v21)]) dX12_mornings_152 6 rfl (by decide) rfl ?_
    refine ev_goto 77 dX12_mornings_155 (by decide) ?_
    obtain rfl := Option.some.inj hf
    refine ev_sub [2, 3, 4, 5, 6, 1, 0] rfl ?_
    exact hr
  · rw [if_pos h24] at hf
    refine ev_aload_n dX12_mornings_136 0 rfl ?_
    obtain ⟨v25, hv25, hf⟩ := Option.bind_eq_some_iff.mp hf
    refine cl_V1 (As := []) (st := []) miX12_isServed (tX12_isServed hS (hc.w rfl rfl) μ hv25) dX12_mornings_137 lkX12_289 inX12_isServed rfl (hS.lt (hc 75 rfl)) rfl ⟨rfl, rfl⟩ ⟨⟨Nat.le_of_ble_eq_true rfl, Nat.le_of_ble_eq_true rfl⟩, Nat.zero_le _, Nat.zero_le _⟩ (Nat.le_of_ble_eq_true rfl) ?_
    obtain ⟨v26, hv26, hf⟩ := lt_elim hf
    have hJv26 : Ev l D cy g K yX12_mornings cX12_mornings 9 (some .int) (rmd 5 0 0) (MX D cy g K (rmd 5 0 0) Φ) 0 0 M x (L μ) 150 [(0, vr g 75), (2, vi turns), (3, vi what), (4, vi v20), (5, vi v21), (6, vi v22), (7, vi v23)] [vi v26] := by
      refine ev_istore (al2 := [(6, vi v26), (0, vr g 75), (2, vi turns), (3, vi what), (4, vi v20), (5, vi v21), (7, vi v23)]) dX12_mornings_150 (by decide) rfl ?_
      refine ev_iinc (al2 := [(7, vi (v23 + 1)), (6, vi v26), (0, vr g 75), (2, vi turns), (3, vi what), (4, vi v20), (5, vi v21)]) dX12_mornings_152 6 rfl (by decide) rfl ?_
      refine ev_goto 77 dX12_mornings_155 (by decide) ?_
      obtain rfl := Option.some.inj hf
      refine ev_sub [2, 3, 4, 5, 6, 1, 0] rfl ?_
      exact hr
    refine ev_ifb_eq 148 dX12_mornings_140 (by decide) (fun h27 => ?_) (fun h27 => ?_)
    · refine ev_iload dX12_mornings_148 5 rfl ?_
      have e9 : v26 = v22 := hv26.trans ((if_neg h27))
      subst e9
      exact hJv26
    · refine ev_iload dX12_mornings_143 6 rfl ?_
      refine ev_goto 150 dX12_mornings_145 (by decide) ?_
      have e9 : v26 = v23 := hv26.trans ((if_pos h27))
      subst e9
      exact hJv26
def fX12_mornings_b77 (seed : Int) (turns : Int) (what : Int) (v10 : Int) (v11 : Int) (v12 : Int) (v13 : Int) (μ : Mem) : Option ((Int × Int × Int × Int × Mem) ⊕ (Int × Int × Int × Mem)) :=
  if w32 v13 ≤ w32 turns then
    if w32 (μ 81 0) ≤ 0 then
      some (.inr (v10, v11, v12, μ))
    else
      (fX12_draw (μ 81 0) μ).bind fun q16 =>
      lt (q16.1 + 1) fun v17 =>
      (fX12_mayTurn v17 q16.2).bind fun q18 =>
      if q18.1 = true then
        (fX12_costOf v17 q18.2).bind fun q28 =>
        lt (v11 + q28.1) fun v29 =>
        (fX12_turns v17 q28.2).bind fun μ30 =>
        fX12_mornings_j131 seed turns what (v10 + 1) v29 v12 v13 μ30
      else
        fX12_mornings_j131 seed turns what v10 v11 v12 v13 q18.2
  else
    some (.inr (v10, v11, v12, μ))
set_option maxRecDepth 4000 in
theorem tX12_mornings_b77 (hS : Sd M K P L) (hc : CIn P 75 92) (seed : Int) (turns : Int) (what : Int) (v10 : Int) (v11 : Int) (v12 : Int) (v13 : Int) (μ : Mem)  {o : (Int × Int × Int × Int × Mem) ⊕ (Int × Int × Int × Mem)} (hf : fX12_mornings_b77 seed turns what v10 v11 v12 v13 μ = some o) (hr : (Sum.elim (fun s : Int × Int × Int × Int × Mem => Ev l D cy g K yX12_mornings cX12_mornings 9 (some .int) (rmd 5 0 0) (MX D cy g K (rmd 5 0 0) Φ) 0 0 M x (L s.2.2.2.2) 77 [(0, vr g 75), (2, vi turns), (3, vi what), (4, vi s.1), (5, vi s.2.1), (6, vi s.2.2.1), (7, vi s.2.2.2.1)] []) (fun e : Int × Int × Int × Mem => Ev l D cy g K yX12_mornings cX12_mornings 9 (some .int) (rmd 5 0 0) (MX D cy g K (rmd 5 0 0) Φ) 0 0 M x (L e.2.2.2) 158 [(3, vi what), (4, vi e.1), (5, vi e.2.1), (6, vi e.2.2.1)] [])) o) : Ev l D cy g K yX12_mornings cX12_mornings 9 (some .int) (rmd 5 0 0) (MX D cy g K (rmd 5 0 0) Φ) 0 0 M x (L μ) 77 [(0, vr g 75), (2, vi turns), (3, vi what), (4, vi v10), (5, vi v11), (6, vi v12), (7, vi v13)] [] := by
  unfold fX12_mornings_b77 at hf
  refine ev_iload dX12_mornings_77 6 rfl ?_
  refine ev_iload_n dX12_mornings_79 1 rfl ?_
  refine ev_icmp_gt 158 dX12_mornings_80 (by decide) (fun h14 => ?_) (fun h14 => ?_)
  · rw [if_neg h14] at hf
    obtain rfl := Option.some.inj hf
    refine ev_sub [2, 3, 4, 5] rfl ?_
    exact hr
  · rw [if_pos h14] at hf
    refine ev_aload_n dX12_mornings_83 0 rfl ?_
    refine cl_V1 (As := []) (st := []) miX12_cakes (tX12_cakes hS (hc.w rfl rfl) μ (o := (μ 81 0)) rfl) dX12_mornings_84 lkX12_209 inX12_cakes rfl (hS.lt (hc 75 rfl)) rfl ⟨rfl, rfl⟩ ⟨⟨Nat.le_of_ble_eq_true rfl, Nat.le_of_ble_eq_true rfl⟩, Nat.zero_le _, Nat.zero_le _⟩ (Nat.le_of_ble_eq_true rfl) ?_
    refine ev_if_le 158 dX12_mornings_87 (by decide) (fun h15 => ?_) (fun h15 => ?_)
    · rw [if_pos h15] at hf
      obtain rfl := Option.some.inj hf
      refine ev_sub [2, 3, 4, 5] rfl ?_
      exact hr
    · rw [if_neg h15] at hf
      refine ev_aload_n dX12_mornings_90 0 rfl ?_
      refine ev_aload_n dX12_mornings_91 0 rfl ?_
      refine cl_V1 (As := []) (st := [vr g 75]) miX12_cakes (tX12_cakes hS (hc.w rfl rfl) μ (o := (μ 81 0)) rfl) dX12_mornings_92 lkX12_209 inX12_cakes rfl (hS.lt (hc 75 rfl)) rfl ⟨rfl, rfl⟩ ⟨⟨Nat.le_of_ble_eq_true rfl, Nat.le_of_ble_eq_true rfl⟩, Nat.zero_le _, Nat.zero_le _⟩ (Nat.le_of_ble_eq_true rfl) ?_
      obtain ⟨q16, hq16, hf⟩ := Option.bind_eq_some_iff.mp hf
      refine cl_V1 (As := [vi (μ 81 0)]) (st := []) miX12_draw (tX12_draw hS (hc.w rfl rfl) (μ 81 0) μ hq16) dX12_mornings_95 lkX12_384 inX12_draw rfl (hS.lt (hc 75 rfl)) rfl ⟨rfl, rfl⟩ ⟨⟨Nat.le_of_ble_eq_true rfl, Nat.le_of_ble_eq_true rfl⟩, Nat.zero_le _, Nat.zero_le _⟩ (Nat.le_of_ble_eq_true rfl) ?_
      refine ev_iconst dX12_mornings_98 ?_
      refine ev_iadd dX12_mornings_99 ?_
      obtain ⟨v17, hv17, hf⟩ := lt_elim hf
      refine ev_rni hv17 ?_
      refine ev_istore (al2 := [(8, vi v17), (0, vr g 75), (2, vi turns), (3, vi what), (4, vi v10), (5, vi v11), (6, vi v12), (7, vi v13)]) dX12_mornings_100 (by decide) rfl ?_
      refine ev_aload_n dX12_mornings_102 1 rfl ?_
      refine ev_iload dX12_mornings_103 0 rfl ?_
      obtain ⟨q18, hq18, hf⟩ := Option.bind_eq_some_iff.mp hf
      refine cl_V1 (As := [vi v17]) (st := []) miX12_mayTurn (tX12_mayTurn hS (hc.w rfl rfl) v17 q16.2 hq18) dX12_mornings_105 lkX12_277 inX12_mayTurn rfl (hS.lt (hc 75 rfl)) rfl ⟨rfl, rfl⟩ ⟨⟨Nat.le_of_ble_eq_true rfl, Nat.le_of_ble_eq_true rfl⟩, Nat.zero_le _, Nat.zero_le _⟩ (Nat.le_of_ble_eq_true rfl) ?_
      refine ev_ifb_eq 131 dX12_mornings_108 (by decide) (fun h19 => ?_) (fun h19 => ?_)
      · rw [if_neg h19] at hf
        refine ev_sub [1, 2, 3, 4, 5, 6, 7] rfl ?_
        exact tX12_mornings_j131 hS hc seed turns what v10 v11 v12 v13 q18.2 hf hr
      · rw [if_pos h19] at hf
        refine ev_iinc (al2 := [(4, vi (v10 + 1)), (8, vi v17), (0, vr g 75), (2, vi turns), (3, vi what), (5, vi v11), (6, vi v12), (7, vi v13)]) dX12_mornings_111 4 rfl (by decide) rfl ?_
        refine ev_iload dX12_mornings_114 5 rfl ?_
        refine ev_aload_n dX12_mornings_116 2 rfl ?_
        refine ev_iload dX12_mornings_117 1 rfl ?_
        obtain ⟨q28, hq28, hf⟩ := Option.bind_eq_some_iff.mp hf
        refine cl_V1 (As := [vi v17]) (st := [vi v11]) miX12_costOf (tX12_costOf hS (hc.w rfl rfl) v17 q18.2 hq28) dX12_mornings_119 lkX12_283 inX12_costOf rfl (hS.lt (hc 75 rfl)) rfl ⟨rfl, rfl⟩ ⟨⟨Nat.le_of_ble_eq_true rfl, Nat.le_of_ble_eq_true rfl⟩, Nat.zero_le _, Nat.zero_le _⟩ (Nat.le_of_ble_eq_true rfl) ?_
        refine ev_iadd dX12_mornings_122 ?_
        obtain ⟨v29, hv29, hf⟩ := lt_elim hf
        refine ev_rni hv29 ?_
        refine ev_istore (al2 := [(5, vi v29), (4, vi (v10 + 1)), (8, vi v17), (0, vr g 75), (2, vi turns), (3, vi what), (6, vi v12), (7, vi v13)]) dX12_mornings_123 (by decide) rfl ?_
        refine ev_aload_n dX12_mornings_125 3 rfl ?_
        refine ev_iload dX12_mornings_126 2 rfl ?_
        obtain ⟨μ30, hμ30, hf⟩ := Option.bind_eq_some_iff.mp hf
        refine cl_V0 (As := [vi v17]) (st := []) miX12_turns (tX12_turns hS (hc.w rfl rfl) v17 q28.2 hμ30) dX12_mornings_128 lkX12_286 inX12_turns rfl (hS.lt (hc 75 rfl)) rfl ⟨rfl, rfl⟩ ⟨⟨Nat.le_of_ble_eq_true rfl, Nat.le_of_ble_eq_true rfl⟩, Nat.zero_le _, Nat.zero_le _⟩ (Nat.le_of_ble_eq_true rfl) ?_
        refine ev_sub [3, 4, 5, 1, 0, 6, 7] rfl ?_
        exact tX12_mornings_j131 hS hc seed turns what (v10 + 1) v29 v12 v13 μ30 hf hr
def fX12_mornings_j158 (seed : Int) (turns : Int) (what : Int) (v36 : Int) (v37 : Int) (v38 : Int) (μ : Mem) : Option (Int × Mem) :=
  lt (if w32 what = 0 then
      v36
    else
      if w32 what = w32 1 then
        v37
      else
        v38) fun v39 =>
  some ((v39, μ))
set_option maxRecDepth 4000 in
theorem tX12_mornings_j158 (hS : Sd M K P L) (hc : CIn P 75 92) (seed : Int) (turns : Int) (what : Int) (v36 : Int) (v37 : Int) (v38 : Int) (μ : Mem)  {o : Int × Mem} (hf : fX12_mornings_j158 seed turns what v36 v37 v38 μ = some o) (hr : (fun o : Int × Mem => Φ (some (vi o.1)) M x (L o.2)) o) : Ev l D cy g K yX12_mornings cX12_mornings 9 (some .int) (rmd 5 0 0) (MX D cy g K (rmd 5 0 0) Φ) 0 0 M x (L μ) 158 [(3, vi what), (4, vi v36), (5, vi v37), (6, vi v38)] [] := by
  unfold fX12_mornings_j158 at hf
  refine ev_iload_n dX12_mornings_158 0 rfl ?_
  obtain ⟨v39, hv39, hf⟩ := lt_elim hf
  have hJv39 : Ev l D cy g K yX12_mornings cX12_mornings 9 (some .int) (rmd 5 0 0) (MX D cy g K (rmd 5 0 0) Φ) 0 0 M x (L μ) 179 [(3, vi what), (4, vi v36), (5, vi v37), (6, vi v38)] [vi v39] := by
    obtain rfl := Option.some.inj hf
    exact ev_iret dX12_mornings_179 rfl ⟨Nat.zero_le _, Nat.zero_le _⟩ hr
  refine ev_if_ne 167 dX12_mornings_159 (by decide) (fun h40 => ?_) (fun h40 => ?_)
  · refine ev_iload_n dX12_mornings_167 0 rfl ?_
    refine ev_iconst dX12_mornings_168 ?_
    refine ev_icmp_ne 177 dX12_mornings_169 (by decide) (fun h41 => ?_) (fun h41 => ?_)
    · refine ev_iload dX12_mornings_177 3 rfl ?_
      have e9 : v39 = v38 := hv39.trans (((if_neg h40)).trans (if_neg h41))
      subst e9
      exact hJv39
    · refine ev_iload dX12_mornings_172 2 rfl ?_
      refine ev_goto 179 dX12_mornings_174 (by decide) ?_
      have e9 : v39 = v37 := hv39.trans (((if_neg h40)).trans (if_pos h41))
      subst e9
      exact hJv39
  · refine ev_iload dX12_mornings_162 1 rfl ?_
    refine ev_goto 179 dX12_mornings_164 (by decide) ?_
    have e9 : v39 = v36 := hv39.trans ((if_pos h40))
    subst e9
    exact hJv39
def fX12_mornings (seed : Int) (turns : Int) (what : Int) (μ : Mem) : Option (Int × Mem) :=
  lt (upd2 μ 75 0 0) fun μ1 =>
  if (fX12_within seed 0 9999) = true then
    if (fX12_within turns 1 99) = true then
      if (fX12_within what 0 2) = true then
        (fX12_lays (μ1 88 0) μ1).bind fun μ5 =>
        lt (upd2 μ5 75 30 (w32 seed)) fun μ6 =>
        (fX12_isServed μ6).bind fun v7 =>
        lt (if v7 = true then
            0
          else
            (-1)) fun v8 =>
        (loopN (fun s => fX12_mornings_b77 seed turns what s.1 s.2.1 s.2.2.1 s.2.2.2.1 s.2.2.2.2) FU (0, 0, v8, 1, μ6)).bind fun q35 =>
        fX12_mornings_j158 seed turns what q35.1 q35.2.1 q35.2.2.1 q35.2.2.2
      else
        some (((-2), μ1))
    else
      some (((-2), μ1))
  else
    some (((-2), μ1))
set_option maxRecDepth 4000 in
theorem eX12_mornings (hS : Sd M K P L) (hc : CIn P 75 92) (seed : Int) (turns : Int) (what : Int) (μ : Mem)  {o : Int × Mem} (hf : fX12_mornings seed turns what μ = some o) (hr : (fun o : Int × Mem => Φ (some (vi o.1)) M x (L o.2)) o) : Ev l D cy g K yX12_mornings cX12_mornings 9 (some .int) (rmd 5 0 0) (MX D cy g K (rmd 5 0 0) Φ) 0 0 M x (L μ) 0 [(0, vr g 75), (1, vi seed), (2, vi turns), (3, vi what)] [] := by
  unfold fX12_mornings at hf
  refine ev_aload_n dX12_mornings_0 0 rfl ?_
  refine ev_iconst dX12_mornings_1 ?_
  obtain ⟨μ1, hμ1, hf⟩ := lt_elim hf
  refine ev_putI 0 dX12_mornings_2 (hS.lt (hc 75 rfl)) rfl ciX12 (by decide) (Or.inl rfl) rfl rfl flX12_1 (hS.up (hc 75 rfl) hμ1) ?_
  refine ev_iload_n dX12_mornings_5 1 rfl ?_
  refine ev_iconst dX12_mornings_6 ?_
  refine ev_sipush dX12_mornings_7 (by decide) ?_
  refine cl_S1 (As := [vi seed, vi 0, vi 9999]) (st := []) miX12_within (tX12_within seed 0 9999 (L μ1) (o := (fX12_within seed 0 9999)) rfl) dX12_mornings_10 lkX12_270 stX12_within rfl ⟨⟨Nat.le_of_ble_eq_true rfl, Nat.le_of_ble_eq_true rfl⟩, Nat.zero_le _, Nat.zero_le _⟩ (Nat.le_of_ble_eq_true rfl) ?_
  refine ev_ifb_eq 35 dX12_mornings_13 (by decide) (fun h2 => ?_) (fun h2 => ?_)
  · rw [if_neg h2] at hf
    refine ev_bipush dX12_mornings_35 (by decide) ?_
    obtain rfl := Option.some.inj hf
    exact ev_iret dX12_mornings_37 rfl ⟨Nat.zero_le _, Nat.zero_le _⟩ hr
  · rw [if_pos h2] at hf
    refine ev_iload_n dX12_mornings_16 2 rfl ?_
    refine ev_iconst dX12_mornings_17 ?_
    refine ev_bipush dX12_mornings_18 (by decide) ?_
    refine cl_S1 (As := [vi turns, vi 1, vi 99]) (st := []) miX12_within (tX12_within turns 1 99 (L μ1) (o := (fX12_within turns 1 99)) rfl) dX12_mornings_20 lkX12_270 stX12_within rfl ⟨⟨Nat.le_of_ble_eq_true rfl, Nat.le_of_ble_eq_true rfl⟩, Nat.zero_le _, Nat.zero_le _⟩ (Nat.le_of_ble_eq_true rfl) ?_
    refine ev_ifb_eq 35 dX12_mornings_23 (by decide) (fun h3 => ?_) (fun h3 => ?_)
    · rw [if_neg h3] at hf
      refine ev_bipush dX12_mornings_35 (by decide) ?_
      obtain rfl := Option.some.inj hf
      exact ev_iret dX12_mornings_37 rfl ⟨Nat.zero_le _, Nat.zero_le _⟩ hr
    · rw [if_pos h3] at hf
      refine ev_iload_n dX12_mornings_26 3 rfl ?_
      refine ev_iconst dX12_mornings_27 ?_
      refine ev_iconst dX12_mornings_28 ?_
      refine cl_S1 (As := [vi what, vi 0, vi 2]) (st := []) miX12_within (tX12_within what 0 2 (L μ1) (o := (fX12_within what 0 2)) rfl) dX12_mornings_29 lkX12_270 stX12_within rfl ⟨⟨Nat.le_of_ble_eq_true rfl, Nat.le_of_ble_eq_true rfl⟩, Nat.zero_le _, Nat.zero_le _⟩ (Nat.le_of_ble_eq_true rfl) ?_
      refine ev_ifb_ne 38 dX12_mornings_32 (by decide) (fun h4 => ?_) (fun h4 => ?_)
      · rw [if_pos h4] at hf
        refine ev_aload_n dX12_mornings_38 0 rfl ?_
        refine ev_aload_n dX12_mornings_39 0 rfl ?_
        refine ev_getK 19 dX12_mornings_40 (hS.lt (hc 75 rfl)) rfl (hS.K1 (hc 75 rfl) rfl) ciX12 (by decide) rfl flX12_94 ?_
        refine ev_iconst dX12_mornings_43 ?_
        refine ev_iald dX12_mornings_44 (hS.lt (hc 88 rfl)) rfl (hS.mem _ (hc 88 rfl)) ⟨by decide, by decide⟩ ?_
        refine ev_rn (w := vi (μ1 88 0)) (by rw [show (w32 0).toNat = 0 from by decide]) ?_
        obtain ⟨μ5, hμ5, hf⟩ := Option.bind_eq_some_iff.mp hf
        refine cl_V0 (As := [vi (μ1 88 0)]) (st := []) miX12_lays (tX12_lays hS (hc.w rfl rfl) (μ1 88 0) μ1 hμ5) dX12_mornings_45 lkX12_274 inX12_lays rfl (hS.lt (hc 75 rfl)) rfl ⟨rfl, rfl⟩ ⟨⟨Nat.le_of_ble_eq_true rfl, Nat.le_of_ble_eq_true rfl⟩, Nat.zero_le _, Nat.zero_le _⟩ (Nat.le_of_ble_eq_true rfl) ?_
        refine ev_aload_n dX12_mornings_48 0 rfl ?_
        refine ev_iload_n dX12_mornings_49 1 rfl ?_
        refine ev_i2l dX12_mornings_50 ?_
        obtain ⟨μ6, hμ6, hf⟩ := lt_elim hf
        refine ev_putJ 30 dX12_mornings_51 (hS.lt (hc 75 rfl)) rfl ciX12 (by decide) (Or.inl rfl) rfl rfl flX12_372 (hS.up (hc 75 rfl) hμ6) ?_
        refine ev_iconst dX12_mornings_54 ?_
        refine ev_istore (al2 := [(4, vi 0), (0, vr g 75), (1, vi seed), (2, vi turns), (3, vi what)]) dX12_mornings_55 (by decide) rfl ?_
        refine ev_iconst dX12_mornings_57 ?_
        refine ev_istore (al2 := [(5, vi 0), (4, vi 0), (0, vr g 75), (1, vi seed), (2, vi turns), (3, vi what)]) dX12_mornings_58 (by decide) rfl ?_
        refine ev_aload_n dX12_mornings_60 2 rfl ?_
        obtain ⟨v7, hv7, hf⟩ := Option.bind_eq_some_iff.mp hf
        refine cl_V1 (As := []) (st := []) miX12_isServed (tX12_isServed hS (hc.w rfl rfl) μ6 hv7) dX12_mornings_61 lkX12_289 inX12_isServed rfl (hS.lt (hc 75 rfl)) rfl ⟨rfl, rfl⟩ ⟨⟨Nat.le_of_ble_eq_true rfl, Nat.le_of_ble_eq_true rfl⟩, Nat.zero_le _, Nat.zero_le _⟩ (Nat.le_of_ble_eq_true rfl) ?_
        obtain ⟨v8, hv8, hf⟩ := lt_elim hf
        have hJv8 : Ev l D cy g K yX12_mornings cX12_mornings 9 (some .int) (rmd 5 0 0) (MX D cy g K (rmd 5 0 0) Φ) 0 0 M x (L μ6) 72 [(5, vi 0), (4, vi 0), (0, vr g 75), (1, vi seed), (2, vi turns), (3, vi what)] [vi v8] := by
          refine ev_istore (al2 := [(6, vi v8), (5, vi 0), (4, vi 0), (0, vr g 75), (1, vi seed), (2, vi turns), (3, vi what)]) dX12_mornings_72 (by decide) rfl ?_
          refine ev_iconst dX12_mornings_74 ?_
          refine ev_istore (al2 := [(7, vi 1), (6, vi v8), (5, vi 0), (4, vi 0), (0, vr g 75), (1, vi seed), (2, vi turns), (3, vi what)]) dX12_mornings_75 (by decide) rfl ?_
          obtain ⟨q35, hq35, hf⟩ := Option.bind_eq_some_iff.mp hf
          refine ev_sub [4, 6, 7, 3, 2, 1, 0] rfl ?_
          refine loop_ev (H := (fun s : Int × Int × Int × Int × Mem => Ev l D cy g K yX12_mornings cX12_mornings 9 (some .int) (rmd 5 0 0) (MX D cy g K (rmd 5 0 0) Φ) 0 0 M x (L s.2.2.2.2) 77 [(0, vr g 75), (2, vi turns), (3, vi what), (4, vi s.1), (5, vi s.2.1), (6, vi s.2.2.1), (7, vi s.2.2.2.1)] [])) (Hx := (fun e : Int × Int × Int × Mem => Ev l D cy g K yX12_mornings cX12_mornings 9 (some .int) (rmd 5 0 0) (MX D cy g K (rmd 5 0 0) Φ) 0 0 M x (L e.2.2.2) 158 [(3, vi what), (4, vi e.1), (5, vi e.2.1), (6, vi e.2.2.1)] [])) (fun s o hb hr => tX12_mornings_b77 hS hc seed turns what s.1 s.2.1 s.2.2.1 s.2.2.2.1 s.2.2.2.2 hb hr) FU _ _ hq35 ?_
          show Ev l D cy g K yX12_mornings cX12_mornings 9 (some .int) (rmd 5 0 0) (MX D cy g K (rmd 5 0 0) Φ) 0 0 M x (L q35.2.2.2) 158 [(3, vi what), (4, vi q35.1), (5, vi q35.2.1), (6, vi q35.2.2.1)] []
          refine ev_sub [0, 1, 2, 3] rfl ?_
          exact tX12_mornings_j158 hS hc seed turns what q35.1 q35.2.1 q35.2.2.1 q35.2.2.2 hf hr
        refine ev_ifb_eq 71 dX12_mornings_64 (by decide) (fun h9 => ?_) (fun h9 => ?_)
        · refine ev_iconst dX12_mornings_71 ?_
          have e9 : v8 = (-1) := hv8.trans ((if_neg h9))
          subst e9
          exact hJv8
        · refine ev_iconst dX12_mornings_67 ?_
          refine ev_goto 72 dX12_mornings_68 (by decide) ?_
          have e9 : v8 = 0 := hv8.trans ((if_pos h9))
          subst e9
          exact hJv8
      · rw [if_neg h4] at hf
        refine ev_bipush dX12_mornings_35 (by decide) ?_
        obtain rfl := Option.some.inj hf
        exact ev_iret dX12_mornings_37 rfl ⟨Nat.zero_le _, Nat.zero_le _⟩ hr
theorem tX12_mornings (hS : Sd M K P L) (hc : CIn P 75 92) (seed : Int) (turns : Int) (what : Int) (μ : Mem) {o : Int × Mem} (hf : fX12_mornings seed turns what μ = some o) : Cn l D cy g K K yX12_mornings cX12_mornings 9 (some .int) (rmd 5 0 0) [vr g 75, vi seed, vi turns, vi what] M x (L μ) (PE (some (vi o.1)) M x (L o.2)) :=
 Cn.of (by decide) (Nat.le_of_ble_eq_true rfl) (eX12_mornings hS hc seed turns what μ hf (PE_i _ _ _ _))
def fX12_mark_j29 (m0 : Int) (back : Bool) (μ : Mem) : Option (Bool × Mem) :=
  gd (0 ≤ w32 m0 ∧ w32 m0 < 4) <|
  lt (upd2 μ 89 ((w32 m0).toNat) 1) fun μ5 =>
  lt (if back = true then
      (28 * (1 + m0))
    else
      0) fun v6 =>
  lt (if back = true then
      0
    else
      (28 * (1 + m0))) fun v8 =>
  (fX12_copies v6 v8 28 μ5).bind fun μ10 =>
  lt (if back = true then
      0
    else
      (μ10 75 20)) fun v11 =>
  lt (upd2 μ10 75 20 v11) fun μ13 =>
  some ((true, μ13))
set_option maxRecDepth 4000 in
theorem tX12_mark_j29 (hS : Sd M K P L) (hc : CIn P 75 90) (m0 : Int) (back : Bool) (μ : Mem)  {o : Bool × Mem} (hf : fX12_mark_j29 m0 back μ = some o) (hr : (fun o : Bool × Mem => Φ (some (vb o.1)) M x (L o.2)) o) : Ev l D cy g K yX12_mark cX12_mark 3 (some .boolean) (rmd 2 0 0) (MX D cy g K (rmd 2 0 0) Φ) 0 0 M x (L μ) 29 [(0, vr g 75), (1, vi m0), (2, vb back)] [] := by
  unfold fX12_mark_j29 at hf
  refine ev_aload_n dX12_mark_29 0 rfl ?_
  refine ev_getK 21 dX12_mark_30 (hS.lt (hc 75 rfl)) rfl (hS.K1 (hc 75 rfl) rfl) ciX12 (by decide) rfl flX12_97 ?_
  refine ev_iload_n dX12_mark_33 1 rfl ?_
  refine ev_iconst dX12_mark_34 ?_
  obtain ⟨g4, hf⟩ := gd_elim hf
  obtain ⟨μ5, hμ5, hf⟩ := lt_elim hf
  refine ev_zast (b := true) dX12_mark_35 (hS.lt (hc 89 rfl)) rfl g4 (hS.up (hc 89 rfl) hμ5) ?_
  refine ev_aload_n dX12_mark_36 0 rfl ?_
  refine ev_iload_n dX12_mark_37 2 rfl ?_
  obtain ⟨v6, hv6, hf⟩ := lt_elim hf
  have hJv6 : Ev l D cy g K yX12_mark cX12_mark 3 (some .boolean) (rmd 2 0 0) (MX D cy g K (rmd 2 0 0) Φ) 0 0 M x (L μ5) 51 [(0, vr g 75), (1, vi m0), (2, vb back)] [vi v6, vr g 75] := by
    refine ev_iload_n dX12_mark_51 2 rfl ?_
    obtain ⟨v8, hv8, hf⟩ := lt_elim hf
    have hJv8 : Ev l D cy g K yX12_mark cX12_mark 3 (some .boolean) (rmd 2 0 0) (MX D cy g K (rmd 2 0 0) Φ) 0 0 M x (L μ5) 65 [(0, vr g 75), (1, vi m0), (2, vb back)] [vi v8, vi v6, vr g 75] := by
      refine ev_bipush dX12_mark_65 (by decide) ?_
      obtain ⟨μ10, hμ10, hf⟩ := Option.bind_eq_some_iff.mp hf
      refine cl_V0 (As := [vi v6, vi v8, vi 28]) (st := []) miX12_copies (tX12_copies hS (hc.w rfl rfl) v6 v8 28 μ5 hμ10) dX12_mark_67 lkX12_254 inX12_copies rfl (hS.lt (hc 75 rfl)) rfl ⟨rfl, rfl⟩ ⟨⟨Nat.le_of_ble_eq_true rfl, Nat.le_of_ble_eq_true rfl⟩, Nat.zero_le _, Nat.zero_le _⟩ (Nat.le_of_ble_eq_true rfl) ?_
      refine ev_aload_n dX12_mark_70 0 rfl ?_
      refine ev_iload_n dX12_mark_71 2 rfl ?_
      obtain ⟨v11, hv11, hf⟩ := lt_elim hf
      have hJv11 : Ev l D cy g K yX12_mark cX12_mark 3 (some .boolean) (rmd 2 0 0) (MX D cy g K (rmd 2 0 0) Φ) 0 0 M x (L μ10) 83 [(0, vr g 75), (1, vi m0), (2, vb back)] [vi v11, vr g 75] := by
        obtain ⟨μ13, hμ13, hf⟩ := lt_elim hf
        refine ev_putI 20 dX12_mark_83 (hS.lt (hc 75 rfl)) rfl ciX12 (by decide) (Or.inl rfl) rfl rfl flX12_248 (hS.up (hc 75 rfl) hμ13) ?_
        refine ev_iconst dX12_mark_86 ?_
        obtain rfl := Option.some.inj hf
        exact ev_bret (b := true) dX12_mark_87 rfl ⟨Nat.zero_le _, Nat.zero_le _⟩ hr
      refine ev_ifb_eq 79 dX12_mark_72 (by decide) (fun h12 => ?_) (fun h12 => ?_)
      · refine ev_aload_n dX12_mark_79 0 rfl ?_
        refine ev_getI 20 dX12_mark_80 (hS.lt (hc 75 rfl)) rfl (hS.mem _ (hc 75 rfl)) ciX12 (by decide) rfl flX12_248 ?_
        have e9 : v11 = (μ10 75 20) := hv11.trans ((if_neg h12))
        subst e9
        exact hJv11
      · refine ev_iconst dX12_mark_75 ?_
        refine ev_goto 83 dX12_mark_76 (by decide) ?_
        have e9 : v11 = 0 := hv11.trans ((if_pos h12))
        subst e9
        exact hJv11
    refine ev_ifb_eq 59 dX12_mark_52 (by decide) (fun h9 => ?_) (fun h9 => ?_)
    · refine ev_bipush dX12_mark_59 (by decide) ?_
      refine ev_iconst dX12_mark_61 ?_
      refine ev_iload_n dX12_mark_62 1 rfl ?_
      refine ev_iadd dX12_mark_63 ?_
      refine ev_imul dX12_mark_64 ?_
      have e9 : v8 = (28 * (1 + m0)) := hv8.trans ((if_neg h9))
      subst e9
      exact hJv8
    · refine ev_iconst dX12_mark_55 ?_
      refine ev_goto 65 dX12_mark_56 (by decide) ?_
      have e9 : v8 = 0 := hv8.trans ((if_pos h9))
      subst e9
      exact hJv8
  refine ev_ifb_eq 50 dX12_mark_38 (by decide) (fun h7 => ?_) (fun h7 => ?_)
  · refine ev_iconst dX12_mark_50 ?_
    have e9 : v6 = 0 := hv6.trans ((if_neg h7))
    subst e9
    exact hJv6
  · refine ev_bipush dX12_mark_41 (by decide) ?_
    refine ev_iconst dX12_mark_43 ?_
    refine ev_iload_n dX12_mark_44 1 rfl ?_
    refine ev_iadd dX12_mark_45 ?_
    refine ev_imul dX12_mark_46 ?_
    refine ev_goto 51 dX12_mark_47 (by decide) ?_
    have e9 : v6 = (28 * (1 + m0)) := hv6.trans ((if_pos h7))
    subst e9
    exact hJv6
def fX12_mark (m0 : Int) (back : Bool) (μ : Mem) : Option (Bool × Mem) :=
  lt (upd2 μ 75 0 0) fun μ1 =>
  if (fX12_within m0 0 3) = true then
    if back = true then
      gd (0 ≤ w32 m0 ∧ w32 m0 < 4) <|
      if ((μ1 89 (w32 m0).toNat) != 0) = true then
        fX12_mark_j29 m0 back μ1
      else
        some ((false, μ1))
    else
      fX12_mark_j29 m0 back μ1
  else
    some ((false, μ1))
set_option maxRecDepth 4000 in
theorem eX12_mark (hS : Sd M K P L) (hc : CIn P 75 90) (m0 : Int) (back : Bool) (μ : Mem)  {o : Bool × Mem} (hf : fX12_mark m0 back μ = some o) (hr : (fun o : Bool × Mem => Φ (some (vb o.1)) M x (L o.2)) o) : Ev l D cy g K yX12_mark cX12_mark 3 (some .boolean) (rmd 2 0 0) (MX D cy g K (rmd 2 0 0) Φ) 0 0 M x (L μ) 0 [(0, vr g 75), (1, vi m0), (2, vb back)] [] := by
  unfold fX12_mark at hf
  refine ev_aload_n dX12_mark_0 0 rfl ?_
  refine ev_iconst dX12_mark_1 ?_
  obtain ⟨μ1, hμ1, hf⟩ := lt_elim hf
  refine ev_putI 0 dX12_mark_2 (hS.lt (hc 75 rfl)) rfl ciX12 (by decide) (Or.inl rfl) rfl rfl flX12_1 (hS.up (hc 75 rfl) hμ1) ?_
  refine ev_iload_n dX12_mark_5 1 rfl ?_
  refine ev_iconst dX12_mark_6 ?_
  refine ev_iconst dX12_mark_7 ?_
  refine cl_S1 (As := [vi m0, vi 0, vi 3]) (st := []) miX12_within (tX12_within m0 0 3 (L μ1) (o := (fX12_within m0 0 3)) rfl) dX12_mark_8 lkX12_270 stX12_within rfl ⟨⟨Nat.le_of_ble_eq_true rfl, Nat.le_of_ble_eq_true rfl⟩, Nat.zero_le _, Nat.zero_le _⟩ (Nat.le_of_ble_eq_true rfl) ?_
  refine ev_ifb_eq 27 dX12_mark_11 (by decide) (fun h2 => ?_) (fun h2 => ?_)
  · rw [if_neg h2] at hf
    refine ev_iconst dX12_mark_27 ?_
    obtain rfl := Option.some.inj hf
    exact ev_bret (b := false) dX12_mark_28 rfl ⟨Nat.zero_le _, Nat.zero_le _⟩ hr
  · rw [if_pos h2] at hf
    refine ev_iload_n dX12_mark_14 2 rfl ?_
    refine ev_ifb_eq 29 dX12_mark_15 (by decide) (fun h3 => ?_) (fun h3 => ?_)
    · rw [if_neg h3] at hf
      refine ev_sub [0, 1, 2] rfl ?_
      exact tX12_mark_j29 hS hc m0 back μ1 hf hr
    · rw [if_pos h3] at hf
      refine ev_aload_n dX12_mark_18 0 rfl ?_
      refine ev_getK 21 dX12_mark_19 (hS.lt (hc 75 rfl)) rfl (hS.K1 (hc 75 rfl) rfl) ciX12 (by decide) rfl flX12_97 ?_
      refine ev_iload_n dX12_mark_22 1 rfl ?_
      obtain ⟨g14, hf⟩ := gd_elim hf
      refine ev_zald dX12_mark_23 (hS.lt (hc 89 rfl)) rfl (hS.mem _ (hc 89 rfl)) g14 ?_
      refine ev_ifb_ne 29 dX12_mark_24 (by decide) (fun h15 => ?_) (fun h15 => ?_)
      · rw [if_pos h15] at hf
        refine ev_sub [0, 1, 2] rfl ?_
        exact tX12_mark_j29 hS hc m0 back μ1 hf hr
      · rw [if_neg h15] at hf
        refine ev_iconst dX12_mark_27 ?_
        obtain rfl := Option.some.inj hf
        exact ev_bret (b := false) dX12_mark_28 rfl ⟨Nat.zero_le _, Nat.zero_le _⟩ hr
theorem tX12_mark (hS : Sd M K P L) (hc : CIn P 75 90) (m0 : Int) (back : Bool) (μ : Mem) {o : Bool × Mem} (hf : fX12_mark m0 back μ = some o) : Cn l D cy g K K yX12_mark cX12_mark 3 (some .boolean) (rmd 2 0 0) [vr g 75, vi m0, vb back] M x (L μ) (PE (some (vb o.1)) M x (L o.2)) :=
 Cn.of (by decide) (Nat.le_of_ble_eq_true rfl) (eX12_mark hS hc m0 back μ hf (PE_i _ _ _ _))
def fX12_turnsNow_b14 (v2 : Int) (v3 : Int) (μ : Mem) : Option ((Int × Int × Mem) ⊕ (Int × Mem)) :=
  if w32 v3 ≤ w32 (μ 81 0) then
    (fX12_mayTurn v3 μ).bind fun q5 =>
    lt (if q5.1 = true then
        (i_shl 1 (v3 - 1))
      else
        0) fun v6 =>
    lt (i_or v2 v6) fun v8 =>
    some (.inl (v8, (v3 + 1), q5.2))
  else
    some (.inr (v2, μ))
set_option maxRecDepth 4000 in
theorem tX12_turnsNow_b14 (hS : Sd M K P L) (hc : CIn P 75 92) (v2 : Int) (v3 : Int) (μ : Mem)  {o : (Int × Int × Mem) ⊕ (Int × Mem)} (hf : fX12_turnsNow_b14 v2 v3 μ = some o) (hr : (Sum.elim (fun s : Int × Int × Mem => Ev l D cy g K yX12_turnsNow cX12_turnsNow 3 (some .int) (rmd 5 0 0) (MX D cy g K (rmd 5 0 0) Φ) 0 0 M x (L s.2.2) 14 [(0, vr g 75), (1, vi s.1), (2, vi s.2.1)] []) (fun e : Int × Mem => Ev l D cy g K yX12_turnsNow cX12_turnsNow 3 (some .int) (rmd 5 0 0) (MX D cy g K (rmd 5 0 0) Φ) 0 0 M x (L e.2) 48 [(1, vi e.1)] [])) o) : Ev l D cy g K yX12_turnsNow cX12_turnsNow 3 (some .int) (rmd 5 0 0) (MX D cy g K (rmd 5 0 0) Φ) 0 0 M x (L μ) 14 [(0, vr g 75), (1, vi v2), (2, vi v3)] [] := by
  unfold fX12_turnsNow_b14 at hf
  refine ev_iload_n dX12_turnsNow_14 2 rfl ?_
  refine ev_aload_n dX12_turnsNow_15 0 rfl ?_
  refine cl_V1 (As := []) (st := [vi v3]) miX12_cakes (tX12_cakes hS (hc.w rfl rfl) μ (o := (μ 81 0)) rfl) dX12_turnsNow_16 lkX12_209 inX12_cakes rfl (hS.lt (hc 75 rfl)) rfl ⟨rfl, rfl⟩ ⟨⟨Nat.le_of_ble_eq_true rfl, Nat.le_of_ble_eq_true rfl⟩, Nat.zero_le _, Nat.zero_le _⟩ (Nat.le_of_ble_eq_true rfl) ?_
  refine ev_icmp_gt 48 dX12_turnsNow_19 (by decide) (fun h4 => ?_) (fun h4 => ?_)
  · rw [if_neg h4] at hf
    obtain rfl := Option.some.inj hf
    refine ev_sub [1] rfl ?_
    exact hr
  · rw [if_pos h4] at hf
    refine ev_iload_n dX12_turnsNow_22 1 rfl ?_
    refine ev_aload_n dX12_turnsNow_23 0 rfl ?_
    refine ev_iload_n dX12_turnsNow_24 2 rfl ?_
    obtain ⟨q5, hq5, hf⟩ := Option.bind_eq_some_iff.mp hf
    refine cl_V1 (As := [vi v3]) (st := [vi v2]) miX12_mayTurn (tX12_mayTurn hS (hc.w rfl rfl) v3 μ hq5) dX12_turnsNow_25 lkX12_277 inX12_mayTurn rfl (hS.lt (hc 75 rfl)) rfl ⟨rfl, rfl⟩ ⟨⟨Nat.le_of_ble_eq_true rfl, Nat.le_of_ble_eq_true rfl⟩, Nat.zero_le _, Nat.zero_le _⟩ (Nat.le_of_ble_eq_true rfl) ?_
    obtain ⟨v6, hv6, hf⟩ := lt_elim hf
    have hJv6 : Ev l D cy g K yX12_turnsNow cX12_turnsNow 3 (some .int) (rmd 5 0 0) (MX D cy g K (rmd 5 0 0) Φ) 0 0 M x (L q5.2) 40 [(0, vr g 75), (1, vi v2), (2, vi v3)] [vi v6, vi v2] := by
      refine ev_ior dX12_turnsNow_40 ?_
      obtain ⟨v8, hv8, hf⟩ := lt_elim hf
      refine ev_rni hv8 ?_
      refine ev_istore_n (al2 := [(1, vi v8), (0, vr g 75), (2, vi v3)]) dX12_turnsNow_41 1 rfl (by decide) rfl ?_
      refine ev_iinc (al2 := [(2, vi (v3 + 1)), (1, vi v8), (0, vr g 75)]) dX12_turnsNow_42 2 rfl (by decide) rfl ?_
      refine ev_goto 14 dX12_turnsNow_45 (by decide) ?_
      obtain rfl := Option.some.inj hf
      refine ev_sub [2, 1, 0] rfl ?_
      exact hr
    refine ev_ifb_eq 39 dX12_turnsNow_28 (by decide) (fun h7 => ?_) (fun h7 => ?_)
    · refine ev_iconst dX12_turnsNow_39 ?_
      have e9 : v6 = 0 := hv6.trans ((if_neg h7))
      subst e9
      exact hJv6
    · refine ev_iconst dX12_turnsNow_31 ?_
      refine ev_iload_n dX12_turnsNow_32 2 rfl ?_
      refine ev_iconst dX12_turnsNow_33 ?_
      refine ev_isub dX12_turnsNow_34 ?_
      refine ev_ishl dX12_turnsNow_35 ?_
      refine ev_goto 40 dX12_turnsNow_36 (by decide) ?_
      have e9 : v6 = (i_shl 1 (v3 - 1)) := hv6.trans ((if_pos h7))
      subst e9
      exact hJv6
def fX12_turnsNow  (μ : Mem) : Option (Int × Mem) :=
  (fX12_lays (μ 88 0) μ).bind fun μ1 =>
  (loopN (fun s => fX12_turnsNow_b14 s.1 s.2.1 s.2.2) FU (0, 1, μ1)).bind fun q9 =>
  some ((q9.1, q9.2))
set_option maxRecDepth 4000 in
theorem eX12_turnsNow (hS : Sd M K P L) (hc : CIn P 75 92)  (μ : Mem)  {o : Int × Mem} (hf : fX12_turnsNow  μ = some o) (hr : (fun o : Int × Mem => Φ (some (vi o.1)) M x (L o.2)) o) : Ev l D cy g K yX12_turnsNow cX12_turnsNow 3 (some .int) (rmd 5 0 0) (MX D cy g K (rmd 5 0 0) Φ) 0 0 M x (L μ) 0 [(0, vr g 75)] [] := by
  unfold fX12_turnsNow at hf
  refine ev_aload_n dX12_turnsNow_0 0 rfl ?_
  refine ev_aload_n dX12_turnsNow_1 0 rfl ?_
  refine ev_getK 19 dX12_turnsNow_2 (hS.lt (hc 75 rfl)) rfl (hS.K1 (hc 75 rfl) rfl) ciX12 (by decide) rfl flX12_94 ?_
  refine ev_iconst dX12_turnsNow_5 ?_
  refine ev_iald dX12_turnsNow_6 (hS.lt (hc 88 rfl)) rfl (hS.mem _ (hc 88 rfl)) ⟨by decide, by decide⟩ ?_
  refine ev_rn (w := vi (μ 88 0)) (by rw [show (w32 0).toNat = 0 from by decide]) ?_
  obtain ⟨μ1, hμ1, hf⟩ := Option.bind_eq_some_iff.mp hf
  refine cl_V0 (As := [vi (μ 88 0)]) (st := []) miX12_lays (tX12_lays hS (hc.w rfl rfl) (μ 88 0) μ hμ1) dX12_turnsNow_7 lkX12_274 inX12_lays rfl (hS.lt (hc 75 rfl)) rfl ⟨rfl, rfl⟩ ⟨⟨Nat.le_of_ble_eq_true rfl, Nat.le_of_ble_eq_true rfl⟩, Nat.zero_le _, Nat.zero_le _⟩ (Nat.le_of_ble_eq_true rfl) ?_
  refine ev_iconst dX12_turnsNow_10 ?_
  refine ev_istore_n (al2 := [(1, vi 0), (0, vr g 75)]) dX12_turnsNow_11 1 rfl (by decide) rfl ?_
  refine ev_iconst dX12_turnsNow_12 ?_
  refine ev_istore_n (al2 := [(2, vi 1), (1, vi 0), (0, vr g 75)]) dX12_turnsNow_13 2 rfl (by decide) rfl ?_
  obtain ⟨q9, hq9, hf⟩ := Option.bind_eq_some_iff.mp hf
  refine ev_sub [2, 1, 0] rfl ?_
  refine loop_ev (H := (fun s : Int × Int × Mem => Ev l D cy g K yX12_turnsNow cX12_turnsNow 3 (some .int) (rmd 5 0 0) (MX D cy g K (rmd 5 0 0) Φ) 0 0 M x (L s.2.2) 14 [(0, vr g 75), (1, vi s.1), (2, vi s.2.1)] [])) (Hx := (fun e : Int × Mem => Ev l D cy g K yX12_turnsNow cX12_turnsNow 3 (some .int) (rmd 5 0 0) (MX D cy g K (rmd 5 0 0) Φ) 0 0 M x (L e.2) 48 [(1, vi e.1)] [])) (fun s o hb hr => tX12_turnsNow_b14 hS hc s.1 s.2.1 s.2.2 hb hr) FU _ _ hq9 ?_
  show Ev l D cy g K yX12_turnsNow cX12_turnsNow 3 (some .int) (rmd 5 0 0) (MX D cy g K (rmd 5 0 0) Φ) 0 0 M x (L q9.2) 48 [(1, vi q9.1)] []
  refine ev_iload_n dX12_turnsNow_48 0 rfl ?_
  obtain rfl := Option.some.inj hf
  exact ev_iret dX12_turnsNow_49 rfl ⟨Nat.zero_le _, Nat.zero_le _⟩ hr
theorem tX12_turnsNow (hS : Sd M K P L) (hc : CIn P 75 92) (μ : Mem) {o : Int × Mem} (hf : fX12_turnsNow μ = some o) : Cn l D cy g K K yX12_turnsNow cX12_turnsNow 3 (some .int) (rmd 5 0 0) [vr g 75] M x (L μ) (PE (some (vi o.1)) M x (L o.2)) :=
 Cn.of (by decide) (Nat.le_of_ble_eq_true rfl) (eX12_turnsNow hS hc μ hf (PE_i _ _ _ _))
def fX12_count (what : Int) (μ : Mem) : Option (Int × Mem) :=
  lt (upd2 μ 75 0 0) fun μ1 =>
  if w32 what = 0 then
    some (((μ1 81 0), μ1))
  else
    if w32 what = 1 then
      (fX12_stacks μ1).bind fun v4 =>
      some ((v4, μ1))
    else
      if w32 what = 2 then
        some (((μ1 88 1), μ1))
      else
        if w32 what = 3 then
          some (((μ1 88 2), μ1))
        else
          if w32 what = 4 then
            (fX12_turnsNow μ1).bind fun q8 =>
            some ((q8.1, q8.2))
          else
            if w32 what = 5 then
              some (((μ1 84 0), μ1))
            else
              if w32 what = 6 then
                lt (if ((μ1 75 16) != 0) = true then
                    (μ1 81 0)
                  else
                    0) fun v11 =>
                some ((v11, μ1))
              else
                if w32 what = 7 then
                  some (((μ1 88 3), μ1))
                else
                  if w32 what = 8 then
                    some (((μ1 75 20), μ1))
                  else
                    if w32 what = 9 then
                      some (((μ1 75 2), μ1))
                    else
                      some (((-1), μ1))
set_option maxRecDepth 4000 in
theorem eX12_count (hS : Sd M K P L) (hc : CIn P 75 92) (what : Int) (μ : Mem)  {o : Int × Mem} (hf : fX12_count what μ = some o) (hr : (fun o : Int × Mem => Φ (some (vi o.1)) M x (L o.2)) o) : Ev l D cy g K yX12_count cX12_count 2 (some .int) (rmd 6 0 0) (MX D cy g K (rmd 6 0 0) Φ) 0 0 M x (L μ) 0 [(0, vr g 75), (1, vi what)] [] := by
  unfold fX12_count at hf
  refine ev_aload_n dX12_count_0 0 rfl ?_
  refine ev_iconst dX12_count_1 ?_
  obtain ⟨μ1, hμ1, hf⟩ := lt_elim hf
  refine ev_putI 0 dX12_count_2 (hS.lt (hc 75 rfl)) rfl ciX12 (by decide) (Or.inl rfl) rfl rfl flX12_1 (hS.up (hc 75 rfl) hμ1) ?_
  refine ev_iload_n dX12_count_5 1 rfl ?_
  by_cases h2 : w32 what = 0
  · rw [if_pos h2] at hf
    refine ev_tableIn 60 0 dX12_count_6 h2 (by decide) (by decide) rfl (by decide) ?_
    refine ev_aload_n dX12_count_60 0 rfl ?_
    refine cl_V1 (As := []) (st := []) miX12_cakes (tX12_cakes hS (hc.w rfl rfl) μ1 (o := (μ1 81 0)) rfl) dX12_count_61 lkX12_209 inX12_cakes rfl (hS.lt (hc 75 rfl)) rfl ⟨rfl, rfl⟩ ⟨⟨Nat.le_of_ble_eq_true rfl, Nat.le_of_ble_eq_true rfl⟩, Nat.zero_le _, Nat.zero_le _⟩ (Nat.le_of_ble_eq_true rfl) ?_
    obtain rfl := Option.some.inj hf
    exact ev_iret dX12_count_64 rfl ⟨Nat.zero_le _, Nat.zero_le _⟩ hr
  · rw [if_neg h2] at hf
    by_cases h3 : w32 what = 1
    · rw [if_pos h3] at hf
      refine ev_tableIn 65 1 dX12_count_6 h3 (by decide) (by decide) rfl (by decide) ?_
      refine ev_aload_n dX12_count_65 0 rfl ?_
      obtain ⟨v4, hv4, hf⟩ := Option.bind_eq_some_iff.mp hf
      refine cl_V1 (As := []) (st := []) miX12_stacks (tX12_stacks hS (hc.w rfl rfl) μ1 hv4) dX12_count_66 lkX12_294 inX12_stacks rfl (hS.lt (hc 75 rfl)) rfl ⟨rfl, rfl⟩ ⟨⟨Nat.le_of_ble_eq_true rfl, Nat.le_of_ble_eq_true rfl⟩, Nat.zero_le _, Nat.zero_le _⟩ (Nat.le_of_ble_eq_true rfl) ?_
      obtain rfl := Option.some.inj hf
      exact ev_iret dX12_count_69 rfl ⟨Nat.zero_le _, Nat.zero_le _⟩ hr
    · rw [if_neg h3] at hf
      by_cases h5 : w32 what = 2
      · rw [if_pos h5] at hf
        refine ev_tableIn 70 2 dX12_count_6 h5 (by decide) (by decide) rfl (by decide) ?_
        refine ev_aload_n dX12_count_70 0 rfl ?_
        refine ev_getK 19 dX12_count_71 (hS.lt (hc 75 rfl)) rfl (hS.K1 (hc 75 rfl) rfl) ciX12 (by decide) rfl flX12_94 ?_
        refine ev_iconst dX12_count_74 ?_
        refine ev_iald dX12_count_75 (hS.lt (hc 88 rfl)) rfl (hS.mem _ (hc 88 rfl)) ⟨by decide, by decide⟩ ?_
        refine ev_rn (w := vi (μ1 88 1)) (by rw [show (w32 1).toNat = 1 from by decide]) ?_
        obtain rfl := Option.some.inj hf
        exact ev_iret dX12_count_76 rfl ⟨Nat.zero_le _, Nat.zero_le _⟩ hr
      · rw [if_neg h5] at hf
        by_cases h6 : w32 what = 3
        · rw [if_pos h6] at hf
          refine ev_tableIn 77 3 dX12_count_6 h6 (by decide) (by decide) rfl (by decide) ?_
          refine ev_aload_n dX12_count_77 0 rfl ?_
          refine ev_getK 19 dX12_count_78 (hS.lt (hc 75 rfl)) rfl (hS.K1 (hc 75 rfl) rfl) ciX12 (by decide) rfl flX12_94 ?_
          refine ev_iconst dX12_count_81 ?_
          refine ev_iald dX12_count_82 (hS.lt (hc 88 rfl)) rfl (hS.mem _ (hc 88 rfl)) ⟨by decide, by decide⟩ ?_
          refine ev_rn (w := vi (μ1 88 2)) (by rw [show (w32 2).toNat = 2 from by decide]) ?_
          obtain rfl := Option.some.inj hf
          exact ev_iret dX12_count_83 rfl ⟨Nat.zero_le _, Nat.zero_le _⟩ hr
        · rw [if_neg h6] at hf
          by_cases h7 : w32 what = 4
          · rw [if_pos h7] at hf
            refine ev_tableIn 84 4 dX12_count_6 h7 (by decide) (by decide) rfl (by decide) ?_
            refine ev_aload_n dX12_count_84 0 rfl ?_
            obtain ⟨q8, hq8, hf⟩ := Option.bind_eq_some_iff.mp hf
            refine cl_V1 (As := []) (st := []) miX12_turnsNow (tX12_turnsNow hS (hc.w rfl rfl) μ1 hq8) dX12_count_85 lkX12_387 inX12_turnsNow rfl (hS.lt (hc 75 rfl)) rfl ⟨rfl, rfl⟩ ⟨⟨Nat.le_of_ble_eq_true rfl, Nat.le_of_ble_eq_true rfl⟩, Nat.zero_le _, Nat.zero_le _⟩ (Nat.le_of_ble_eq_true rfl) ?_
            obtain rfl := Option.some.inj hf
            exact ev_iret dX12_count_88 rfl ⟨Nat.zero_le _, Nat.zero_le _⟩ hr
          · rw [if_neg h7] at hf
            by_cases h9 : w32 what = 5
            · rw [if_pos h9] at hf
              refine ev_tableIn 89 5 dX12_count_6 h9 (by decide) (by decide) rfl (by decide) ?_
              refine ev_aload_n dX12_count_89 0 rfl ?_
              refine ev_getK 14 dX12_count_90 (hS.lt (hc 75 rfl)) rfl (hS.K1 (hc 75 rfl) rfl) ciX12 (by decide) rfl flX12_82 ?_
              refine ev_iconst dX12_count_93 ?_
              refine ev_iald dX12_count_94 (hS.lt (hc 84 rfl)) rfl (hS.mem _ (hc 84 rfl)) ⟨by decide, by decide⟩ ?_
              refine ev_rn (w := vi (μ1 84 0)) (by rw [show (w32 0).toNat = 0 from by decide]) ?_
              obtain rfl := Option.some.inj hf
              exact ev_iret dX12_count_95 rfl ⟨Nat.zero_le _, Nat.zero_le _⟩ hr
            · rw [if_neg h9] at hf
              by_cases h10 : w32 what = 6
              · rw [if_pos h10] at hf
                refine ev_tableIn 96 6 dX12_count_6 h10 (by decide) (by decide) rfl (by decide) ?_
                refine ev_aload_n dX12_count_96 0 rfl ?_
                refine ev_getZ 16 dX12_count_97 (hS.lt (hc 75 rfl)) rfl (hS.mem _ (hc 75 rfl)) ciX12 (by decide) rfl flX12_213 ?_
                obtain ⟨v11, hv11, hf⟩ := lt_elim hf
                have hJv11 : Ev l D cy g K yX12_count cX12_count 2 (some .int) (rmd 6 0 0) (MX D cy g K (rmd 6 0 0) Φ) 0 0 M x (L μ1) 111 [(0, vr g 75), (1, vi what)] [vi v11] := by
                  obtain rfl := Option.some.inj hf
                  exact ev_iret dX12_count_111 rfl ⟨Nat.zero_le _, Nat.zero_le _⟩ hr
                refine ev_ifb_eq 110 dX12_count_100 (by decide) (fun h12 => ?_) (fun h12 => ?_)
                · refine ev_iconst dX12_count_110 ?_
                  have e9 : v11 = 0 := hv11.trans ((if_neg h12))
                  subst e9
                  exact hJv11
                · refine ev_aload_n dX12_count_103 0 rfl ?_
                  refine cl_V1 (As := []) (st := []) miX12_cakes (tX12_cakes hS (hc.w rfl rfl) μ1 (o := (μ1 81 0)) rfl) dX12_count_104 lkX12_209 inX12_cakes rfl (hS.lt (hc 75 rfl)) rfl ⟨rfl, rfl⟩ ⟨⟨Nat.le_of_ble_eq_true rfl, Nat.le_of_ble_eq_true rfl⟩, Nat.zero_le _, Nat.zero_le _⟩ (Nat.le_of_ble_eq_true rfl) ?_
                  refine ev_goto 111 dX12_count_107 (by decide) ?_
                  have e9 : v11 = (μ1 81 0) := hv11.trans ((if_pos h12))
                  subst e9
                  exact hJv11
              · rw [if_neg h10] at hf
                by_cases h13 : w32 what = 7
                · rw [if_pos h13] at hf
                  refine ev_tableIn 112 7 dX12_count_6 h13 (by decide) (by decide) rfl (by decide) ?_
                  refine ev_aload_n dX12_count_112 0 rfl ?_
                  refine ev_getK 19 dX12_count_113 (hS.lt (hc 75 rfl)) rfl (hS.K1 (hc 75 rfl) rfl) ciX12 (by decide) rfl flX12_94 ?_
                  refine ev_iconst dX12_count_116 ?_
                  refine ev_iald dX12_count_117 (hS.lt (hc 88 rfl)) rfl (hS.mem _ (hc 88 rfl)) ⟨by decide, by decide⟩ ?_
                  refine ev_rn (w := vi (μ1 88 3)) (by rw [show (w32 3).toNat = 3 from by decide]) ?_
                  obtain rfl := Option.some.inj hf
                  exact ev_iret dX12_count_118 rfl ⟨Nat.zero_le _, Nat.zero_le _⟩ hr
                · rw [if_neg h13] at hf
                  by_cases h14 : w32 what = 8
                  · rw [if_pos h14] at hf
                    refine ev_tableIn 119 8 dX12_count_6 h14 (by decide) (by decide) rfl (by decide) ?_
                    refine ev_aload_n dX12_count_119 0 rfl ?_
                    refine ev_getI 20 dX12_count_120 (hS.lt (hc 75 rfl)) rfl (hS.mem _ (hc 75 rfl)) ciX12 (by decide) rfl flX12_248 ?_
                    obtain rfl := Option.some.inj hf
                    exact ev_iret dX12_count_123 rfl ⟨Nat.zero_le _, Nat.zero_le _⟩ hr
                  · rw [if_neg h14] at hf
                    by_cases h15 : w32 what = 9
                    · rw [if_pos h15] at hf
                      refine ev_tableIn 124 9 dX12_count_6 h15 (by decide) (by decide) rfl (by decide) ?_
                      refine ev_aload_n dX12_count_124 0 rfl ?_
                      refine ev_getI 2 dX12_count_125 (hS.lt (hc 75 rfl)) rfl (hS.mem _ (hc 75 rfl)) ciX12 (by decide) rfl flX12_11 ?_
                      obtain rfl := Option.some.inj hf
                      exact ev_iret dX12_count_128 rfl ⟨Nat.zero_le _, Nat.zero_le _⟩ hr
                    · rw [if_neg h15] at hf
                      refine ev_tableOut 129 dX12_count_6 (by omega) (by decide) ?_
                      refine ev_iconst dX12_count_129 ?_
                      obtain rfl := Option.some.inj hf
                      exact ev_iret dX12_count_130 rfl ⟨Nat.zero_le _, Nat.zero_le _⟩ hr
theorem tX12_count (hS : Sd M K P L) (hc : CIn P 75 92) (what : Int) (μ : Mem) {o : Int × Mem} (hf : fX12_count what μ = some o) : Cn l D cy g K K yX12_count cX12_count 2 (some .int) (rmd 6 0 0) [vr g 75, vi what] M x (L μ) (PE (some (vi o.1)) M x (L o.2)) :=
 Cn.of (by decide) (Nat.le_of_ble_eq_true rfl) (eX12_count hS hc what μ hf (PE_i _ _ _ _))
end L1
