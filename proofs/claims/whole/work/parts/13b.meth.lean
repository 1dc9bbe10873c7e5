section L1
variable {l : Launch} {D : va_G} {cy : Nat → ClassId} {g : Nat → Nat} {K : KT} {M : Nat} {x : Bool} {P : Nat → Prop} {L : Mem → Mem} {Φ : Post}
def fX10_sense (k : Nat) : Int :=
  (wsen.getD (k - 1000) 0)
set_option maxRecDepth 4000 in
theorem eX10_sense  (k : Nat) (μ : Mem) (hk : isWd k) {o : Int} (hf : fX10_sense k = o) (hr : (fun o : Int => Φ (some (vi o)) M x μ) o) : Ev l D cy g K yX10_sense cX10_sense 1 (some .int) (rmd 1 0 0) (MX D cy g K (rmd 1 0 0) Φ) 0 0 M x μ 0 [(0, vr g k)] [] := by
  unfold fX10_sense at hf
  refine ev_aload_n dX10_sense_0 0 rfl ?_
  refine ev_getWI dX10_sense_1 hk flX10_102 ?_
  obtain rfl := hf
  exact ev_iret dX10_sense_4 rfl ⟨Nat.zero_le _, Nat.zero_le _⟩ hr
theorem tX10_sense (k : Nat) (μ : Mem) (hk : isWd k) {o : Int} (hf : fX10_sense k = o) : Cn l D cy g K K yX10_sense cX10_sense 1 (some .int) (rmd 1 0 0) [vr g k] M x μ (PE (some (vi o)) M x μ) :=
 Cn.of (by decide) (Nat.le_of_ble_eq_true rfl) (eX10_sense k μ hk hf (PE_i _ _ _ _))
def fX9_number  (μ : Mem) : Int :=
  (μ 1 5)
set_option maxRecDepth 4000 in
theorem eX9_number (hS : Sd M K P L) (hc : CIn P 1 2)  (μ : Mem)  {o : Int} (hf : fX9_number  μ = o) (hr : (fun o : Int => Φ (some (vi o)) M x (L μ)) o) : Ev l D cy g K yX9_number cX9_number 1 (some .int) (rmd 1 0 0) (MX D cy g K (rmd 1 0 0) Φ) 0 0 M x (L μ) 0 [(0, vr g 1)] [] := by
  unfold fX9_number at hf
  refine ev_aload_n dX9_number_0 0 rfl ?_
  refine ev_getI 5 dX9_number_1 (hS.lt (hc 1 rfl)) rfl (hS.mem _ (hc 1 rfl)) ciX9 (by decide) rfl flX9_87 ?_
  obtain rfl := hf
  exact ev_iret dX9_number_4 rfl ⟨Nat.zero_le _, Nat.zero_le _⟩ hr
theorem tX9_number (hS : Sd M K P L) (hc : CIn P 1 2) (μ : Mem) {o : Int} (hf : fX9_number μ = o) : Cn l D cy g K K yX9_number cX9_number 1 (some .int) (rmd 1 0 0) [vr g 1] M x (L μ) (PE (some (vi o)) M x (L μ)) :=
 Cn.of (by decide) (Nat.le_of_ble_eq_true rfl) (eX9_number hS hc μ hf (PE_i _ _ _ _))
def fX2_hasWidth_b2 (k : Nat) (width : Int) (v1 : Int) (μ : Mem) : Option ((Int) ⊕ (Bool)) :=
  if w32 v1 < w32 (μ k 0) then
    if w32 (fX11_at (k + 3) v1 μ) = w32 width then
      some (.inr true)
    else
      some (.inl (v1 + 1))
  else
    some (.inr false)
set_option maxRecDepth 4000 in
theorem tX2_hasWidth_b2 (hS : Sd M K P L) (hc : CIn P 1 39) (k : Nat) (width : Int) (v1 : Int) (μ : Mem) (hk : isGr k) {o : (Int) ⊕ (Bool)} (hf : fX2_hasWidth_b2 k width v1 μ = some o) (hr : (Sum.elim (fun s : Int => Ev l D cy g K yX2_hasWidth cX2_hasWidth 3 (some .boolean) (rmd 3 0 0) (MX D cy g K (rmd 3 0 0) Φ) 0 0 M x (L μ) 2 [(0, vr g k), (1, vi width), (2, vi s)] []) (fun o : Bool => Φ (some (vb o)) M x (L μ))) o) : Ev l D cy g K yX2_hasWidth cX2_hasWidth 3 (some .boolean) (rmd 3 0 0) (MX D cy g K (rmd 3 0 0) Φ) 0 0 M x (L μ) 2 [(0, vr g k), (1, vi width), (2, vi v1)] [] := by
  unfold fX2_hasWidth_b2 at hf
  refine ev_iload_n dX2_hasWidth_2 2 rfl ?_
  refine ev_aload_n dX2_hasWidth_3 0 rfl ?_
  refine ev_getI 0 dX2_hasWidth_4 (hS.lt (hc _ (inR_w (i_Gr0 hk) rfl rfl))) (s_Gr0 hk) (hS.mem _ (hc _ (inR_w (i_Gr0 hk) rfl rfl))) ciX2 (by decide) rfl flX2_34 ?_
  refine ev_icmp_ge 27 dX2_hasWidth_7 (by decide) (fun h2 => ?_) (fun h2 => ?_)
  · rw [if_neg h2] at hf
    refine ev_iconst dX2_hasWidth_27 ?_
    obtain rfl := Option.some.inj hf
    exact ev_bret (b := false) dX2_hasWidth_28 rfl ⟨Nat.zero_le _, Nat.zero_le _⟩ hr
  · rw [if_pos h2] at hf
    refine ev_aload_n dX2_hasWidth_10 0 rfl ?_
    refine ev_iload_n dX2_hasWidth_11 2 rfl ?_
    refine cl_V1 (As := [vi v1]) (st := []) miX2_widthOf (tX2_widthOf hS (hc.w rfl rfl) k v1 μ hk (o := (fX11_at (k + 3) v1 μ)) rfl) dX2_hasWidth_12 lkX2_48 inX2_widthOf rfl (hS.lt (hc _ (inR_w (i_Gr0 hk) rfl rfl))) (s_Gr0 hk) ⟨rfl, rfl⟩ ⟨⟨Nat.le_of_ble_eq_true rfl, Nat.le_of_ble_eq_true rfl⟩, Nat.zero_le _, Nat.zero_le _⟩ (Nat.le_of_ble_eq_true rfl) ?_
    refine ev_iload_n dX2_hasWidth_15 1 rfl ?_
    refine ev_icmp_ne 21 dX2_hasWidth_16 (by decide) (fun h3 => ?_) (fun h3 => ?_)
    · rw [if_neg h3] at hf
      refine ev_iinc (al2 := [(2, vi (v1 + 1)), (0, vr g k), (1, vi width)]) dX2_hasWidth_21 2 rfl (by decide) rfl ?_
      refine ev_goto 2 dX2_hasWidth_24 (by decide) ?_
      obtain rfl := Option.some.inj hf
      refine ev_sub [1, 2, 0] rfl ?_
      exact hr
    · rw [if_pos h3] at hf
      refine ev_iconst dX2_hasWidth_19 ?_
      obtain rfl := Option.some.inj hf
      exact ev_bret (b := true) dX2_hasWidth_20 rfl ⟨Nat.zero_le _, Nat.zero_le _⟩ hr
def fX2_hasWidth (k : Nat) (width : Int) (μ : Mem) : Option (Bool) :=
  loopN (fun s => fX2_hasWidth_b2 k width s μ) FU 0
set_option maxRecDepth 4000 in
theorem eX2_hasWidth (hS : Sd M K P L) (hc : CIn P 1 39) (k : Nat) (width : Int) (μ : Mem) (hk : isGr k) {o : Bool} (hf : fX2_hasWidth k width μ = some o) (hr : (fun o : Bool => Φ (some (vb o)) M x (L μ)) o) : Ev l D cy g K yX2_hasWidth cX2_hasWidth 3 (some .boolean) (rmd 3 0 0) (MX D cy g K (rmd 3 0 0) Φ) 0 0 M x (L μ) 0 [(0, vr g k), (1, vi width)] [] := by
  unfold fX2_hasWidth at hf
  refine ev_iconst dX2_hasWidth_0 ?_
  refine ev_istore_n (al2 := [(2, vi 0), (0, vr g k), (1, vi width)]) dX2_hasWidth_1 2 rfl (by decide) rfl ?_
  refine ev_sub [1, 2, 0] rfl ?_
  exact loop_ev (H := (fun s : Int => Ev l D cy g K yX2_hasWidth cX2_hasWidth 3 (some .boolean) (rmd 3 0 0) (MX D cy g K (rmd 3 0 0) Φ) 0 0 M x (L μ) 2 [(0, vr g k), (1, vi width), (2, vi s)] [])) (Hx := (fun o : Bool => Φ (some (vb o)) M x (L μ))) (fun s o hb hr => tX2_hasWidth_b2 hS hc k width s μ hk hb hr) FU _ _ hf hr
theorem tX2_hasWidth (hS : Sd M K P L) (hc : CIn P 1 39) (k : Nat) (width : Int) (μ : Mem) (hk : isGr k) {o : Bool} (hf : fX2_hasWidth k width μ = some o) : Cn l D cy g K K yX2_hasWidth cX2_hasWidth 3 (some .boolean) (rmd 3 0 0) [vr g k, vi width] M x (L μ) (PE (some (vb o)) M x (L μ)) :=
 Cn.of (by decide) (Nat.le_of_ble_eq_true rfl) (eX2_hasWidth hS hc k width μ hk hf (PE_i _ _ _ _))
def fX6_readWidth (draft : Nat) (μ : Mem) : Option (Bool × Mem) :=
  (fX9_isWord 1002 μ).bind fun v1 =>
  if v1 = true then
    (fX9_step μ).bind fun μ3 =>
    if (fX9_is 110 μ3) = true then
      if w32 (μ3 1 5) < w32 1 then
        lt (fX6_wrong 4 μ3) fun q6 =>
        some ((q6.1, q6.2))
      else
        if w32 (μ3 1 5) ≤ w32 30 then
          (fX2_hasWidth draft (μ3 1 5) μ3).bind fun v8 =>
          if v8 = true then
            lt (fX6_wrong 3 μ3) fun q10 =>
            lt (if q10.1 = true then
                true
              else
                false) fun v11 =>
            some ((v11, q10.2))
          else
            some ((true, μ3))
        else
          lt (fX6_wrong 4 μ3) fun q13 =>
          some ((q13.1, q13.2))
    else
      lt (fX6_wrong 1 μ3) fun q14 =>
      some ((q14.1, q14.2))
  else
    lt (fX6_wrong 1 μ) fun q15 =>
    some ((q15.1, q15.2))
set_option maxRecDepth 4000 in
theorem eX6_readWidth (hS : Sd M K P L) (hc : CIn P 1 39) (draft : Nat) (μ : Mem) (hdraft : isGr draft) {o : Bool × Mem} (hf : fX6_readWidth draft μ = some o) (hr : (fun o : Bool × Mem => Φ (some (vb o.1)) M x (L o.2)) o) : Ev l D cy g K yX6_readWidth cX6_readWidth 2 (some .boolean) (rmd 6 0 0) (MX D cy g K (rmd 6 0 0) Φ) 0 0 M x (L μ) 0 [(0, vr g 3), (1, vr g draft)] [] := by
  unfold fX6_readWidth at hf
  refine ev_aload_n dX6_readWidth_0 0 rfl ?_
  refine ev_getK 0 dX6_readWidth_1 (hS.lt (hc 3 rfl)) rfl (hS.K1 (hc 3 rfl) rfl) ciX6 (by decide) rfl flX6_15 ?_
  refine ev_getsW 2 dX6_readWidth_4 (by decide) rfl flX6_147 ?_
  obtain ⟨v1, hv1, hf⟩ := Option.bind_eq_some_iff.mp hf
  refine cl_V1 (As := [vr g 1002]) (st := []) miX9_isWord (tX9_isWord hS (hc.w rfl rfl) 1002 μ (⟨by decide, by decide⟩) hv1) dX6_readWidth_7 lkX6_49 inX9_isWord rfl (hS.lt (hc 1 rfl)) rfl ⟨rfl, rfl⟩ ⟨⟨Nat.le_of_ble_eq_true rfl, Nat.le_of_ble_eq_true rfl⟩, Nat.zero_le _, Nat.zero_le _⟩ (Nat.le_of_ble_eq_true rfl) ?_
  refine ev_ifb_ne 19 dX6_readWidth_10 (by decide) (fun h2 => ?_) (fun h2 => ?_)
  · rw [if_pos h2] at hf
    refine ev_aload_n dX6_readWidth_19 0 rfl ?_
    refine ev_getK 0 dX6_readWidth_20 (hS.lt (hc 3 rfl)) rfl (hS.K1 (hc 3 rfl) rfl) ciX6 (by decide) rfl flX6_15 ?_
    obtain ⟨μ3, hμ3, hf⟩ := Option.bind_eq_some_iff.mp hf
    refine cl_V0 (As := []) (st := []) miX9_step (tX9_step hS (hc.w rfl rfl) μ hμ3) dX6_readWidth_23 lkX6_99 inX9_step rfl (hS.lt (hc 1 rfl)) rfl ⟨rfl, rfl⟩ ⟨⟨Nat.le_of_ble_eq_true rfl, Nat.le_of_ble_eq_true rfl⟩, Nat.zero_le _, Nat.zero_le _⟩ (Nat.le_of_ble_eq_true rfl) ?_
    refine ev_aload_n dX6_readWidth_26 0 rfl ?_
    refine ev_getK 0 dX6_readWidth_27 (hS.lt (hc 3 rfl)) rfl (hS.K1 (hc 3 rfl) rfl) ciX6 (by decide) rfl flX6_15 ?_
    refine ev_bipush dX6_readWidth_30 (by decide) ?_
    refine cl_V1 (As := [vi 110]) (st := []) miX9_is (tX9_is hS (hc.w rfl rfl) 110 μ3 (o := (fX9_is 110 μ3)) rfl) dX6_readWidth_32 lkX6_37 inX9_is rfl (hS.lt (hc 1 rfl)) rfl ⟨rfl, rfl⟩ ⟨⟨Nat.le_of_ble_eq_true rfl, Nat.le_of_ble_eq_true rfl⟩, Nat.zero_le _, Nat.zero_le _⟩ (Nat.le_of_ble_eq_true rfl) ?_
    refine ev_ifb_ne 44 dX6_readWidth_35 (by decide) (fun h4 => ?_) (fun h4 => ?_)
    · rw [if_pos h4] at hf
      refine ev_aload_n dX6_readWidth_44 0 rfl ?_
      refine ev_getK 0 dX6_readWidth_45 (hS.lt (hc 3 rfl)) rfl (hS.K1 (hc 3 rfl) rfl) ciX6 (by decide) rfl flX6_15 ?_
      refine cl_V1 (As := []) (st := []) miX9_number (tX9_number hS (hc.w rfl rfl) μ3 (o := (μ3 1 5)) rfl) dX6_readWidth_48 lkX6_131 inX9_number rfl (hS.lt (hc 1 rfl)) rfl ⟨rfl, rfl⟩ ⟨⟨Nat.le_of_ble_eq_true rfl, Nat.le_of_ble_eq_true rfl⟩, Nat.zero_le _, Nat.zero_le _⟩ (Nat.le_of_ble_eq_true rfl) ?_
      refine ev_iconst dX6_readWidth_51 ?_
      refine ev_icmp_lt 67 dX6_readWidth_52 (by decide) (fun h5 => ?_) (fun h5 => ?_)
      · rw [if_pos h5] at hf
        refine ev_aload_n dX6_readWidth_67 0 rfl ?_
        refine ev_iconst dX6_readWidth_68 ?_
        obtain ⟨q6, hq6, hf⟩ := lt_elim hf
        refine cl_V1 (As := [vi 4]) (st := []) miX6_wrong (tX6_wrong hS (hc.w rfl rfl) 4 μ3 hq6.symm) dX6_readWidth_69 lkX6_74 inX6_wrong rfl (hS.lt (hc 3 rfl)) rfl ⟨rfl, rfl⟩ ⟨⟨Nat.le_of_ble_eq_true rfl, Nat.le_of_ble_eq_true rfl⟩, Nat.zero_le _, Nat.zero_le _⟩ (Nat.le_of_ble_eq_true rfl) ?_
        obtain rfl := Option.some.inj hf
        exact ev_bret (b := q6.1) dX6_readWidth_72 rfl ⟨Nat.zero_le _, Nat.zero_le _⟩ hr
      · rw [if_neg h5] at hf
        refine ev_aload_n dX6_readWidth_55 0 rfl ?_
        refine ev_getK 0 dX6_readWidth_56 (hS.lt (hc 3 rfl)) rfl (hS.K1 (hc 3 rfl) rfl) ciX6 (by decide) rfl flX6_15 ?_
        refine cl_V1 (As := []) (st := []) miX9_number (tX9_number hS (hc.w rfl rfl) μ3 (o := (μ3 1 5)) rfl) dX6_readWidth_59 lkX6_131 inX9_number rfl (hS.lt (hc 1 rfl)) rfl ⟨rfl, rfl⟩ ⟨⟨Nat.le_of_ble_eq_true rfl, Nat.le_of_ble_eq_true rfl⟩, Nat.zero_le _, Nat.zero_le _⟩ (Nat.le_of_ble_eq_true rfl) ?_
        refine ev_bipush dX6_readWidth_62 (by decide) ?_
        refine ev_icmp_le 73 dX6_readWidth_64 (by decide) (fun h7 => ?_) (fun h7 => ?_)
        · rw [if_pos h7] at hf
          refine ev_aload_n dX6_readWidth_73 1 rfl ?_
          refine ev_aload_n dX6_readWidth_74 0 rfl ?_
          refine ev_getK 0 dX6_readWidth_75 (hS.lt (hc 3 rfl)) rfl (hS.K1 (hc 3 rfl) rfl) ciX6 (by decide) rfl flX6_15 ?_
          refine cl_V1 (As := []) (st := [vr g draft]) miX9_number (tX9_number hS (hc.w rfl rfl) μ3 (o := (μ3 1 5)) rfl) dX6_readWidth_78 lkX6_131 inX9_number rfl (hS.lt (hc 1 rfl)) rfl ⟨rfl, rfl⟩ ⟨⟨Nat.le_of_ble_eq_true rfl, Nat.le_of_ble_eq_true rfl⟩, Nat.zero_le _, Nat.zero_le _⟩ (Nat.le_of_ble_eq_true rfl) ?_
          obtain ⟨v8, hv8, hf⟩ := Option.bind_eq_some_iff.mp hf
          refine cl_V1 (As := [vi (μ3 1 5)]) (st := []) miX2_hasWidth (tX2_hasWidth hS (hc.w rfl rfl) draft (μ3 1 5) μ3 hdraft hv8) dX6_readWidth_81 lkX6_150 inX2_hasWidth rfl (hS.lt (hc _ (inR_w (i_Gr0 hdraft) rfl rfl))) (s_Gr0 hdraft) ⟨rfl, rfl⟩ ⟨⟨Nat.le_of_ble_eq_true rfl, Nat.le_of_ble_eq_true rfl⟩, Nat.zero_le _, Nat.zero_le _⟩ (Nat.le_of_ble_eq_true rfl) ?_
          refine ev_ifb_eq 95 dX6_readWidth_84 (by decide) (fun h9 => ?_) (fun h9 => ?_)
          · rw [if_neg h9] at hf
            refine ev_iconst dX6_readWidth_95 ?_
            refine ev_goto 100 dX6_readWidth_96 (by decide) ?_
            obtain rfl := Option.some.inj hf
            exact ev_bret (b := true) dX6_readWidth_100 rfl ⟨Nat.zero_le _, Nat.zero_le _⟩ hr
          · rw [if_pos h9] at hf
            refine ev_aload_n dX6_readWidth_87 0 rfl ?_
            refine ev_iconst dX6_readWidth_88 ?_
            obtain ⟨q10, hq10, hf⟩ := lt_elim hf
            refine cl_V1 (As := [vi 3]) (st := []) miX6_wrong (tX6_wrong hS (hc.w rfl rfl) 3 μ3 hq10.symm) dX6_readWidth_89 lkX6_74 inX6_wrong rfl (hS.lt (hc 3 rfl)) rfl ⟨rfl, rfl⟩ ⟨⟨Nat.le_of_ble_eq_true rfl, Nat.le_of_ble_eq_true rfl⟩, Nat.zero_le _, Nat.zero_le _⟩ (Nat.le_of_ble_eq_true rfl) ?_
            obtain ⟨v11, hv11, hf⟩ := lt_elim hf
            have hJv11 : Ev l D cy g K yX6_readWidth cX6_readWidth 2 (some .boolean) (rmd 6 0 0) (MX D cy g K (rmd 6 0 0) Φ) 0 0 M x (L q10.2) 100 [(0, vr g 3), (1, vr g draft)] [vb v11] := by
              obtain rfl := Option.some.inj hf
              exact ev_bret (b := v11) dX6_readWidth_100 rfl ⟨Nat.zero_le _, Nat.zero_le _⟩ hr
            refine ev_ifb_eq 99 dX6_readWidth_92 (by decide) (fun h12 => ?_) (fun h12 => ?_)
            · refine ev_iconst dX6_readWidth_99 ?_
              have e9 : v11 = false := hv11.trans ((if_neg h12))
              subst e9
              exact hJv11
            · refine ev_iconst dX6_readWidth_95 ?_
              refine ev_goto 100 dX6_readWidth_96 (by decide) ?_
              have e9 : v11 = true := hv11.trans ((if_pos h12))
              subst e9
              exact hJv11
        · rw [if_neg h7] at hf
          refine ev_aload_n dX6_readWidth_67 0 rfl ?_
          refine ev_iconst dX6_readWidth_68 ?_
          obtain ⟨q13, hq13, hf⟩ := lt_elim hf
          refine cl_V1 (As := [vi 4]) (st := []) miX6_wrong (tX6_wrong hS (hc.w rfl rfl) 4 μ3 hq13.symm) dX6_readWidth_69 lkX6_74 inX6_wrong rfl (hS.lt (hc 3 rfl)) rfl ⟨rfl, rfl⟩ ⟨⟨Nat.le_of_ble_eq_true rfl, Nat.le_of_ble_eq_true rfl⟩, Nat.zero_le _, Nat.zero_le _⟩ (Nat.le_of_ble_eq_true rfl) ?_
          obtain rfl := Option.some.inj hf
          exact ev_bret (b := q13.1) dX6_readWidth_72 rfl ⟨Nat.zero_le _, Nat.zero_le _⟩ hr
    · rw [if_neg h4] at hf
      refine ev_aload_n dX6_readWidth_38 0 rfl ?_
      refine ev_iconst dX6_readWidth_39 ?_
      obtain ⟨q14, hq14, hf⟩ := lt_elim hf
      refine cl_V1 (As := [vi 1]) (st := []) miX6_wrong (tX6_wrong hS (hc.w rfl rfl) 1 μ3 hq14.symm) dX6_readWidth_40 lkX6_74 inX6_wrong rfl (hS.lt (hc 3 rfl)) rfl ⟨rfl, rfl⟩ ⟨⟨Nat.le_of_ble_eq_true rfl, Nat.le_of_ble_eq_true rfl⟩, Nat.zero_le _, Nat.zero_le _⟩ (Nat.le_of_ble_eq_true rfl) ?_
      obtain rfl := Option.some.inj hf
      exact ev_bret (b := q14.1) dX6_readWidth_43 rfl ⟨Nat.zero_le _, Nat.zero_le _⟩ hr
  · rw [if_neg h2] at hf
    refine ev_aload_n dX6_readWidth_13 0 rfl ?_
    refine ev_iconst dX6_readWidth_14 ?_
    obtain ⟨q15, hq15, hf⟩ := lt_elim hf
    refine cl_V1 (As := [vi 1]) (st := []) miX6_wrong (tX6_wrong hS (hc.w rfl rfl) 1 μ hq15.symm) dX6_readWidth_15 lkX6_74 inX6_wrong rfl (hS.lt (hc 3 rfl)) rfl ⟨rfl, rfl⟩ ⟨⟨Nat.le_of_ble_eq_true rfl, Nat.le_of_ble_eq_true rfl⟩, Nat.zero_le _, Nat.zero_le _⟩ (Nat.le_of_ble_eq_true rfl) ?_
    obtain rfl := Option.some.inj hf
    exact ev_bret (b := q15.1) dX6_readWidth_18 rfl ⟨Nat.zero_le _, Nat.zero_le _⟩ hr
theorem tX6_readWidth (hS : Sd M K P L) (hc : CIn P 1 39) (draft : Nat) (μ : Mem) (hdraft : isGr draft) {o : Bool × Mem} (hf : fX6_readWidth draft μ = some o) : Cn l D cy g K K yX6_readWidth cX6_readWidth 2 (some .boolean) (rmd 6 0 0) [vr g 3, vr g draft] M x (L μ) (PE (some (vb o.1)) M x (L o.2)) :=
 Cn.of (by decide) (Nat.le_of_ble_eq_true rfl) (eX6_readWidth hS hc draft μ hdraft hf (PE_i _ _ _ _))
def fX10_isLie (k : Nat) : Bool :=
  lt (if k = 1007 then
      true
    else
      if k = 1006 then
        true
      else
        false) fun v1 =>
  v1
set_option maxRecDepth 4000 in
theorem eX10_isLie  (k : Nat) (μ : Mem) (hk : isWd k) {o : Bool} (hf : fX10_isLie k = o) (hr : (fun o : Bool => Φ (some (vb o)) M x μ) o) : Ev l D cy g K yX10_isLie cX10_isLie 1 (some .boolean) (rmd 1 0 0) (MX D cy g K (rmd 1 0 0) Φ) 0 0 M x μ 0 [(0, vr g k)] [] := by
  unfold fX10_isLie at hf
  refine ev_aload_n dX10_isLie_0 0 rfl ?_
  refine ev_getsW 7 dX10_isLie_1 (by decide) rfl flX10_25 ?_
  obtain ⟨v1, hv1, hf⟩ := lt_elim hf
  have hJv1 : Ev l D cy g K yX10_isLie cX10_isLie 1 (some .boolean) (rmd 1 0 0) (MX D cy g K (rmd 1 0 0) Φ) 0 0 M x μ 19 [(0, vr g k)] [vb v1] := by
    obtain rfl := hf
    exact ev_bret (b := v1) dX10_isLie_19 rfl ⟨Nat.zero_le _, Nat.zero_le _⟩ hr
  refine ev_acmp_eq 14 dX10_isLie_4 (by decide) hk ⟨by decide, by decide⟩ (fun h2 => ?_) (fun h2 => ?_)
  · refine ev_iconst dX10_isLie_14 ?_
    refine ev_goto 19 dX10_isLie_15 (by decide) ?_
    have e9 : v1 = true := hv1.trans ((if_pos h2))
    subst e9
    exact hJv1
  · refine ev_aload_n dX10_isLie_7 0 rfl ?_
    refine ev_getsW 6 dX10_isLie_8 (by decide) rfl flX10_22 ?_
    refine ev_acmp_ne 18 dX10_isLie_11 (by decide) hk ⟨by decide, by decide⟩ (fun h3 => ?_) (fun h3 => ?_)
    · refine ev_iconst dX10_isLie_18 ?_
      have e9 : v1 = false := hv1.trans (((if_neg h2)).trans (if_neg h3))
      subst e9
      exact hJv1
    · refine ev_iconst dX10_isLie_14 ?_
      refine ev_goto 19 dX10_isLie_15 (by decide) ?_
      have e9 : v1 = true := hv1.trans (((if_neg h2)).trans (if_pos h3))
      subst e9
      exact hJv1
theorem tX10_isLie (k : Nat) (μ : Mem) (hk : isWd k) {o : Bool} (hf : fX10_isLie k = o) : Cn l D cy g K K yX10_isLie cX10_isLie 1 (some .boolean) (rmd 1 0 0) [vr g k] M x μ (PE (some (vb o)) M x μ) :=
 Cn.of (by decide) (Nat.le_of_ble_eq_true rfl) (eX10_isLie k μ hk hf (PE_i _ _ _ _))
def fX2_add (k : Nat) (name : Int) (kind : Int) (width : Int) (up0 : Bool) (μ : Mem) : Mem :=
  if w32 (μ k 0) < 0 then
    μ
  else
    if w32 (μ k 0) < w32 5 then
      lt (upd2 μ (k + 1) ((w32 (μ k 0)).toNat) name) fun μ3 =>
      lt (fX11_put (k + 2) (μ3 k 0) kind μ3) fun μ4 =>
      lt (fX11_put (k + 3) (μ4 k 0) width μ4) fun μ5 =>
      lt (if up0 = true then
          (i_shl 1 (μ5 k 0))
        else
          0) fun v6 =>
      lt (upd2 μ5 k 4 (i_or (μ5 k 4) v6)) fun μ8 =>
      lt (upd2 μ8 k 0 ((μ8 k 0) + 1)) fun μ9 =>
      μ9
    else
      μ
set_option maxRecDepth 4000 in
theorem eX2_add (hS : Sd M K P L) (hc : CIn P 1 39) (k : Nat) (name : Int) (kind : Int) (width : Int) (up0 : Bool) (μ : Mem) (hk : isGr k) {o : Mem} (hf : fX2_add k name kind width up0 μ = o) (hr : (fun o : Mem => Φ none M x (L o)) o) : Ev l D cy g K yX2_add cX2_add 6 none (rmd 2 0 0) (MX D cy g K (rmd 2 0 0) Φ) 0 0 M x (L μ) 0 [(0, vr g k), (1, vl name), (3, vi kind), (4, vi width), (5, vb up0)] [] := by
  unfold fX2_add at hf
  refine ev_aload_n dX2_add_0 0 rfl ?_
  refine ev_getI 0 dX2_add_1 (hS.lt (hc _ (inR_w (i_Gr0 hk) rfl rfl))) (s_Gr0 hk) (hS.mem _ (hc _ (inR_w (i_Gr0 hk) rfl rfl))) ciX2 (by decide) rfl flX2_34 ?_
  refine ev_if_lt 19 dX2_add_4 (by decide) (fun h1 => ?_) (fun h1 => ?_)
  · rw [if_pos h1] at hf
    obtain rfl := hf
    exact ev_vret dX2_add_19 rfl ⟨Nat.zero_le _, Nat.zero_le _⟩ hr
  · rw [if_neg h1] at hf
    refine ev_aload_n dX2_add_7 0 rfl ?_
    refine ev_getI 0 dX2_add_8 (hS.lt (hc _ (inR_w (i_Gr0 hk) rfl rfl))) (s_Gr0 hk) (hS.mem _ (hc _ (inR_w (i_Gr0 hk) rfl rfl))) ciX2 (by decide) rfl flX2_34 ?_
    refine ev_aload_n dX2_add_11 0 rfl ?_
    refine ev_getK 1 dX2_add_12 (hS.lt (hc _ (inR_w (i_Gr0 hk) rfl rfl))) (s_Gr0 hk) (hS.K1 (hc _ (inR_w (i_Gr0 hk) rfl rfl)) (K_Gr1 hk)) ciX2 (by decide) rfl flX2_9 ?_
    refine ev_alen dX2_add_15 (hS.lt (hc _ (inR_w (i_Gr1 hk) rfl rfl))) (s_Gr1 hk) (by decide) ?_
    refine ev_rn (w := vi 5) rfl ?_
    refine ev_icmp_lt 20 dX2_add_16 (by decide) (fun h2 => ?_) (fun h2 => ?_)
    · rw [if_pos h2] at hf
      refine ev_aload_n dX2_add_20 0 rfl ?_
      refine ev_getK 1 dX2_add_21 (hS.lt (hc _ (inR_w (i_Gr0 hk) rfl rfl))) (s_Gr0 hk) (hS.K1 (hc _ (inR_w (i_Gr0 hk) rfl rfl)) (K_Gr1 hk)) ciX2 (by decide) rfl flX2_9 ?_
      refine ev_aload_n dX2_add_24 0 rfl ?_
      refine ev_getI 0 dX2_add_25 (hS.lt (hc _ (inR_w (i_Gr0 hk) rfl rfl))) (s_Gr0 hk) (hS.mem _ (hc _ (inR_w (i_Gr0 hk) rfl rfl))) ciX2 (by decide) rfl flX2_34 ?_
      refine ev_lload_n dX2_add_28 1 rfl ?_
      obtain ⟨μ3, hμ3, hf⟩ := lt_elim hf
      refine ev_last dX2_add_29 (hS.lt (hc _ (inR_w (i_Gr1 hk) rfl rfl))) (s_Gr1 hk) ⟨by omega, by have h9 : w32 5 = 5 := (by decide); omega⟩ (hS.up (hc _ (inR_w (i_Gr1 hk) rfl rfl)) hμ3) ?_
      refine ev_aload_n dX2_add_30 0 rfl ?_
      refine ev_getK 2 dX2_add_31 (hS.lt (hc _ (inR_w (i_Gr0 hk) rfl rfl))) (s_Gr0 hk) (hS.K1 (hc _ (inR_w (i_Gr0 hk) rfl rfl)) (K_Gr2 hk)) ciX2 (by decide) rfl flX2_15 ?_
      refine ev_aload_n dX2_add_34 0 rfl ?_
      refine ev_getI 0 dX2_add_35 (hS.lt (hc _ (inR_w (i_Gr0 hk) rfl rfl))) (s_Gr0 hk) (hS.mem _ (hc _ (inR_w (i_Gr0 hk) rfl rfl))) ciX2 (by decide) rfl flX2_34 ?_
      refine ev_iload_n dX2_add_38 2 rfl ?_
      obtain ⟨μ4, hμ4, hf⟩ := lt_elim hf
      refine cl_N0 (As := [vr g (k + 2), vi (μ3 k 0), vi kind]) (st := []) (host := "HotCakes") miX11_put (tX11_put hS (hc.w rfl rfl) (k + 2) (μ3 k 0) kind μ3 (⟨(hc _ (inR_w (i_Gr2 hk) rfl rfl)), (ia_of (s_Gr2 hk))⟩) hμ4.symm) dX2_add_39 (by decide) stX11_put rfl ⟨⟨Nat.le_of_ble_eq_true rfl, Nat.le_of_ble_eq_true rfl⟩, Nat.zero_le _, Nat.zero_le _⟩ (Nat.le_of_ble_eq_true rfl) ?_
      refine ev_aload_n dX2_add_42 0 rfl ?_
      refine ev_getK 3 dX2_add_43 (hS.lt (hc _ (inR_w (i_Gr0 hk) rfl rfl))) (s_Gr0 hk) (hS.K1 (hc _ (inR_w (i_Gr0 hk) rfl rfl)) (K_Gr3 hk)) ciX2 (by decide) rfl flX2_19 ?_
      refine ev_aload_n dX2_add_46 0 rfl ?_
      refine ev_getI 0 dX2_add_47 (hS.lt (hc _ (inR_w (i_Gr0 hk) rfl rfl))) (s_Gr0 hk) (hS.mem _ (hc _ (inR_w (i_Gr0 hk) rfl rfl))) ciX2 (by decide) rfl flX2_34 ?_
      refine ev_iload dX2_add_50 3 rfl ?_
      obtain ⟨μ5, hμ5, hf⟩ := lt_elim hf
      refine cl_N0 (As := [vr g (k + 3), vi (μ4 k 0), vi width]) (st := []) (host := "HotCakes") miX11_put (tX11_put hS (hc.w rfl rfl) (k + 3) (μ4 k 0) width μ4 (⟨(hc _ (inR_w (i_Gr3 hk) rfl rfl)), (ia_of (s_Gr3 hk))⟩) hμ5.symm) dX2_add_52 (by decide) stX11_put rfl ⟨⟨Nat.le_of_ble_eq_true rfl, Nat.le_of_ble_eq_true rfl⟩, Nat.zero_le _, Nat.zero_le _⟩ (Nat.le_of_ble_eq_true rfl) ?_
      refine ev_aload_n dX2_add_55 0 rfl ?_
      refine ev_dup dX2_add_56 rfl ?_
      refine ev_getI 4 dX2_add_57 (hS.lt (hc _ (inR_w (i_Gr0 hk) rfl rfl))) (s_Gr0 hk) (hS.mem _ (hc _ (inR_w (i_Gr0 hk) rfl rfl))) ciX2 (by decide) rfl flX2_38 ?_
      refine ev_iload dX2_add_60 4 rfl ?_
      obtain ⟨v6, hv6, hf⟩ := lt_elim hf
      have hJv6 : Ev l D cy g K yX2_add cX2_add 6 none (rmd 2 0 0) (MX D cy g K (rmd 2 0 0) Φ) 0 0 M x (L μ5) 75 [(0, vr g k), (1, vl name), (3, vi kind), (4, vi width), (5, vb up0)] [vi v6, vi (μ5 k 4), vr g k] := by
        refine ev_ior dX2_add_75 ?_
        obtain ⟨μ8, hμ8, hf⟩ := lt_elim hf
        refine ev_putI 4 dX2_add_76 (hS.lt (hc _ (inR_w (i_Gr0 hk) rfl rfl))) (s_Gr0 hk) ciX2 (by decide) (Or.inl rfl) rfl rfl flX2_38 (hS.up (hc _ (inR_w (i_Gr0 hk) rfl rfl)) hμ8) ?_
        refine ev_aload_n dX2_add_79 0 rfl ?_
        refine ev_dup dX2_add_80 rfl ?_
        refine ev_getI 0 dX2_add_81 (hS.lt (hc _ (inR_w (i_Gr0 hk) rfl rfl))) (s_Gr0 hk) (hS.mem _ (hc _ (inR_w (i_Gr0 hk) rfl rfl))) ciX2 (by decide) rfl flX2_34 ?_
        refine ev_iconst dX2_add_84 ?_
        refine ev_iadd dX2_add_85 ?_
        obtain ⟨μ9, hμ9, hf⟩ := lt_elim hf
        refine ev_putI 0 dX2_add_86 (hS.lt (hc _ (inR_w (i_Gr0 hk) rfl rfl))) (s_Gr0 hk) ciX2 (by decide) (Or.inl rfl) rfl rfl flX2_34 (hS.up (hc _ (inR_w (i_Gr0 hk) rfl rfl)) hμ9) ?_
        obtain rfl := hf
        exact ev_vret dX2_add_89 rfl ⟨Nat.zero_le _, Nat.zero_le _⟩ hr
      refine ev_ifb_eq 74 dX2_add_62 (by decide) (fun h7 => ?_) (fun h7 => ?_)
      · refine ev_iconst dX2_add_74 ?_
        have e9 : v6 = 0 := hv6.trans ((if_neg h7))
        subst e9
        exact hJv6
      · refine ev_iconst dX2_add_65 ?_
        refine ev_aload_n dX2_add_66 0 rfl ?_
        refine ev_getI 0 dX2_add_67 (hS.lt (hc _ (inR_w (i_Gr0 hk) rfl rfl))) (s_Gr0 hk) (hS.mem _ (hc _ (inR_w (i_Gr0 hk) rfl rfl))) ciX2 (by decide) rfl flX2_34 ?_
        refine ev_ishl dX2_add_70 ?_
        refine ev_goto 75 dX2_add_71 (by decide) ?_
        have e9 : v6 = (i_shl 1 (μ5 k 0)) := hv6.trans ((if_pos h7))
        subst e9
        exact hJv6
    · rw [if_neg h2] at hf
      obtain rfl := hf
      exact ev_vret dX2_add_19 rfl ⟨Nat.zero_le _, Nat.zero_le _⟩ hr
theorem tX2_add (hS : Sd M K P L) (hc : CIn P 1 39) (k : Nat) (name : Int) (kind : Int) (width : Int) (up0 : Bool) (μ : Mem) (hk : isGr k) {o : Mem} (hf : fX2_add k name kind width up0 μ = o) : Cn l D cy g K K yX2_add cX2_add 6 none (rmd 2 0 0) [vr g k, vl name, vi kind, vi width, vb up0] M x (L μ) (PE none M x (L o)) :=
 Cn.of (by decide) (Nat.le_of_ble_eq_true rfl) (eX2_add hS hc k name kind width up0 μ hk hf (PE_i _ _ _ _))
def fX6_skipSign (sign : Int) (μ : Mem) : Option (Bool × Mem) :=
  if (fX9_is sign μ) = true then
    (fX9_step μ).bind fun μ2 =>
    some ((true, μ2))
  else
    lt (fX6_wrong 1 μ) fun q3 =>
    some ((q3.1, q3.2))
set_option maxRecDepth 4000 in
theorem eX6_skipSign (hS : Sd M K P L) (hc : CIn P 1 4) (sign : Int) (μ : Mem)  {o : Bool × Mem} (hf : fX6_skipSign sign μ = some o) (hr : (fun o : Bool × Mem => Φ (some (vb o.1)) M x (L o.2)) o) : Ev l D cy g K yX6_skipSign cX6_skipSign 2 (some .boolean) (rmd 6 0 0) (MX D cy g K (rmd 6 0 0) Φ) 0 0 M x (L μ) 0 [(0, vr g 3), (1, vi sign)] [] := by
  unfold fX6_skipSign at hf
  refine ev_aload_n dX6_skipSign_0 0 rfl ?_
  refine ev_getK 0 dX6_skipSign_1 (hS.lt (hc 3 rfl)) rfl (hS.K1 (hc 3 rfl) rfl) ciX6 (by decide) rfl flX6_15 ?_
  refine ev_iload_n dX6_skipSign_4 1 rfl ?_
  refine cl_V1 (As := [vi sign]) (st := []) miX9_is (tX9_is hS (hc.w rfl rfl) sign μ (o := (fX9_is sign μ)) rfl) dX6_skipSign_5 lkX6_37 inX9_is rfl (hS.lt (hc 1 rfl)) rfl ⟨rfl, rfl⟩ ⟨⟨Nat.le_of_ble_eq_true rfl, Nat.le_of_ble_eq_true rfl⟩, Nat.zero_le _, Nat.zero_le _⟩ (Nat.le_of_ble_eq_true rfl) ?_
  refine ev_ifb_ne 17 dX6_skipSign_8 (by decide) (fun h1 => ?_) (fun h1 => ?_)
  · rw [if_pos h1] at hf
    refine ev_aload_n dX6_skipSign_17 0 rfl ?_
    refine ev_getK 0 dX6_skipSign_18 (hS.lt (hc 3 rfl)) rfl (hS.K1 (hc 3 rfl) rfl) ciX6 (by decide) rfl flX6_15 ?_
    obtain ⟨μ2, hμ2, hf⟩ := Option.bind_eq_some_iff.mp hf
    refine cl_V0 (As := []) (st := []) miX9_step (tX9_step hS (hc.w rfl rfl) μ hμ2) dX6_skipSign_21 lkX6_99 inX9_step rfl (hS.lt (hc 1 rfl)) rfl ⟨rfl, rfl⟩ ⟨⟨Nat.le_of_ble_eq_true rfl, Nat.le_of_ble_eq_true rfl⟩, Nat.zero_le _, Nat.zero_le _⟩ (Nat.le_of_ble_eq_true rfl) ?_
    refine ev_iconst dX6_skipSign_24 ?_
    obtain rfl := Option.some.inj hf
    exact ev_bret (b := true) dX6_skipSign_25 rfl ⟨Nat.zero_le _, Nat.zero_le _⟩ hr
  · rw [if_neg h1] at hf
    refine ev_aload_n dX6_skipSign_11 0 rfl ?_
    refine ev_iconst dX6_skipSign_12 ?_
    obtain ⟨q3, hq3, hf⟩ := lt_elim hf
    refine cl_V1 (As := [vi 1]) (st := []) miX6_wrong (tX6_wrong hS (hc.w rfl rfl) 1 μ hq3.symm) dX6_skipSign_13 lkX6_74 inX6_wrong rfl (hS.lt (hc 3 rfl)) rfl ⟨rfl, rfl⟩ ⟨⟨Nat.le_of_ble_eq_true rfl, Nat.le_of_ble_eq_true rfl⟩, Nat.zero_le _, Nat.zero_le _⟩ (Nat.le_of_ble_eq_true rfl) ?_
    obtain rfl := Option.some.inj hf
    exact ev_bret (b := q3.1) dX6_skipSign_16 rfl ⟨Nat.zero_le _, Nat.zero_le _⟩ hr
theorem tX6_skipSign (hS : Sd M K P L) (hc : CIn P 1 4) (sign : Int) (μ : Mem) {o : Bool × Mem} (hf : fX6_skipSign sign μ = some o) : Cn l D cy g K K yX6_skipSign cX6_skipSign 2 (some .boolean) (rmd 6 0 0) [vr g 3, vi sign] M x (L μ) (PE (some (vb o.1)) M x (L o.2)) :=
 Cn.of (by decide) (Nat.le_of_ble_eq_true rfl) (eX6_skipSign hS hc sign μ hf (PE_i _ _ _ _))
def fX6_readCake (draft : Nat) (μ : Mem) : Option (Bool × Mem) :=
  if w32 (μ draft 0) < w32 5 then
    (fX9_step μ).bind fun μ2 =>
    (fX9_isName μ2).bind fun v3 =>
    if v3 = true then
      (fX2_find draft (μ2 1 6) μ2).bind fun v5 =>
      if w32 v5 = w32 (-1) then
        lt (μ2 1 6) fun v7 =>
        (fX9_step μ2).bind fun μ8 =>
        (fX9_word μ8).bind fun v9 =>
        if (fX10_isKind v9) = true then
          (fX9_word μ8).bind fun v12 =>
          lt (wsen.getD (v12 - 1000) 0) fun v14 =>
          (fX9_step μ8).bind fun μ15 =>
          (fX6_readWidth draft μ15).bind fun q16 =>
          if q16.1 = true then
            lt (q16.2 1 5) fun v18 =>
            (fX9_step q16.2).bind fun μ19 =>
            (fX9_word μ19).bind fun v20 =>
            if (fX10_isLie v20) = true then
              (fX9_word μ19).bind fun v23 =>
              lt (if v23 = 1007 then
                  true
                else
                  false) fun v25 =>
              lt (fX2_add draft v7 v14 v18 v25 μ19) fun μ27 =>
              (fX9_step μ27).bind fun μ28 =>
              (fX6_skipSign 59 μ28).bind fun q29 =>
              some ((q29.1, q29.2))
            else
              lt (fX6_wrong 1 μ19) fun q30 =>
              some ((q30.1, q30.2))
          else
            some ((false, q16.2))
        else
          lt (fX6_wrong 1 μ8) fun q31 =>
          some ((q31.1, q31.2))
      else
        lt (fX6_wrong 3 μ2) fun q32 =>
        some ((q32.1, q32.2))
    else
      lt (fX6_wrong 1 μ2) fun q33 =>
      some ((q33.1, q33.2))
  else
    lt (fX6_wrong 5 μ) fun q34 =>
    some ((q34.1, q34.2))
set_option maxRecDepth 4000 in
theorem eX6_readCake (hS : Sd M K P L) (hc : CIn P 1 39) (draft : Nat) (μ : Mem) (hdraft : isGr draft) {o : Bool × Mem} (hf : fX6_readCake draft μ = some o) (hr : (fun o : Bool × Mem => Φ (some (vb o.1)) M x (L o.2)) o) : Ev l D cy g K yX6_readCake cX6_readCake 6 (some .boolean) (rmd 7 0 0) (MX D cy g K (rmd 7 0 0) Φ) 0 0 M x (L μ) 0 [(0, vr g 3), (1, vr g draft)] [] := by
  unfold fX6_readCake at hf
  refine ev_aload_n dX6_readCake_0 1 rfl ?_
  refine cl_V1 (As := []) (st := []) miX2_size (tX2_size hS (hc.w rfl rfl) draft μ hdraft (o := (μ draft 0)) rfl) dX6_readCake_1 lkX6_85 inX2_size rfl (hS.lt (hc _ (inR_w (i_Gr0 hdraft) rfl rfl))) (s_Gr0 hdraft) ⟨rfl, rfl⟩ ⟨⟨Nat.le_of_ble_eq_true rfl, Nat.le_of_ble_eq_true rfl⟩, Nat.zero_le _, Nat.zero_le _⟩ (Nat.le_of_ble_eq_true rfl) ?_
  refine ev_iconst dX6_readCake_4 ?_
  refine ev_icmp_lt 14 dX6_readCake_5 (by decide) (fun h1 => ?_) (fun h1 => ?_)
  · rw [if_pos h1] at hf
    refine ev_aload_n dX6_readCake_14 0 rfl ?_
    refine ev_getK 0 dX6_readCake_15 (hS.lt (hc 3 rfl)) rfl (hS.K1 (hc 3 rfl) rfl) ciX6 (by decide) rfl flX6_15 ?_
    obtain ⟨μ2, hμ2, hf⟩ := Option.bind_eq_some_iff.mp hf
    refine cl_V0 (As := []) (st := []) miX9_step (tX9_step hS (hc.w rfl rfl) μ hμ2) dX6_readCake_18 lkX6_99 inX9_step rfl (hS.lt (hc 1 rfl)) rfl ⟨rfl, rfl⟩ ⟨⟨Nat.le_of_ble_eq_true rfl, Nat.le_of_ble_eq_true rfl⟩, Nat.zero_le _, Nat.zero_le _⟩ (Nat.le_of_ble_eq_true rfl) ?_
    refine ev_aload_n dX6_readCake_21 0 rfl ?_
    refine ev_getK 0 dX6_readCake_22 (hS.lt (hc 3 rfl)) rfl (hS.K1 (hc 3 rfl) rfl) ciX6 (by decide) rfl flX6_15 ?_
    obtain ⟨v3, hv3, hf⟩ := Option.bind_eq_some_iff.mp hf
    refine cl_V1 (As := []) (st := []) miX9_isName (tX9_isName hS (hc.w rfl rfl) μ2 hv3) dX6_readCake_25 lkX6_106 inX9_isName rfl (hS.lt (hc 1 rfl)) rfl ⟨rfl, rfl⟩ ⟨⟨Nat.le_of_ble_eq_true rfl, Nat.le_of_ble_eq_true rfl⟩, Nat.zero_le _, Nat.zero_le _⟩ (Nat.le_of_ble_eq_true rfl) ?_
    refine ev_ifb_ne 37 dX6_readCake_28 (by decide) (fun h4 => ?_) (fun h4 => ?_)
    · rw [if_pos h4] at hf
      refine ev_aload_n dX6_readCake_37 1 rfl ?_
      refine ev_aload_n dX6_readCake_38 0 rfl ?_
      refine ev_getK 0 dX6_readCake_39 (hS.lt (hc 3 rfl)) rfl (hS.K1 (hc 3 rfl) rfl) ciX6 (by decide) rfl flX6_15 ?_
      refine cl_V1 (As := []) (st := [vr g draft]) miX9_letters (tX9_letters hS (hc.w rfl rfl) μ2 (o := (μ2 1 6)) rfl) dX6_readCake_42 lkX6_110 inX9_letters rfl (hS.lt (hc 1 rfl)) rfl ⟨rfl, rfl⟩ ⟨⟨Nat.le_of_ble_eq_true rfl, Nat.le_of_ble_eq_true rfl⟩, Nat.zero_le _, Nat.zero_le _⟩ (Nat.le_of_ble_eq_true rfl) ?_
      obtain ⟨v5, hv5, hf⟩ := Option.bind_eq_some_iff.mp hf
      refine cl_V1 (As := [vl (μ2 1 6)]) (st := []) miX2_find (tX2_find hS (hc.w rfl rfl) draft (μ2 1 6) μ2 hdraft hv5) dX6_readCake_45 lkX6_114 inX2_find rfl (hS.lt (hc _ (inR_w (i_Gr0 hdraft) rfl rfl))) (s_Gr0 hdraft) ⟨rfl, rfl⟩ ⟨⟨Nat.le_of_ble_eq_true rfl, Nat.le_of_ble_eq_true rfl⟩, Nat.zero_le _, Nat.zero_le _⟩ (Nat.le_of_ble_eq_true rfl) ?_
      refine ev_iconst dX6_readCake_48 ?_
      refine ev_icmp_eq 58 dX6_readCake_49 (by decide) (fun h6 => ?_) (fun h6 => ?_)
      · rw [if_pos h6] at hf
        refine ev_aload_n dX6_readCake_58 0 rfl ?_
        refine ev_getK 0 dX6_readCake_59 (hS.lt (hc 3 rfl)) rfl (hS.K1 (hc 3 rfl) rfl) ciX6 (by decide) rfl flX6_15 ?_
        refine cl_V1 (As := []) (st := []) miX9_letters (tX9_letters hS (hc.w rfl rfl) μ2 (o := (μ2 1 6)) rfl) dX6_readCake_62 lkX6_110 inX9_letters rfl (hS.lt (hc 1 rfl)) rfl ⟨rfl, rfl⟩ ⟨⟨Nat.le_of_ble_eq_true rfl, Nat.le_of_ble_eq_true rfl⟩, Nat.zero_le _, Nat.zero_le _⟩ (Nat.le_of_ble_eq_true rfl) ?_
        obtain ⟨v7, hv7, hf⟩ := lt_elim hf
        refine ev_rnl hv7 ?_
        refine ev_lstore_n (al2 := [(2, vl v7), (0, vr g 3), (1, vr g draft)]) dX6_readCake_65 2 rfl (by decide) rfl ?_
        refine ev_aload_n dX6_readCake_66 1 rfl ?_
        refine ev_getK 0 dX6_readCake_67 (hS.lt (hc 3 rfl)) rfl (hS.K1 (hc 3 rfl) rfl) ciX6 (by decide) rfl flX6_15 ?_
        obtain ⟨μ8, hμ8, hf⟩ := Option.bind_eq_some_iff.mp hf
        refine cl_V0 (As := []) (st := []) miX9_step (tX9_step hS (hc.w rfl rfl) μ2 hμ8) dX6_readCake_70 lkX6_99 inX9_step rfl (hS.lt (hc 1 rfl)) rfl ⟨rfl, rfl⟩ ⟨⟨Nat.le_of_ble_eq_true rfl, Nat.le_of_ble_eq_true rfl⟩, Nat.zero_le _, Nat.zero_le _⟩ (Nat.le_of_ble_eq_true rfl) ?_
        refine ev_aload_n dX6_readCake_73 1 rfl ?_
        refine ev_getK 0 dX6_readCake_74 (hS.lt (hc 3 rfl)) rfl (hS.K1 (hc 3 rfl) rfl) ciX6 (by decide) rfl flX6_15 ?_
        obtain ⟨v9, hv9, hf⟩ := Option.bind_eq_some_iff.mp hf
        refine cl_V1 (As := []) (st := []) miX9_word (tX9_word hS (hc.w rfl rfl) μ8 hv9) dX6_readCake_77 lkX6_118 inX9_word rfl (hS.lt (hc 1 rfl)) rfl ⟨rfl, rfl⟩ ⟨⟨Nat.le_of_ble_eq_true rfl, Nat.le_of_ble_eq_true rfl⟩, Nat.zero_le _, Nat.zero_le _⟩ (Nat.le_of_ble_eq_true rfl) ?_
        refine cl_W1 (As := []) (st := []) miX10_isKind (tX10_isKind v9 (L μ8) (rk_fX9_word hv9) (o := (fX10_isKind v9)) rfl) dX6_readCake_80 lkX6_122 inX10_isKind rfl (rk_fX9_word hv9) rfl ⟨⟨Nat.le_of_ble_eq_true rfl, Nat.le_of_ble_eq_true rfl⟩, Nat.zero_le _, Nat.zero_le _⟩ (Nat.le_of_ble_eq_true rfl) ?_
        refine ev_ifb_ne 92 dX6_readCake_83 (by decide) (fun h11 => ?_) (fun h11 => ?_)
        · rw [if_pos h11] at hf
          refine ev_aload_n dX6_readCake_92 1 rfl ?_
          refine ev_getK 0 dX6_readCake_93 (hS.lt (hc 3 rfl)) rfl (hS.K1 (hc 3 rfl) rfl) ciX6 (by decide) rfl flX6_15 ?_
          obtain ⟨v12, hv12, hf⟩ := Option.bind_eq_some_iff.mp hf
          refine cl_V1 (As := []) (st := []) miX9_word (tX9_word hS (hc.w rfl rfl) μ8 hv12) dX6_readCake_96 lkX6_118 inX9_word rfl (hS.lt (hc 1 rfl)) rfl ⟨rfl, rfl⟩ ⟨⟨Nat.le_of_ble_eq_true rfl, Nat.le_of_ble_eq_true rfl⟩, Nat.zero_le _, Nat.zero_le _⟩ (Nat.le_of_ble_eq_true rfl) ?_
          refine cl_W1 (As := []) (st := []) miX10_sense (tX10_sense v12 (L μ8) (rk_fX9_word hv12) (o := (wsen.getD (v12 - 1000) 0)) rfl) dX6_readCake_99 lkX6_125 inX10_sense rfl (rk_fX9_word hv12) rfl ⟨⟨Nat.le_of_ble_eq_true rfl, Nat.le_of_ble_eq_true rfl⟩, Nat.zero_le _, Nat.zero_le _⟩ (Nat.le_of_ble_eq_true rfl) ?_
          obtain ⟨v14, hv14, hf⟩ := lt_elim hf
          refine ev_rni hv14 ?_
          refine ev_istore (al2 := [(4, vi v14), (2, vl v7), (0, vr g 3), (1, vr g draft)]) dX6_readCake_102 (by decide) rfl ?_
          refine ev_aload_n dX6_readCake_104 2 rfl ?_
          refine ev_getK 0 dX6_readCake_105 (hS.lt (hc 3 rfl)) rfl (hS.K1 (hc 3 rfl) rfl) ciX6 (by decide) rfl flX6_15 ?_
          obtain ⟨μ15, hμ15, hf⟩ := Option.bind_eq_some_iff.mp hf
          refine cl_V0 (As := []) (st := []) miX9_step (tX9_step hS (hc.w rfl rfl) μ8 hμ15) dX6_readCake_108 lkX6_99 inX9_step rfl (hS.lt (hc 1 rfl)) rfl ⟨rfl, rfl⟩ ⟨⟨Nat.le_of_ble_eq_true rfl, Nat.le_of_ble_eq_true rfl⟩, Nat.zero_le _, Nat.zero_le _⟩ (Nat.le_of_ble_eq_true rfl) ?_
          refine ev_aload_n dX6_readCake_111 2 rfl ?_
          refine ev_aload_n dX6_readCake_112 3 rfl ?_
          obtain ⟨q16, hq16, hf⟩ := Option.bind_eq_some_iff.mp hf
          refine cl_V1 (As := [vr g draft]) (st := []) miX6_readWidth (tX6_readWidth hS (hc.w rfl rfl) draft μ15 hdraft hq16) dX6_readCake_113 lkX6_128 inX6_readWidth rfl (hS.lt (hc 3 rfl)) rfl ⟨rfl, rfl⟩ ⟨⟨Nat.le_of_ble_eq_true rfl, Nat.le_of_ble_eq_true rfl⟩, Nat.zero_le _, Nat.zero_le _⟩ (Nat.le_of_ble_eq_true rfl) ?_
          refine ev_ifb_ne 121 dX6_readCake_116 (by decide) (fun h17 => ?_) (fun h17 => ?_)
          · rw [if_pos h17] at hf
            refine ev_aload_n dX6_readCake_121 2 rfl ?_
            refine ev_getK 0 dX6_readCake_122 (hS.lt (hc 3 rfl)) rfl (hS.K1 (hc 3 rfl) rfl) ciX6 (by decide) rfl flX6_15 ?_
            refine cl_V1 (As := []) (st := []) miX9_number (tX9_number hS (hc.w rfl rfl) q16.2 (o := (q16.2 1 5)) rfl) dX6_readCake_125 lkX6_131 inX9_number rfl (hS.lt (hc 1 rfl)) rfl ⟨rfl, rfl⟩ ⟨⟨Nat.le_of_ble_eq_true rfl, Nat.le_of_ble_eq_true rfl⟩, Nat.zero_le _, Nat.zero_le _⟩ (Nat.le_of_ble_eq_true rfl) ?_
            obtain ⟨v18, hv18, hf⟩ := lt_elim hf
            refine ev_rni hv18 ?_
            refine ev_istore (al2 := [(5, vi v18), (4, vi v14), (2, vl v7), (0, vr g 3), (1, vr g draft)]) dX6_readCake_128 (by decide) rfl ?_
            refine ev_aload_n dX6_readCake_130 3 rfl ?_
            refine ev_getK 0 dX6_readCake_131 (hS.lt (hc 3 rfl)) rfl (hS.K1 (hc 3 rfl) rfl) ciX6 (by decide) rfl flX6_15 ?_
            obtain ⟨μ19, hμ19, hf⟩ := Option.bind_eq_some_iff.mp hf
            refine cl_V0 (As := []) (st := []) miX9_step (tX9_step hS (hc.w rfl rfl) q16.2 hμ19) dX6_readCake_134 lkX6_99 inX9_step rfl (hS.lt (hc 1 rfl)) rfl ⟨rfl, rfl⟩ ⟨⟨Nat.le_of_ble_eq_true rfl, Nat.le_of_ble_eq_true rfl⟩, Nat.zero_le _, Nat.zero_le _⟩ (Nat.le_of_ble_eq_true rfl) ?_
            refine ev_aload_n dX6_readCake_137 3 rfl ?_
            refine ev_getK 0 dX6_readCake_138 (hS.lt (hc 3 rfl)) rfl (hS.K1 (hc 3 rfl) rfl) ciX6 (by decide) rfl flX6_15 ?_
            obtain ⟨v20, hv20, hf⟩ := Option.bind_eq_some_iff.mp hf
            refine cl_V1 (As := []) (st := []) miX9_word (tX9_word hS (hc.w rfl rfl) μ19 hv20) dX6_readCake_141 lkX6_118 inX9_word rfl (hS.lt (hc 1 rfl)) rfl ⟨rfl, rfl⟩ ⟨⟨Nat.le_of_ble_eq_true rfl, Nat.le_of_ble_eq_true rfl⟩, Nat.zero_le _, Nat.zero_le _⟩ (Nat.le_of_ble_eq_true rfl) ?_
            refine cl_W1 (As := []) (st := []) miX10_isLie (tX10_isLie v20 (L μ19) (rk_fX9_word hv20) (o := (fX10_isLie v20)) rfl) dX6_readCake_144 lkX6_134 inX10_isLie rfl (rk_fX9_word hv20) rfl ⟨⟨Nat.le_of_ble_eq_true rfl, Nat.le_of_ble_eq_true rfl⟩, Nat.zero_le _, Nat.zero_le _⟩ (Nat.le_of_ble_eq_true rfl) ?_
            refine ev_ifb_ne 156 dX6_readCake_147 (by decide) (fun h22 => ?_) (fun h22 => ?_)
            · rw [if_pos h22] at hf
              refine ev_aload_n dX6_readCake_156 4 rfl ?_
              refine ev_lload_n dX6_readCake_157 2 rfl ?_
              refine ev_iload dX6_readCake_158 1 rfl ?_
              refine ev_iload dX6_readCake_160 0 rfl ?_
              refine ev_aload_n dX6_readCake_162 3 rfl ?_
              refine ev_getK 0 dX6_readCake_163 (hS.lt (hc 3 rfl)) rfl (hS.K1 (hc 3 rfl) rfl) ciX6 (by decide) rfl flX6_15 ?_
              obtain ⟨v23, hv23, hf⟩ := Option.bind_eq_some_iff.mp hf
              refine cl_V1 (As := []) (st := [vi v18, vi v14, vl v7, vr g draft]) miX9_word (tX9_word hS (hc.w rfl rfl) μ19 hv23) dX6_readCake_166 lkX6_118 inX9_word rfl (hS.lt (hc 1 rfl)) rfl ⟨rfl, rfl⟩ ⟨⟨Nat.le_of_ble_eq_true rfl, Nat.le_of_ble_eq_true rfl⟩, Nat.zero_le _, Nat.zero_le _⟩ (Nat.le_of_ble_eq_true rfl) ?_
              refine ev_getsW 7 dX6_readCake_169 (by decide) rfl flX6_137 ?_
              obtain ⟨v25, hv25, hf⟩ := lt_elim hf
              have hJv25 : Ev l D cy g K yX6_readCake cX6_readCake 6 (some .boolean) (rmd 7 0 0) (MX D cy g K (rmd 7 0 0) Φ) 0 0 M x (L μ19) 180 [(5, vi v18), (4, vi v14), (2, vl v7), (0, vr g 3), (1, vr g draft)] [vb v25, vi v18, vi v14, vl v7, vr g draft] := by
                obtain ⟨μ27, hμ27, hf⟩ := lt_elim hf
                refine cl_V0 (As := [vl v7, vi v14, vi v18, vb v25]) (st := []) miX2_add (tX2_add hS (hc.w rfl rfl) draft v7 v14 v18 v25 μ19 hdraft hμ27.symm) dX6_readCake_180 lkX6_140 inX2_add rfl (hS.lt (hc _ (inR_w (i_Gr0 hdraft) rfl rfl))) (s_Gr0 hdraft) ⟨rfl, rfl⟩ ⟨⟨Nat.le_of_ble_eq_true rfl, Nat.le_of_ble_eq_true rfl⟩, Nat.zero_le _, Nat.zero_le _⟩ (Nat.le_of_ble_eq_true rfl) ?_
                refine ev_aload_n dX6_readCake_183 3 rfl ?_
                refine ev_getK 0 dX6_readCake_184 (hS.lt (hc 3 rfl)) rfl (hS.K1 (hc 3 rfl) rfl) ciX6 (by decide) rfl flX6_15 ?_
                obtain ⟨μ28, hμ28, hf⟩ := Option.bind_eq_some_iff.mp hf
                refine cl_V0 (As := []) (st := []) miX9_step (tX9_step hS (hc.w rfl rfl) μ27 hμ28) dX6_readCake_187 lkX6_99 inX9_step rfl (hS.lt (hc 1 rfl)) rfl ⟨rfl, rfl⟩ ⟨⟨Nat.le_of_ble_eq_true rfl, Nat.le_of_ble_eq_true rfl⟩, Nat.zero_le _, Nat.zero_le _⟩ (Nat.le_of_ble_eq_true rfl) ?_
                refine ev_aload_n dX6_readCake_190 3 rfl ?_
                refine ev_bipush dX6_readCake_191 (by decide) ?_
                obtain ⟨q29, hq29, hf⟩ := Option.bind_eq_some_iff.mp hf
                refine cl_V1 (As := [vi 59]) (st := []) miX6_skipSign (tX6_skipSign hS (hc.w rfl rfl) 59 μ28 hq29) dX6_readCake_193 lkX6_144 inX6_skipSign rfl (hS.lt (hc 3 rfl)) rfl ⟨rfl, rfl⟩ ⟨⟨Nat.le_of_ble_eq_true rfl, Nat.le_of_ble_eq_true rfl⟩, Nat.zero_le _, Nat.zero_le _⟩ (Nat.le_of_ble_eq_true rfl) ?_
                obtain rfl := Option.some.inj hf
                exact ev_bret (b := q29.1) dX6_readCake_196 rfl ⟨Nat.zero_le _, Nat.zero_le _⟩ hr
              refine ev_acmp_ne 179 dX6_readCake_172 (by decide) (rk_fX9_word hv23) ⟨by decide, by decide⟩ (fun h26 => ?_) (fun h26 => ?_)
              · refine ev_iconst dX6_readCake_179 ?_
                have e9 : v25 = false := hv25.trans ((if_neg h26))
                subst e9
                exact hJv25
              · refine ev_iconst dX6_readCake_175 ?_
                refine ev_goto 180 dX6_readCake_176 (by decide) ?_
                have e9 : v25 = true := hv25.trans ((if_pos h26))
                subst e9
                exact hJv25
            · rw [if_neg h22] at hf
              refine ev_aload_n dX6_readCake_150 3 rfl ?_
              refine ev_iconst dX6_readCake_151 ?_
              obtain ⟨q30, hq30, hf⟩ := lt_elim hf
              refine cl_V1 (As := [vi 1]) (st := []) miX6_wrong (tX6_wrong hS (hc.w rfl rfl) 1 μ19 hq30.symm) dX6_readCake_152 lkX6_74 inX6_wrong rfl (hS.lt (hc 3 rfl)) rfl ⟨rfl, rfl⟩ ⟨⟨Nat.le_of_ble_eq_true rfl, Nat.le_of_ble_eq_true rfl⟩, Nat.zero_le _, Nat.zero_le _⟩ (Nat.le_of_ble_eq_true rfl) ?_
              obtain rfl := Option.some.inj hf
              exact ev_bret (b := q30.1) dX6_readCake_155 rfl ⟨Nat.zero_le _, Nat.zero_le _⟩ hr
          · rw [if_neg h17] at hf
            refine ev_iconst dX6_readCake_119 ?_
            obtain rfl := Option.some.inj hf
            exact ev_bret (b := false) dX6_readCake_120 rfl ⟨Nat.zero_le _, Nat.zero_le _⟩ hr
        · rw [if_neg h11] at hf
          refine ev_aload_n dX6_readCake_86 1 rfl ?_
          refine ev_iconst dX6_readCake_87 ?_
          obtain ⟨q31, hq31, hf⟩ := lt_elim hf
          refine cl_V1 (As := [vi 1]) (st := []) miX6_wrong (tX6_wrong hS (hc.w rfl rfl) 1 μ8 hq31.symm) dX6_readCake_88 lkX6_74 inX6_wrong rfl (hS.lt (hc 3 rfl)) rfl ⟨rfl, rfl⟩ ⟨⟨Nat.le_of_ble_eq_true rfl, Nat.le_of_ble_eq_true rfl⟩, Nat.zero_le _, Nat.zero_le _⟩ (Nat.le_of_ble_eq_true rfl) ?_
          obtain rfl := Option.some.inj hf
          exact ev_bret (b := q31.1) dX6_readCake_91 rfl ⟨Nat.zero_le _, Nat.zero_le _⟩ hr
      · rw [if_neg h6] at hf
        refine ev_aload_n dX6_readCake_52 0 rfl ?_
        refine ev_iconst dX6_readCake_53 ?_
        obtain ⟨q32, hq32, hf⟩ := lt_elim hf
        refine cl_V1 (As := [vi 3]) (st := []) miX6_wrong (tX6_wrong hS (hc.w rfl rfl) 3 μ2 hq32.symm) dX6_readCake_54 lkX6_74 inX6_wrong rfl (hS.lt (hc 3 rfl)) rfl ⟨rfl, rfl⟩ ⟨⟨Nat.le_of_ble_eq_true rfl, Nat.le_of_ble_eq_true rfl⟩, Nat.zero_le _, Nat.zero_le _⟩ (Nat.le_of_ble_eq_true rfl) ?_
        obtain rfl := Option.some.inj hf
        exact ev_bret (b := q32.1) dX6_readCake_57 rfl ⟨Nat.zero_le _, Nat.zero_le _⟩ hr
    · rw [if_neg h4] at hf
      refine ev_aload_n dX6_readCake_31 0 rfl ?_
      refine ev_iconst dX6_readCake_32 ?_
      obtain ⟨q33, hq33, hf⟩ := lt_elim hf
      refine cl_V1 (As := [vi 1]) (st := []) miX6_wrong (tX6_wrong hS (hc.w rfl rfl) 1 μ2 hq33.symm) dX6_readCake_33 lkX6_74 inX6_wrong rfl (hS.lt (hc 3 rfl)) rfl ⟨rfl, rfl⟩ ⟨⟨Nat.le_of_ble_eq_true rfl, Nat.le_of_ble_eq_true rfl⟩, Nat.zero_le _, Nat.zero_le _⟩ (Nat.le_of_ble_eq_true rfl) ?_
      obtain rfl := Option.some.inj hf
      exact ev_bret (b := q33.1) dX6_readCake_36 rfl ⟨Nat.zero_le _, Nat.zero_le _⟩ hr
  · rw [if_neg h1] at hf
    refine ev_aload_n dX6_readCake_8 0 rfl ?_
    refine ev_iconst dX6_readCake_9 ?_
    obtain ⟨q34, hq34, hf⟩ := lt_elim hf
    refine cl_V1 (As := [vi 5]) (st := []) miX6_wrong (tX6_wrong hS (hc.w rfl rfl) 5 μ hq34.symm) dX6_readCake_10 lkX6_74 inX6_wrong rfl (hS.lt (hc 3 rfl)) rfl ⟨rfl, rfl⟩ ⟨⟨Nat.le_of_ble_eq_true rfl, Nat.le_of_ble_eq_true rfl⟩, Nat.zero_le _, Nat.zero_le _⟩ (Nat.le_of_ble_eq_true rfl) ?_
    obtain rfl := Option.some.inj hf
    exact ev_bret (b := q34.1) dX6_readCake_13 rfl ⟨Nat.zero_le _, Nat.zero_le _⟩ hr
theorem tX6_readCake (hS : Sd M K P L) (hc : CIn P 1 39) (draft : Nat) (μ : Mem) (hdraft : isGr draft) {o : Bool × Mem} (hf : fX6_readCake draft μ = some o) : Cn l D cy g K K yX6_readCake cX6_readCake 6 (some .boolean) (rmd 7 0 0) [vr g 3, vr g draft] M x (L μ) (PE (some (vb o.1)) M x (L o.2)) :=
 Cn.of (by decide) (Nat.le_of_ble_eq_true rfl) (eX6_readCake hS hc draft μ hdraft hf (PE_i _ _ _ _))
def fX3_isTold (k : Nat) (μ : Mem) : Bool :=
  ((μ k 5) != 0)
set_option maxRecDepth 4000 in
theorem eX3_isTold (hS : Sd M K P L) (hc : CIn P 1 39) (k : Nat) (μ : Mem) (hk : isLw k) {o : Bool} (hf : fX3_isTold k μ = o) (hr : (fun o : Bool => Φ (some (vb o)) M x (L μ)) o) : Ev l D cy g K yX3_isTold cX3_isTold 1 (some .boolean) (rmd 1 0 0) (MX D cy g K (rmd 1 0 0) Φ) 0 0 M x (L μ) 0 [(0, vr g k)] [] := by
  unfold fX3_isTold at hf
  refine ev_aload_n dX3_isTold_0 0 rfl ?_
  refine ev_getZ 5 dX3_isTold_1 (hS.lt (hc _ (inR_w (i_Lw0 hk) rfl rfl))) (s_Lw0 hk) (hS.mem _ (hc _ (inR_w (i_Lw0 hk) rfl rfl))) ciX3 (by decide) rfl flX3_25 ?_
  obtain rfl := hf
  exact ev_bret (b := ((μ k 5) != 0)) dX3_isTold_4 rfl ⟨Nat.zero_le _, Nat.zero_le _⟩ hr
theorem tX3_isTold (hS : Sd M K P L) (hc : CIn P 1 39) (k : Nat) (μ : Mem) (hk : isLw k) {o : Bool} (hf : fX3_isTold k μ = o) : Cn l D cy g K K yX3_isTold cX3_isTold 1 (some .boolean) (rmd 1 0 0) [vr g k] M x (L μ) (PE (some (vb o)) M x (L μ)) :=
 Cn.of (by decide) (Nat.le_of_ble_eq_true rfl) (eX3_isTold hS hc k μ hk hf (PE_i _ _ _ _))
def fX3_tell (k : Nat) (μ : Mem) : Mem :=
  lt (upd2 μ k 5 1) fun μ1 =>
  μ1
set_option maxRecDepth 4000 in
theorem eX3_tell (hS : Sd M K P L) (hc : CIn P 1 39) (k : Nat) (μ : Mem) (hk : isLw k) {o : Mem} (hf : fX3_tell k μ = o) (hr : (fun o : Mem => Φ none M x (L o)) o) : Ev l D cy g K yX3_tell cX3_tell 1 none (rmd 1 0 0) (MX D cy g K (rmd 1 0 0) Φ) 0 0 M x (L μ) 0 [(0, vr g k)] [] := by
  unfold fX3_tell at hf
  refine ev_aload_n dX3_tell_0 0 rfl ?_
  refine ev_iconst dX3_tell_1 ?_
  obtain ⟨μ1, hμ1, hf⟩ := lt_elim hf
  refine ev_putZ (b := true) 5 dX3_tell_2 (hS.lt (hc _ (inR_w (i_Lw0 hk) rfl rfl))) (s_Lw0 hk) ciX3 (by decide) (Or.inl rfl) rfl rfl flX3_25 (hS.up (hc _ (inR_w (i_Lw0 hk) rfl rfl)) hμ1) ?_
  obtain rfl := hf
  exact ev_vret dX3_tell_5 rfl ⟨Nat.zero_le _, Nat.zero_le _⟩ hr
theorem tX3_tell (hS : Sd M K P L) (hc : CIn P 1 39) (k : Nat) (μ : Mem) (hk : isLw k) {o : Mem} (hf : fX3_tell k μ = o) : Cn l D cy g K K yX3_tell cX3_tell 1 none (rmd 1 0 0) [vr g k] M x (L μ) (PE none M x (L o)) :=
 Cn.of (by decide) (Nat.le_of_ble_eq_true rfl) (eX3_tell hS hc k μ hk hf (PE_i _ _ _ _))
def fX10_isFact (k : Nat) : Bool :=
  lt (if k = 1015 then
      true
    else
      if k = 1016 then
        true
      else
        if k = 1017 then
          true
        else
          if k = 1018 then
            true
          else
            false) fun v1 =>
  v1
set_option maxRecDepth 4000 in
theorem eX10_isFact  (k : Nat) (μ : Mem) (hk : isWd k) {o : Bool} (hf : fX10_isFact k = o) (hr : (fun o : Bool => Φ (some (vb o)) M x μ) o) : Ev l D cy g K yX10_isFact cX10_isFact 1 (some .boolean) (rmd 1 0 0) (MX D cy g K (rmd 1 0 0) Φ) 0 0 M x μ 0 [(0, vr g k)] [] := by
  unfold fX10_isFact at hf
  refine ev_aload_n dX10_isFact_0 0 rfl ?_
  refine ev_getsW 15 dX10_isFact_1 (by decide) rfl flX10_49 ?_
  obtain ⟨v1, hv1, hf⟩ := lt_elim hf
  have hJv1 : Ev l D cy g K yX10_isFact cX10_isFact 1 (some .boolean) (rmd 1 0 0) (MX D cy g K (rmd 1 0 0) Φ) 0 0 M x μ 33 [(0, vr g k)] [vb v1] := by
    obtain rfl := hf
    exact ev_bret (b := v1) dX10_isFact_33 rfl ⟨Nat.zero_le _, Nat.zero_le _⟩ hr
  refine ev_acmp_eq 28 dX10_isFact_4 (by decide) hk ⟨by decide, by decide⟩ (fun h2 => ?_) (fun h2 => ?_)
  · refine ev_iconst dX10_isFact_28 ?_
    refine ev_goto 33 dX10_isFact_29 (by decide) ?_
    have e9 : v1 = true := hv1.trans ((if_pos h2))
    subst e9
    exact hJv1
  · refine ev_aload_n dX10_isFact_7 0 rfl ?_
    refine ev_getsW 16 dX10_isFact_8 (by decide) rfl flX10_52 ?_
    refine ev_acmp_eq 28 dX10_isFact_11 (by decide) hk ⟨by decide, by decide⟩ (fun h3 => ?_) (fun h3 => ?_)
    · refine ev_iconst dX10_isFact_28 ?_
      refine ev_goto 33 dX10_isFact_29 (by decide) ?_
      have e9 : v1 = true := hv1.trans (((if_neg h2)).trans (if_pos h3))
      subst e9
      exact hJv1
    · refine ev_aload_n dX10_isFact_14 0 rfl ?_
      refine ev_getsW 17 dX10_isFact_15 (by decide) rfl flX10_55 ?_
      refine ev_acmp_eq 28 dX10_isFact_18 (by decide) hk ⟨by decide, by decide⟩ (fun h4 => ?_) (fun h4 => ?_)
      · refine ev_iconst dX10_isFact_28 ?_
        refine ev_goto 33 dX10_isFact_29 (by decide) ?_
        have e9 : v1 = true := hv1.trans (((if_neg h2)).trans (((if_neg h3)).trans (if_pos h4)))
        subst e9
        exact hJv1
      · refine ev_aload_n dX10_isFact_21 0 rfl ?_
        refine ev_getsW 18 dX10_isFact_22 (by decide) rfl flX10_58 ?_
        refine ev_acmp_ne 32 dX10_isFact_25 (by decide) hk ⟨by decide, by decide⟩ (fun h5 => ?_) (fun h5 => ?_)
        · refine ev_iconst dX10_isFact_32 ?_
          have e9 : v1 = false := hv1.trans (((if_neg h2)).trans (((if_neg h3)).trans (((if_neg h4)).trans (if_neg h5))))
          subst e9
          exact hJv1
        · refine ev_iconst dX10_isFact_28 ?_
          refine ev_goto 33 dX10_isFact_29 (by decide) ?_
          have e9 : v1 = true := hv1.trans (((if_neg h2)).trans (((if_neg h3)).trans (((if_neg h4)).trans (if_pos h5))))
          subst e9
          exact hJv1
theorem tX10_isFact (k : Nat) (μ : Mem) (hk : isWd k) {o : Bool} (hf : fX10_isFact k = o) : Cn l D cy g K K yX10_isFact cX10_isFact 1 (some .boolean) (rmd 1 0 0) [vr g k] M x μ (PE (some (vb o)) M x μ) :=
 Cn.of (by decide) (Nat.le_of_ble_eq_true rfl) (eX10_isFact k μ hk hf (PE_i _ _ _ _))
def fX3_add (k : Nat) (step : Int) (μ : Mem) : Mem :=
  if w32 (μ k 3) < w32 1000 then
    lt (fX11_put (k + 1) (μ k 3) step μ) fun μ2 =>
    lt (upd2 μ2 k 3 ((μ2 k 3) + 1)) fun μ3 =>
    μ3
  else
    μ
set_option maxRecDepth 4000 in
theorem eX3_add (hS : Sd M K P L) (hc : CIn P 1 39) (k : Nat) (step : Int) (μ : Mem) (hk : isLw k) {o : Mem} (hf : fX3_add k step μ = o) (hr : (fun o : Mem => Φ none M x (L o)) o) : Ev l D cy g K yX3_add cX3_add 2 none (rmd 2 0 0) (MX D cy g K (rmd 2 0 0) Φ) 0 0 M x (L μ) 0 [(0, vr g k), (1, vi step)] [] := by
  unfold fX3_add at hf
  refine ev_aload_n dX3_add_0 0 rfl ?_
  refine ev_getI 3 dX3_add_1 (hS.lt (hc _ (inR_w (i_Lw0 hk) rfl rfl))) (s_Lw0 hk) (hS.mem _ (hc _ (inR_w (i_Lw0 hk) rfl rfl))) ciX3 (by decide) rfl flX3_22 ?_
  refine ev_aload_n dX3_add_4 0 rfl ?_
  refine ev_getK 1 dX3_add_5 (hS.lt (hc _ (inR_w (i_Lw0 hk) rfl rfl))) (s_Lw0 hk) (hS.K1 (hc _ (inR_w (i_Lw0 hk) rfl rfl)) (K_Lw1 hk)) ciX3 (by decide) rfl flX3_9 ?_
  refine ev_alen dX3_add_8 (hS.lt (hc _ (inR_w (i_Lw1 hk) rfl rfl))) (s_Lw1 hk) (by decide) ?_
  refine ev_rn (w := vi 1000) rfl ?_
  refine ev_icmp_ge 34 dX3_add_9 (by decide) (fun h1 => ?_) (fun h1 => ?_)
  · rw [if_neg h1] at hf
    obtain rfl := hf
    exact ev_vret dX3_add_34 rfl ⟨Nat.zero_le _, Nat.zero_le _⟩ hr
  · rw [if_pos h1] at hf
    refine ev_aload_n dX3_add_12 0 rfl ?_
    refine ev_getK 1 dX3_add_13 (hS.lt (hc _ (inR_w (i_Lw0 hk) rfl rfl))) (s_Lw0 hk) (hS.K1 (hc _ (inR_w (i_Lw0 hk) rfl rfl)) (K_Lw1 hk)) ciX3 (by decide) rfl flX3_9 ?_
    refine ev_aload_n dX3_add_16 0 rfl ?_
    refine ev_getI 3 dX3_add_17 (hS.lt (hc _ (inR_w (i_Lw0 hk) rfl rfl))) (s_Lw0 hk) (hS.mem _ (hc _ (inR_w (i_Lw0 hk) rfl rfl))) ciX3 (by decide) rfl flX3_22 ?_
    refine ev_iload_n dX3_add_20 1 rfl ?_
    obtain ⟨μ2, hμ2, hf⟩ := lt_elim hf
    refine cl_N0 (As := [vr g (k + 1), vi (μ k 3), vi step]) (st := []) (host := "HotCakes") miX11_put (tX11_put hS (hc.w rfl rfl) (k + 1) (μ k 3) step μ (⟨(hc _ (inR_w (i_Lw1 hk) rfl rfl)), (ia_of (s_Lw1 hk))⟩) hμ2.symm) dX3_add_21 (by decide) stX11_put rfl ⟨⟨Nat.le_of_ble_eq_true rfl, Nat.le_of_ble_eq_true rfl⟩, Nat.zero_le _, Nat.zero_le _⟩ (Nat.le_of_ble_eq_true rfl) ?_
    refine ev_aload_n dX3_add_24 0 rfl ?_
    refine ev_dup dX3_add_25 rfl ?_
    refine ev_getI 3 dX3_add_26 (hS.lt (hc _ (inR_w (i_Lw0 hk) rfl rfl))) (s_Lw0 hk) (hS.mem _ (hc _ (inR_w (i_Lw0 hk) rfl rfl))) ciX3 (by decide) rfl flX3_22 ?_
    refine ev_iconst dX3_add_29 ?_
    refine ev_iadd dX3_add_30 ?_
    obtain ⟨μ3, hμ3, hf⟩ := lt_elim hf
    refine ev_putI 3 dX3_add_31 (hS.lt (hc _ (inR_w (i_Lw0 hk) rfl rfl))) (s_Lw0 hk) ciX3 (by decide) (Or.inl rfl) rfl rfl flX3_22 (hS.up (hc _ (inR_w (i_Lw0 hk) rfl rfl)) hμ3) ?_
    obtain rfl := hf
    exact ev_vret dX3_add_34 rfl ⟨Nat.zero_le _, Nat.zero_le _⟩ hr
theorem tX3_add (hS : Sd M K P L) (hc : CIn P 1 39) (k : Nat) (step : Int) (μ : Mem) (hk : isLw k) {o : Mem} (hf : fX3_add k step μ = o) : Cn l D cy g K K yX3_add cX3_add 2 none (rmd 2 0 0) [vr g k, vi step] M x (L μ) (PE none M x (L o)) :=
 Cn.of (by decide) (Nat.le_of_ble_eq_true rfl) (eX3_add hS hc k step μ hk hf (PE_i _ _ _ _))
def fX6_readProduct_b13 (rp : Nat → Int → Mem → Option (Bool × Mem)) (law : Nat) (within : Int) (v3 : Int) (μ : Mem) : Option ((Int × Mem) ⊕ (Bool × Mem)) :=
  if w32 v3 < w32 1000 then
    if (fX9_is 42 μ) = true then
      (fX9_step μ).bind fun μ6 =>
      (rp law within μ6).bind fun q7 =>
      if q7.1 = true then
        lt (fX3_add law (-12) q7.2) fun μ9 =>
        some (.inl ((v3 + 1), μ9))
      else
        some (.inr (false, q7.2))
    else
      some (.inr (true, μ))
  else
    some (.inr (true, μ))
set_option maxRecDepth 4000 in
theorem tX6_readProduct_b13 (hS : Sd M K P L) (hc : CIn P 1 39) (dp : Nat) (hdp : 10 ≤ dp) (rp : Nat → Int → Mem → Option (Bool × Mem)) (hrp : ∀ (law : Nat) (within0 : Int) (μ : Mem) (hlaw : isLw law) (o : Bool × Mem), rp law within0 μ = some o → Cn l D cy g K K yX6_readPart cX6_readPart 5 (some .boolean) (rmd dp 0 0) [vr g 3, vr g law, vi within0] M x (L μ) (PE (some (vb o.1)) M x (L o.2))) (law : Nat) (within : Int) (v3 : Int) (μ : Mem) (hlaw : isLw law) {o : (Int × Mem) ⊕ (Bool × Mem)} (hf : fX6_readProduct_b13 rp law within v3 μ = some o) (hr : (Sum.elim (fun s : Int × Mem => Ev l D cy g K yX6_readProduct cX6_readProduct 4 (some .boolean) (rmd (dp + 1) 0 0) (MX D cy g K (rmd (dp + 1) 0 0) Φ) 0 0 M x (L s.2) 13 [(0, vr g 3), (1, vr g law), (2, vi within), (3, vi s.1)] []) (fun o : Bool × Mem => Φ (some (vb o.1)) M x (L o.2))) o) : Ev l D cy g K yX6_readProduct cX6_readProduct 4 (some .boolean) (rmd (dp + 1) 0 0) (MX D cy g K (rmd (dp + 1) 0 0) Φ) 0 0 M x (L μ) 13 [(0, vr g 3), (1, vr g law), (2, vi within), (3, vi v3)] [] := by
  unfold fX6_readProduct_b13 at hf
  refine ev_iload_n dX6_readProduct_13 3 rfl ?_
  refine ev_sipush dX6_readProduct_14 (by decide) ?_
  refine ev_icmp_ge 62 dX6_readProduct_17 (by decide) (fun h4 => ?_) (fun h4 => ?_)
  · rw [if_neg h4] at hf
    refine ev_iconst dX6_readProduct_62 ?_
    obtain rfl := Option.some.inj hf
    exact ev_bret (b := true) dX6_readProduct_63 rfl ⟨Nat.zero_le _, Nat.zero_le _⟩ hr
  · rw [if_pos h4] at hf
    refine ev_aload_n dX6_readProduct_20 0 rfl ?_
    refine ev_getK 0 dX6_readProduct_21 (hS.lt (hc 3 rfl)) rfl (hS.K1 (hc 3 rfl) rfl) ciX6 (by decide) rfl flX6_15 ?_
    refine ev_bipush dX6_readProduct_24 (by decide) ?_
    refine cl_V1 (As := [vi 42]) (st := []) miX9_is (tX9_is hS (hc.w rfl rfl) 42 μ (o := (fX9_is 42 μ)) rfl) dX6_readProduct_26 lkX6_37 inX9_is rfl (hS.lt (hc 1 rfl)) rfl ⟨rfl, rfl⟩ ⟨⟨by simp only [rmd]; omega, by simp only [rmd]; omega⟩, Nat.zero_le _, Nat.zero_le _⟩ (Nat.le_of_ble_eq_true rfl) ?_
    refine ev_ifb_eq 62 dX6_readProduct_29 (by decide) (fun h5 => ?_) (fun h5 => ?_)
    · rw [if_neg h5] at hf
      refine ev_iconst dX6_readProduct_62 ?_
      obtain rfl := Option.some.inj hf
      exact ev_bret (b := true) dX6_readProduct_63 rfl ⟨Nat.zero_le _, Nat.zero_le _⟩ hr
    · rw [if_pos h5] at hf
      refine ev_aload_n dX6_readProduct_32 0 rfl ?_
      refine ev_getK 0 dX6_readProduct_33 (hS.lt (hc 3 rfl)) rfl (hS.K1 (hc 3 rfl) rfl) ciX6 (by decide) rfl flX6_15 ?_
      obtain ⟨μ6, hμ6, hf⟩ := Option.bind_eq_some_iff.mp hf
      refine cl_V0 (As := []) (st := []) miX9_step (tX9_step hS (hc.w rfl rfl) μ hμ6) dX6_readProduct_36 lkX6_99 inX9_step rfl (hS.lt (hc 1 rfl)) rfl ⟨rfl, rfl⟩ ⟨⟨by simp only [rmd]; omega, by simp only [rmd]; omega⟩, Nat.zero_le _, Nat.zero_le _⟩ (Nat.le_of_ble_eq_true rfl) ?_
      refine ev_aload_n dX6_readProduct_39 0 rfl ?_
      refine ev_aload_n dX6_readProduct_40 1 rfl ?_
      refine ev_iload_n dX6_readProduct_41 2 rfl ?_
      obtain ⟨q7, hq7, hf⟩ := Option.bind_eq_some_iff.mp hf
      refine cl_V1 (As := [vr g law, vi within]) (st := []) miX6_readPart (hrp law within μ6 hlaw _ hq7) dX6_readProduct_42 lkX6_189 inX6_readPart rfl (hS.lt (hc 3 rfl)) rfl ⟨rfl, rfl⟩ ⟨⟨by simp only [rmd]; omega, by simp only [rmd]; omega⟩, Nat.zero_le _, Nat.zero_le _⟩ (Nat.le_of_ble_eq_true rfl) ?_
      refine ev_ifb_ne 50 dX6_readProduct_45 (by decide) (fun h8 => ?_) (fun h8 => ?_)
      · rw [if_pos h8] at hf
        refine ev_aload_n dX6_readProduct_50 1 rfl ?_
        refine ev_bipush dX6_readProduct_51 (by decide) ?_
        obtain ⟨μ9, hμ9, hf⟩ := lt_elim hf
        refine cl_V0 (As := [vi (-12)]) (st := []) miX3_add (tX3_add hS (hc.w rfl rfl) law (-12) q7.2 hlaw hμ9.symm) dX6_readProduct_53 lkX6_181 inX3_add rfl (hS.lt (hc _ (inR_w (i_Lw0 hlaw) rfl rfl))) (s_Lw0 hlaw) ⟨rfl, rfl⟩ ⟨⟨by simp only [rmd]; omega, by simp only [rmd]; omega⟩, Nat.zero_le _, Nat.zero_le _⟩ (Nat.le_of_ble_eq_true rfl) ?_
        refine ev_iinc (al2 := [(3, vi (v3 + 1)), (0, vr g 3), (1, vr g law), (2, vi within)]) dX6_readProduct_56 3 rfl (by decide) rfl ?_
        refine ev_goto 13 dX6_readProduct_59 (by decide) ?_
        obtain rfl := Option.some.inj hf
        refine ev_sub [1, 2, 3, 0] rfl ?_
        exact hr
      · rw [if_neg h8] at hf
        refine ev_iconst dX6_readProduct_48 ?_
        obtain rfl := Option.some.inj hf
        exact ev_bret (b := false) dX6_readProduct_49 rfl ⟨Nat.zero_le _, Nat.zero_le _⟩ hr
def fX6_readProduct (rp : Nat → Int → Mem → Option (Bool × Mem)) (law : Nat) (within : Int) (μ : Mem) : Option (Bool × Mem) :=
  (rp law within μ).bind fun q1 =>
  if q1.1 = true then
    loopN (fun s => fX6_readProduct_b13 rp law within s.1 s.2) FU (0, q1.2)
  else
    some ((false, q1.2))
set_option maxRecDepth 4000 in
theorem eX6_readProduct (hS : Sd M K P L) (hc : CIn P 1 39) (dp : Nat) (hdp : 10 ≤ dp) (rp : Nat → Int → Mem → Option (Bool × Mem)) (hrp : ∀ (law : Nat) (within0 : Int) (μ : Mem) (hlaw : isLw law) (o : Bool × Mem), rp law within0 μ = some o → Cn l D cy g K K yX6_readPart cX6_readPart 5 (some .boolean) (rmd dp 0 0) [vr g 3, vr g law, vi within0] M x (L μ) (PE (some (vb o.1)) M x (L o.2))) (law : Nat) (within : Int) (μ : Mem) (hlaw : isLw law) {o : Bool × Mem} (hf : fX6_readProduct rp law within μ = some o) (hr : (fun o : Bool × Mem => Φ (some (vb o.1)) M x (L o.2)) o) : Ev l D cy g K yX6_readProduct cX6_readProduct 4 (some .boolean) (rmd (dp + 1) 0 0) (MX D cy g K (rmd (dp + 1) 0 0) Φ) 0 0 M x (L μ) 0 [(0, vr g 3), (1, vr g law), (2, vi within)] [] := by
  unfold fX6_readProduct at hf
  refine ev_aload_n dX6_readProduct_0 0 rfl ?_
  refine ev_aload_n dX6_readProduct_1 1 rfl ?_
  refine ev_iload_n dX6_readProduct_2 2 rfl ?_
  obtain ⟨q1, hq1, hf⟩ := Option.bind_eq_some_iff.mp hf
  refine cl_V1 (As := [vr g law, vi within]) (st := []) miX6_readPart (hrp law within μ hlaw _ hq1) dX6_readProduct_3 lkX6_189 inX6_readPart rfl (hS.lt (hc 3 rfl)) rfl ⟨rfl, rfl⟩ ⟨⟨by simp only [rmd]; omega, by simp only [rmd]; omega⟩, Nat.zero_le _, Nat.zero_le _⟩ (Nat.le_of_ble_eq_true rfl) ?_
  refine ev_ifb_ne 11 dX6_readProduct_6 (by decide) (fun h2 => ?_) (fun h2 => ?_)
  · rw [if_pos h2] at hf
    refine ev_iconst dX6_readProduct_11 ?_
    refine ev_istore_n (al2 := [(3, vi 0), (0, vr g 3), (1, vr g law), (2, vi within)]) dX6_readProduct_12 3 rfl (by decide) rfl ?_
    refine ev_sub [1, 2, 3, 0] rfl ?_
    exact loop_ev (H := (fun s : Int × Mem => Ev l D cy g K yX6_readProduct cX6_readProduct 4 (some .boolean) (rmd (dp + 1) 0 0) (MX D cy g K (rmd (dp + 1) 0 0) Φ) 0 0 M x (L s.2) 13 [(0, vr g 3), (1, vr g law), (2, vi within), (3, vi s.1)] [])) (Hx := (fun o : Bool × Mem => Φ (some (vb o.1)) M x (L o.2))) (fun s o hb hr => tX6_readProduct_b13 hS hc dp hdp rp hrp law within s.1 s.2 hlaw hb hr) FU _ _ hf hr
  · rw [if_neg h2] at hf
    refine ev_iconst dX6_readProduct_9 ?_
    obtain rfl := Option.some.inj hf
    exact ev_bret (b := false) dX6_readProduct_10 rfl ⟨Nat.zero_le _, Nat.zero_le _⟩ hr
theorem tX6_readProduct (hS : Sd M K P L) (hc : CIn P 1 39) (dp : Nat) (hdp : 10 ≤ dp) (rp : Nat → Int → Mem → Option (Bool × Mem)) (hrp : ∀ (law : Nat) (within0 : Int) (μ : Mem) (hlaw : isLw law) (o : Bool × Mem), rp law within0 μ = some o → Cn l D cy g K K yX6_readPart cX6_readPart 5 (some .boolean) (rmd dp 0 0) [vr g 3, vr g law, vi within0] M x (L μ) (PE (some (vb o.1)) M x (L o.2))) (law : Nat) (within : Int) (μ : Mem) (hlaw : isLw law) {o : Bool × Mem} (hf : fX6_readProduct rp law within μ = some o) : Cn l D cy g K K yX6_readProduct cX6_readProduct 4 (some .boolean) (rmd (dp + 1) 0 0) [vr g 3, vr g law, vi within] M x (L μ) (PE (some (vb o.1)) M x (L o.2)) :=
 Cn.of (by decide) (Nat.le_of_ble_eq_true rfl) (eX6_readProduct hS hc dp hdp rp hrp law within μ hlaw hf (PE_i _ _ _ _))
def fX6_readSum_j44 (rp : Nat → Int → Mem → Option (Bool × Mem)) (law : Nat) (within : Int) (v6 : Int) (μ : Mem) : Option ((Int × Mem) ⊕ (Bool × Mem)) :=
  lt (if (fX9_is 43 μ) = true then
      (-10)
    else
      (-11)) fun v7 =>
  (fX9_step μ).bind fun μ9 =>
  (fX6_readProduct rp law within μ9).bind fun q10 =>
  if q10.1 = true then
    lt (fX3_add law v7 q10.2) fun μ12 =>
    some (.inl ((v6 + 1), μ12))
  else
    some (.inr (false, q10.2))
set_option maxRecDepth 4000 in
theorem tX6_readSum_j44 (hS : Sd M K P L) (hc : CIn P 1 39) (dp : Nat) (hdp : 10 ≤ dp) (rp : Nat → Int → Mem → Option (Bool × Mem)) (hrp : ∀ (law : Nat) (within0 : Int) (μ : Mem) (hlaw : isLw law) (o : Bool × Mem), rp law within0 μ = some o → Cn l D cy g K K yX6_readPart cX6_readPart 5 (some .boolean) (rmd dp 0 0) [vr g 3, vr g law, vi within0] M x (L μ) (PE (some (vb o.1)) M x (L o.2))) (law : Nat) (within : Int) (v6 : Int) (μ : Mem) (hlaw : isLw law) {o : (Int × Mem) ⊕ (Bool × Mem)} (hf : fX6_readSum_j44 rp law within v6 μ = some o) (hr : (Sum.elim (fun s : Int × Mem => Ev l D cy g K yX6_readSum cX6_readSum 5 (some .boolean) (rmd (dp + 2) 0 0) (MX D cy g K (rmd (dp + 2) 0 0) Φ) 0 0 M x (L s.2) 13 [(0, vr g 3), (1, vr g law), (2, vi within), (3, vi s.1)] []) (fun o : Bool × Mem => Φ (some (vb o.1)) M x (L o.2))) o) : Ev l D cy g K yX6_readSum cX6_readSum 5 (some .boolean) (rmd (dp + 2) 0 0) (MX D cy g K (rmd (dp + 2) 0 0) Φ) 0 0 M x (L μ) 44 [(0, vr g 3), (1, vr g law), (2, vi within), (3, vi v6)] [] := by
  unfold fX6_readSum_j44 at hf
  refine ev_aload_n dX6_readSum_44 0 rfl ?_
  refine ev_getK 0 dX6_readSum_45 (hS.lt (hc 3 rfl)) rfl (hS.K1 (hc 3 rfl) rfl) ciX6 (by decide) rfl flX6_15 ?_
  refine ev_bipush dX6_readSum_48 (by decide) ?_
  refine cl_V1 (As := [vi 43]) (st := []) miX9_is (tX9_is hS (hc.w rfl rfl) 43 μ (o := (fX9_is 43 μ)) rfl) dX6_readSum_50 lkX6_37 inX9_is rfl (hS.lt (hc 1 rfl)) rfl ⟨rfl, rfl⟩ ⟨⟨by simp only [rmd]; omega, by simp only [rmd]; omega⟩, Nat.zero_le _, Nat.zero_le _⟩ (Nat.le_of_ble_eq_true rfl) ?_
  obtain ⟨v7, hv7, hf⟩ := lt_elim hf
  have hJv7 : Ev l D cy g K yX6_readSum cX6_readSum 5 (some .boolean) (rmd (dp + 2) 0 0) (MX D cy g K (rmd (dp + 2) 0 0) Φ) 0 0 M x (L μ) 63 [(0, vr g 3), (1, vr g law), (2, vi within), (3, vi v6)] [vi v7] := by
    refine ev_istore (al2 := [(4, vi v7), (0, vr g 3), (1, vr g law), (2, vi within), (3, vi v6)]) dX6_readSum_63 (by decide) rfl ?_
    refine ev_aload_n dX6_readSum_65 1 rfl ?_
    refine ev_getK 0 dX6_readSum_66 (hS.lt (hc 3 rfl)) rfl (hS.K1 (hc 3 rfl) rfl) ciX6 (by decide) rfl flX6_15 ?_
    obtain ⟨μ9, hμ9, hf⟩ := Option.bind_eq_some_iff.mp hf
    refine cl_V0 (As := []) (st := []) miX9_step (tX9_step hS (hc.w rfl rfl) μ hμ9) dX6_readSum_69 lkX6_99 inX9_step rfl (hS.lt (hc 1 rfl)) rfl ⟨rfl, rfl⟩ ⟨⟨by simp only [rmd]; omega, by simp only [rmd]; omega⟩, Nat.zero_le _, Nat.zero_le _⟩ (Nat.le_of_ble_eq_true rfl) ?_
    refine ev_aload_n dX6_readSum_72 1 rfl ?_
    refine ev_aload_n dX6_readSum_73 2 rfl ?_
    refine ev_iload_n dX6_readSum_74 3 rfl ?_
    obtain ⟨q10, hq10, hf⟩ := Option.bind_eq_some_iff.mp hf
    refine cl_V1 (As := [vr g law, vi within]) (st := []) miX6_readProduct (tX6_readProduct hS (hc.w rfl rfl) dp hdp rp hrp law within μ9 hlaw hq10) dX6_readSum_75 lkX6_186 inX6_readProduct rfl (hS.lt (hc 3 rfl)) rfl ⟨rfl, rfl⟩ ⟨⟨by simp only [rmd]; omega, by simp only [rmd]; omega⟩, Nat.zero_le _, Nat.zero_le _⟩ (Nat.le_of_ble_eq_true rfl) ?_
    refine ev_ifb_ne 83 dX6_readSum_78 (by decide) (fun h11 => ?_) (fun h11 => ?_)
    · rw [if_pos h11] at hf
      refine ev_aload_n dX6_readSum_83 2 rfl ?_
      refine ev_iload dX6_readSum_84 0 rfl ?_
      obtain ⟨μ12, hμ12, hf⟩ := lt_elim hf
      refine cl_V0 (As := [vi v7]) (st := []) miX3_add (tX3_add hS (hc.w rfl rfl) law v7 q10.2 hlaw hμ12.symm) dX6_readSum_86 lkX6_181 inX3_add rfl (hS.lt (hc _ (inR_w (i_Lw0 hlaw) rfl rfl))) (s_Lw0 hlaw) ⟨rfl, rfl⟩ ⟨⟨by simp only [rmd]; omega, by simp only [rmd]; omega⟩, Nat.zero_le _, Nat.zero_le _⟩ (Nat.le_of_ble_eq_true rfl) ?_
      refine ev_iinc (al2 := [(3, vi (v6 + 1)), (4, vi v7), (0, vr g 3), (1, vr g law), (2, vi within)]) dX6_readSum_89 4 rfl (by decide) rfl ?_
      refine ev_goto 13 dX6_readSum_92 (by decide) ?_
      obtain rfl := Option.some.inj hf
      refine ev_sub [2, 3, 4, 0] rfl ?_
      exact hr
    · rw [if_neg h11] at hf
      refine ev_iconst dX6_readSum_81 ?_
      obtain rfl := Option.some.inj hf
      exact ev_bret (b := false) dX6_readSum_82 rfl ⟨Nat.zero_le _, Nat.zero_le _⟩ hr
  refine ev_ifb_eq 61 dX6_readSum_53 (by decide) (fun h8 => ?_) (fun h8 => ?_)
  · refine ev_bipush dX6_readSum_61 (by decide) ?_
    have e9 : v7 = (-11) := hv7.trans ((if_neg h8))
    subst e9
    exact hJv7
  · refine ev_bipush dX6_readSum_56 (by decide) ?_
    refine ev_goto 63 dX6_readSum_58 (by decide) ?_
    have e9 : v7 = (-10) := hv7.trans ((if_pos h8))
    subst e9
    exact hJv7
def fX6_readSum_b13 (rp : Nat → Int → Mem → Option (Bool × Mem)) (law : Nat) (within : Int) (v3 : Int) (μ : Mem) : Option ((Int × Mem) ⊕ (Bool × Mem)) :=
  if w32 v3 < w32 1000 then
    if (fX9_is 43 μ) = true then
      fX6_readSum_j44 rp law within v3 μ
    else
      if (fX9_is 45 μ) = true then
        fX6_readSum_j44 rp law within v3 μ
      else
        some (.inr (true, μ))
  else
    some (.inr (true, μ))
set_option maxRecDepth 4000 in
theorem tX6_readSum_b13 (hS : Sd M K P L) (hc : CIn P 1 39) (dp : Nat) (hdp : 10 ≤ dp) (rp : Nat → Int → Mem → Option (Bool × Mem)) (hrp : ∀ (law : Nat) (within0 : Int) (μ : Mem) (hlaw : isLw law) (o : Bool × Mem), rp law within0 μ = some o → Cn l D cy g K K yX6_readPart cX6_readPart 5 (some .boolean) (rmd dp 0 0) [vr g 3, vr g law, vi within0] M x (L μ) (PE (some (vb o.1)) M x (L o.2))) (law : Nat) (within : Int) (v3 : Int) (μ : Mem) (hlaw : isLw law) {o : (Int × Mem) ⊕ (Bool × Mem)} (hf : fX6_readSum_b13 rp law within v3 μ = some o) (hr : (Sum.elim (fun s : Int × Mem => Ev l D cy g K yX6_readSum cX6_readSum 5 (some .boolean) (rmd (dp + 2) 0 0) (MX D cy g K (rmd (dp + 2) 0 0) Φ) 0 0 M x (L s.2) 13 [(0, vr g 3), (1, vr g law), (2, vi within), (3, vi s.1)] []) (fun o : Bool × Mem => Φ (some (vb o.1)) M x (L o.2))) o) : Ev l D cy g K yX6_readSum cX6_readSum 5 (some .boolean) (rmd (dp + 2) 0 0) (MX D cy g K (rmd (dp + 2) 0 0) Φ) 0 0 M x (L μ) 13 [(0, vr g 3), (1, vr g law), (2, vi within), (3, vi v3)] [] := by
  unfold fX6_readSum_b13 at hf
  refine ev_iload_n dX6_readSum_13 3 rfl ?_
  refine ev_sipush dX6_readSum_14 (by decide) ?_
  refine ev_icmp_ge 95 dX6_readSum_17 (by decide) (fun h4 => ?_) (fun h4 => ?_)
  · rw [if_neg h4] at hf
    refine ev_iconst dX6_readSum_95 ?_
    obtain rfl := Option.some.inj hf
    exact ev_bret (b := true) dX6_readSum_96 rfl ⟨Nat.zero_le _, Nat.zero_le _⟩ hr
  · rw [if_pos h4] at hf
    refine ev_aload_n dX6_readSum_20 0 rfl ?_
    refine ev_getK 0 dX6_readSum_21 (hS.lt (hc 3 rfl)) rfl (hS.K1 (hc 3 rfl) rfl) ciX6 (by decide) rfl flX6_15 ?_
    refine ev_bipush dX6_readSum_24 (by decide) ?_
    refine cl_V1 (As := [vi 43]) (st := []) miX9_is (tX9_is hS (hc.w rfl rfl) 43 μ (o := (fX9_is 43 μ)) rfl) dX6_readSum_26 lkX6_37 inX9_is rfl (hS.lt (hc 1 rfl)) rfl ⟨rfl, rfl⟩ ⟨⟨by simp only [rmd]; omega, by simp only [rmd]; omega⟩, Nat.zero_le _, Nat.zero_le _⟩ (Nat.le_of_ble_eq_true rfl) ?_
    refine ev_ifb_ne 44 dX6_readSum_29 (by decide) (fun h5 => ?_) (fun h5 => ?_)
    · rw [if_pos h5] at hf
      refine ev_sub [0, 1, 2, 3] rfl ?_
      exact tX6_readSum_j44 hS hc dp hdp rp hrp law within v3 μ hlaw hf hr
    · rw [if_neg h5] at hf
      refine ev_aload_n dX6_readSum_32 0 rfl ?_
      refine ev_getK 0 dX6_readSum_33 (hS.lt (hc 3 rfl)) rfl (hS.K1 (hc 3 rfl) rfl) ciX6 (by decide) rfl flX6_15 ?_
      refine ev_bipush dX6_readSum_36 (by decide) ?_
      refine cl_V1 (As := [vi 45]) (st := []) miX9_is (tX9_is hS (hc.w rfl rfl) 45 μ (o := (fX9_is 45 μ)) rfl) dX6_readSum_38 lkX6_37 inX9_is rfl (hS.lt (hc 1 rfl)) rfl ⟨rfl, rfl⟩ ⟨⟨by simp only [rmd]; omega, by simp only [rmd]; omega⟩, Nat.zero_le _, Nat.zero_le _⟩ (Nat.le_of_ble_eq_true rfl) ?_
      refine ev_ifb_eq 95 dX6_readSum_41 (by decide) (fun h13 => ?_) (fun h13 => ?_)
      · rw [if_neg h13] at hf
        refine ev_iconst dX6_readSum_95 ?_
        obtain rfl := Option.some.inj hf
        exact ev_bret (b := true) dX6_readSum_96 rfl ⟨Nat.zero_le _, Nat.zero_le _⟩ hr
      · rw [if_pos h13] at hf
        refine ev_sub [0, 1, 2, 3] rfl ?_
        exact tX6_readSum_j44 hS hc dp hdp rp hrp law within v3 μ hlaw hf hr
def fX6_readSum (rp : Nat → Int → Mem → Option (Bool × Mem)) (law : Nat) (within : Int) (μ : Mem) : Option (Bool × Mem) :=
  (fX6_readProduct rp law within μ).bind fun q1 =>
  if q1.1 = true then
    loopN (fun s => fX6_readSum_b13 rp law within s.1 s.2) FU (0, q1.2)
  else
    some ((false, q1.2))
set_option maxRecDepth 4000 in
theorem eX6_readSum (hS : Sd M K P L) (hc : CIn P 1 39) (dp : Nat) (hdp : 10 ≤ dp) (rp : Nat → Int → Mem → Option (Bool × Mem)) (hrp : ∀ (law : Nat) (within0 : Int) (μ : Mem) (hlaw : isLw law) (o : Bool × Mem), rp law within0 μ = some o → Cn l D cy g K K yX6_readPart cX6_readPart 5 (some .boolean) (rmd dp 0 0) [vr g 3, vr g law, vi within0] M x (L μ) (PE (some (vb o.1)) M x (L o.2))) (law : Nat) (within : Int) (μ : Mem) (hlaw : isLw law) {o : Bool × Mem} (hf : fX6_readSum rp law within μ = some o) (hr : (fun o : Bool × Mem => Φ (some (vb o.1)) M x (L o.2)) o) : Ev l D cy g K yX6_readSum cX6_readSum 5 (some .boolean) (rmd (dp + 2) 0 0) (MX D cy g K (rmd (dp + 2) 0 0) Φ) 0 0 M x (L μ) 0 [(0, vr g 3), (1, vr g law), (2, vi within)] [] := by
  unfold fX6_readSum at hf
  refine ev_aload_n dX6_readSum_0 0 rfl ?_
  refine ev_aload_n dX6_readSum_1 1 rfl ?_
  refine ev_iload_n dX6_readSum_2 2 rfl ?_
  obtain ⟨q1, hq1, hf⟩ := Option.bind_eq_some_iff.mp hf
  refine cl_V1 (As := [vr g law, vi within]) (st := []) miX6_readProduct (tX6_readProduct hS (hc.w rfl rfl) dp hdp rp hrp law within μ hlaw hq1) dX6_readSum_3 lkX6_186 inX6_readProduct rfl (hS.lt (hc 3 rfl)) rfl ⟨rfl, rfl⟩ ⟨⟨by simp only [rmd]; omega, by simp only [rmd]; omega⟩, Nat.zero_le _, Nat.zero_le _⟩ (Nat.le_of_ble_eq_true rfl) ?_
  refine ev_ifb_ne 11 dX6_readSum_6 (by decide) (fun h2 => ?_) (fun h2 => ?_)
  · rw [if_pos h2] at hf
    refine ev_iconst dX6_readSum_11 ?_
    refine ev_istore_n (al2 := [(3, vi 0), (0, vr g 3), (1, vr g law), (2, vi within)]) dX6_readSum_12 3 rfl (by decide) rfl ?_
    refine ev_sub [1, 2, 3, 0] rfl ?_
    exact loop_ev (H := (fun s : Int × Mem => Ev l D cy g K yX6_readSum cX6_readSum 5 (some .boolean) (rmd (dp + 2) 0 0) (MX D cy g K (rmd (dp + 2) 0 0) Φ) 0 0 M x (L s.2) 13 [(0, vr g 3), (1, vr g law), (2, vi within), (3, vi s.1)] [])) (Hx := (fun o : Bool × Mem => Φ (some (vb o.1)) M x (L o.2))) (fun s o hb hr => tX6_readSum_b13 hS hc dp hdp rp hrp law within s.1 s.2 hlaw hb hr) FU _ _ hf hr
  · rw [if_neg h2] at hf
    refine ev_iconst dX6_readSum_9 ?_
    obtain rfl := Option.some.inj hf
    exact ev_bret (b := false) dX6_readSum_10 rfl ⟨Nat.zero_le _, Nat.zero_le _⟩ hr
theorem tX6_readSum (hS : Sd M K P L) (hc : CIn P 1 39) (dp : Nat) (hdp : 10 ≤ dp) (rp : Nat → Int → Mem → Option (Bool × Mem)) (hrp : ∀ (law : Nat) (within0 : Int) (μ : Mem) (hlaw : isLw law) (o : Bool × Mem), rp law within0 μ = some o → Cn l D cy g K K yX6_readPart cX6_readPart 5 (some .boolean) (rmd dp 0 0) [vr g 3, vr g law, vi within0] M x (L μ) (PE (some (vb o.1)) M x (L o.2))) (law : Nat) (within : Int) (μ : Mem) (hlaw : isLw law) {o : Bool × Mem} (hf : fX6_readSum rp law within μ = some o) : Cn l D cy g K K yX6_readSum cX6_readSum 5 (some .boolean) (rmd (dp + 2) 0 0) [vr g 3, vr g law, vi within] M x (L μ) (PE (some (vb o.1)) M x (L o.2)) :=
 Cn.of (by decide) (Nat.le_of_ble_eq_true rfl) (eX6_readSum hS hc dp hdp rp hrp law within μ hlaw hf (PE_i _ _ _ _))
def fX6_readTest_j37 (rp : Nat → Int → Mem → Option (Bool × Mem)) (law : Nat) (within : Int) (μ : Mem) : Option (Bool × Mem) :=
  lt (if (fX9_is 60 μ) = true then
      (-8)
    else
      (-9)) fun v4 =>
  (fX9_step μ).bind fun μ6 =>
  (fX6_readSum rp law within μ6).bind fun q7 =>
  if q7.1 = true then
    lt (fX3_add law v4 q7.2) fun μ9 =>
    some ((true, μ9))
  else
    some ((false, q7.2))
set_option maxRecDepth 4000 in
theorem tX6_readTest_j37 (hS : Sd M K P L) (hc : CIn P 1 39) (dp : Nat) (hdp : 10 ≤ dp) (rp : Nat → Int → Mem → Option (Bool × Mem)) (hrp : ∀ (law : Nat) (within0 : Int) (μ : Mem) (hlaw : isLw law) (o : Bool × Mem), rp law within0 μ = some o → Cn l D cy g K K yX6_readPart cX6_readPart 5 (some .boolean) (rmd dp 0 0) [vr g 3, vr g law, vi within0] M x (L μ) (PE (some (vb o.1)) M x (L o.2))) (law : Nat) (within : Int) (μ : Mem) (hlaw : isLw law) {o : Bool × Mem} (hf : fX6_readTest_j37 rp law within μ = some o) (hr : (fun o : Bool × Mem => Φ (some (vb o.1)) M x (L o.2)) o) : Ev l D cy g K yX6_readTest cX6_readTest 4 (some .boolean) (rmd (dp + 3) 0 0) (MX D cy g K (rmd (dp + 3) 0 0) Φ) 0 0 M x (L μ) 37 [(0, vr g 3), (1, vr g law), (2, vi within)] [] := by
  unfold fX6_readTest_j37 at hf
  refine ev_aload_n dX6_readTest_37 0 rfl ?_
  refine ev_getK 0 dX6_readTest_38 (hS.lt (hc 3 rfl)) rfl (hS.K1 (hc 3 rfl) rfl) ciX6 (by decide) rfl flX6_15 ?_
  refine ev_bipush dX6_readTest_41 (by decide) ?_
  refine cl_V1 (As := [vi 60]) (st := []) miX9_is (tX9_is hS (hc.w rfl rfl) 60 μ (o := (fX9_is 60 μ)) rfl) dX6_readTest_43 lkX6_37 inX9_is rfl (hS.lt (hc 1 rfl)) rfl ⟨rfl, rfl⟩ ⟨⟨by simp only [rmd]; omega, by simp only [rmd]; omega⟩, Nat.zero_le _, Nat.zero_le _⟩ (Nat.le_of_ble_eq_true rfl) ?_
  obtain ⟨v4, hv4, hf⟩ := lt_elim hf
  have hJv4 : Ev l D cy g K yX6_readTest cX6_readTest 4 (some .boolean) (rmd (dp + 3) 0 0) (MX D cy g K (rmd (dp + 3) 0 0) Φ) 0 0 M x (L μ) 56 [(0, vr g 3), (1, vr g law), (2, vi within)] [vi v4] := by
    refine ev_istore_n (al2 := [(3, vi v4), (0, vr g 3), (1, vr g law), (2, vi within)]) dX6_readTest_56 3 rfl (by decide) rfl ?_
    refine ev_aload_n dX6_readTest_57 1 rfl ?_
    refine ev_getK 0 dX6_readTest_58 (hS.lt (hc 3 rfl)) rfl (hS.K1 (hc 3 rfl) rfl) ciX6 (by decide) rfl flX6_15 ?_
    obtain ⟨μ6, hμ6, hf⟩ := Option.bind_eq_some_iff.mp hf
    refine cl_V0 (As := []) (st := []) miX9_step (tX9_step hS (hc.w rfl rfl) μ hμ6) dX6_readTest_61 lkX6_99 inX9_step rfl (hS.lt (hc 1 rfl)) rfl ⟨rfl, rfl⟩ ⟨⟨by simp only [rmd]; omega, by simp only [rmd]; omega⟩, Nat.zero_le _, Nat.zero_le _⟩ (Nat.le_of_ble_eq_true rfl) ?_
    refine ev_aload_n dX6_readTest_64 1 rfl ?_
    refine ev_aload_n dX6_readTest_65 2 rfl ?_
    refine ev_iload_n dX6_readTest_66 3 rfl ?_
    obtain ⟨q7, hq7, hf⟩ := Option.bind_eq_some_iff.mp hf
    refine cl_V1 (As := [vr g law, vi within]) (st := []) miX6_readSum (tX6_readSum hS (hc.w rfl rfl) dp hdp rp hrp law within μ6 hlaw hq7) dX6_readTest_67 lkX6_183 inX6_readSum rfl (hS.lt (hc 3 rfl)) rfl ⟨rfl, rfl⟩ ⟨⟨by simp only [rmd]; omega, by simp only [rmd]; omega⟩, Nat.zero_le _, Nat.zero_le _⟩ (Nat.le_of_ble_eq_true rfl) ?_
    refine ev_ifb_ne 75 dX6_readTest_70 (by decide) (fun h8 => ?_) (fun h8 => ?_)
    · rw [if_pos h8] at hf
      refine ev_aload_n dX6_readTest_75 2 rfl ?_
      refine ev_iload_n dX6_readTest_76 0 rfl ?_
      obtain ⟨μ9, hμ9, hf⟩ := lt_elim hf
      refine cl_V0 (As := [vi v4]) (st := []) miX3_add (tX3_add hS (hc.w rfl rfl) law v4 q7.2 hlaw hμ9.symm) dX6_readTest_77 lkX6_181 inX3_add rfl (hS.lt (hc _ (inR_w (i_Lw0 hlaw) rfl rfl))) (s_Lw0 hlaw) ⟨rfl, rfl⟩ ⟨⟨by simp only [rmd]; omega, by simp only [rmd]; omega⟩, Nat.zero_le _, Nat.zero_le _⟩ (Nat.le_of_ble_eq_true rfl) ?_
      refine ev_iconst dX6_readTest_80 ?_
      obtain rfl := Option.some.inj hf
      exact ev_bret (b := true) dX6_readTest_81 rfl ⟨Nat.zero_le _, Nat.zero_le _⟩ hr
    · rw [if_neg h8] at hf
      refine ev_iconst dX6_readTest_73 ?_
      obtain rfl := Option.some.inj hf
      exact ev_bret (b := false) dX6_readTest_74 rfl ⟨Nat.zero_le _, Nat.zero_le _⟩ hr
  refine ev_ifb_eq 54 dX6_readTest_46 (by decide) (fun h5 => ?_) (fun h5 => ?_)
  · refine ev_bipush dX6_readTest_54 (by decide) ?_
    have e9 : v4 = (-9) := hv4.trans ((if_neg h5))
    subst e9
    exact hJv4
  · refine ev_bipush dX6_readTest_49 (by decide) ?_
    refine ev_goto 56 dX6_readTest_51 (by decide) ?_
    have e9 : v4 = (-8) := hv4.trans ((if_pos h5))
    subst e9
    exact hJv4
def fX6_readTest (rp : Nat → Int → Mem → Option (Bool × Mem)) (law : Nat) (within : Int) (μ : Mem) : Option (Bool × Mem) :=
  (fX6_readSum rp law within μ).bind fun q1 =>
  if q1.1 = true then
    if (fX9_is 60 q1.2) = true then
      fX6_readTest_j37 rp law within q1.2
    else
      if (fX9_is 61 q1.2) = true then
        fX6_readTest_j37 rp law within q1.2
      else
        some ((true, q1.2))
  else
    some ((false, q1.2))
set_option maxRecDepth 4000 in
theorem eX6_readTest (hS : Sd M K P L) (hc : CIn P 1 39) (dp : Nat) (hdp : 10 ≤ dp) (rp : Nat → Int → Mem → Option (Bool × Mem)) (hrp : ∀ (law : Nat) (within0 : Int) (μ : Mem) (hlaw : isLw law) (o : Bool × Mem), rp law within0 μ = some o → Cn l D cy g K K yX6_readPart cX6_readPart 5 (some .boolean) (rmd dp 0 0) [vr g 3, vr g law, vi within0] M x (L μ) (PE (some (vb o.1)) M x (L o.2))) (law : Nat) (within : Int) (μ : Mem) (hlaw : isLw law) {o : Bool × Mem} (hf : fX6_readTest rp law within μ = some o) (hr : (fun o : Bool × Mem => Φ (some (vb o.1)) M x (L o.2)) o) : Ev l D cy g K yX6_readTest cX6_readTest 4 (some .boolean) (rmd (dp + 3) 0 0) (MX D cy g K (rmd (dp + 3) 0 0) Φ) 0 0 M x (L μ) 0 [(0, vr g 3), (1, vr g law), (2, vi within)] [] := by
  unfold fX6_readTest at hf
  refine ev_aload_n dX6_readTest_0 0 rfl ?_
  refine ev_aload_n dX6_readTest_1 1 rfl ?_
  refine ev_iload_n dX6_readTest_2 2 rfl ?_
  obtain ⟨q1, hq1, hf⟩ := Option.bind_eq_some_iff.mp hf
  refine cl_V1 (As := [vr g law, vi within]) (st := []) miX6_readSum (tX6_readSum hS (hc.w rfl rfl) dp hdp rp hrp law within μ hlaw hq1) dX6_readTest_3 lkX6_183 inX6_readSum rfl (hS.lt (hc 3 rfl)) rfl ⟨rfl, rfl⟩ ⟨⟨by simp only [rmd]; omega, by simp only [rmd]; omega⟩, Nat.zero_le _, Nat.zero_le _⟩ (Nat.le_of_ble_eq_true rfl) ?_
  refine ev_ifb_ne 11 dX6_readTest_6 (by decide) (fun h2 => ?_) (fun h2 => ?_)
  · rw [if_pos h2] at hf
    refine ev_aload_n dX6_readTest_11 0 rfl ?_
    refine ev_getK 0 dX6_readTest_12 (hS.lt (hc 3 rfl)) rfl (hS.K1 (hc 3 rfl) rfl) ciX6 (by decide) rfl flX6_15 ?_
    refine ev_bipush dX6_readTest_15 (by decide) ?_
    refine cl_V1 (As := [vi 60]) (st := []) miX9_is (tX9_is hS (hc.w rfl rfl) 60 q1.2 (o := (fX9_is 60 q1.2)) rfl) dX6_readTest_17 lkX6_37 inX9_is rfl (hS.lt (hc 1 rfl)) rfl ⟨rfl, rfl⟩ ⟨⟨by simp only [rmd]; omega, by simp only [rmd]; omega⟩, Nat.zero_le _, Nat.zero_le _⟩ (Nat.le_of_ble_eq_true rfl) ?_
    refine ev_ifb_ne 37 dX6_readTest_20 (by decide) (fun h3 => ?_) (fun h3 => ?_)
    · rw [if_pos h3] at hf
      refine ev_sub [0, 1, 2] rfl ?_
      exact tX6_readTest_j37 hS hc dp hdp rp hrp law within q1.2 hlaw hf hr
    · rw [if_neg h3] at hf
      refine ev_aload_n dX6_readTest_23 0 rfl ?_
      refine ev_getK 0 dX6_readTest_24 (hS.lt (hc 3 rfl)) rfl (hS.K1 (hc 3 rfl) rfl) ciX6 (by decide) rfl flX6_15 ?_
      refine ev_bipush dX6_readTest_27 (by decide) ?_
      refine cl_V1 (As := [vi 61]) (st := []) miX9_is (tX9_is hS (hc.w rfl rfl) 61 q1.2 (o := (fX9_is 61 q1.2)) rfl) dX6_readTest_29 lkX6_37 inX9_is rfl (hS.lt (hc 1 rfl)) rfl ⟨rfl, rfl⟩ ⟨⟨by simp only [rmd]; omega, by simp only [rmd]; omega⟩, Nat.zero_le _, Nat.zero_le _⟩ (Nat.le_of_ble_eq_true rfl) ?_
      refine ev_ifb_ne 37 dX6_readTest_32 (by decide) (fun h10 => ?_) (fun h10 => ?_)
      · rw [if_pos h10] at hf
        refine ev_sub [0, 1, 2] rfl ?_
        exact tX6_readTest_j37 hS hc dp hdp rp hrp law within q1.2 hlaw hf hr
      · rw [if_neg h10] at hf
        refine ev_iconst dX6_readTest_35 ?_
        obtain rfl := Option.some.inj hf
        exact ev_bret (b := true) dX6_readTest_36 rfl ⟨Nat.zero_le _, Nat.zero_le _⟩ hr
  · rw [if_neg h2] at hf
    refine ev_iconst dX6_readTest_9 ?_
    obtain rfl := Option.some.inj hf
    exact ev_bret (b := false) dX6_readTest_10 rfl ⟨Nat.zero_le _, Nat.zero_le _⟩ hr
theorem tX6_readTest (hS : Sd M K P L) (hc : CIn P 1 39) (dp : Nat) (hdp : 10 ≤ dp) (rp : Nat → Int → Mem → Option (Bool × Mem)) (hrp : ∀ (law : Nat) (within0 : Int) (μ : Mem) (hlaw : isLw law) (o : Bool × Mem), rp law within0 μ = some o → Cn l D cy g K K yX6_readPart cX6_readPart 5 (some .boolean) (rmd dp 0 0) [vr g 3, vr g law, vi within0] M x (L μ) (PE (some (vb o.1)) M x (L o.2))) (law : Nat) (within : Int) (μ : Mem) (hlaw : isLw law) {o : Bool × Mem} (hf : fX6_readTest rp law within μ = some o) : Cn l D cy g K K yX6_readTest cX6_readTest 4 (some .boolean) (rmd (dp + 3) 0 0) [vr g 3, vr g law, vi within] M x (L μ) (PE (some (vb o.1)) M x (L o.2)) :=
 Cn.of (by decide) (Nat.le_of_ble_eq_true rfl) (eX6_readTest hS hc dp hdp rp hrp law within μ hlaw hf (PE_i _ _ _ _))
def fX6_readWhole_j46 (rp : Nat → Int → Mem → Option (Bool × Mem)) (law : Nat) (within : Int) (v7 : Int) (μ : Mem) : Option ((Int × Mem) ⊕ (Bool × Mem)) :=
  (fX9_word μ).bind fun v8 =>
  lt (wsen.getD (v8 - 1000) 0) fun v10 =>
  (fX9_step μ).bind fun μ11 =>
  (fX6_readTest rp law within μ11).bind fun q12 =>
  if q12.1 = true then
    lt (fX3_add law v10 q12.2) fun μ14 =>
    some (.inl ((v7 + 1), μ14))
  else
    some (.inr (false, q12.2))
set_option maxRecDepth 4000 in
theorem tX6_readWhole_j46 (hS : Sd M K P L) (hc : CIn P 1 39) (dp : Nat) (hdp : 10 ≤ dp) (rp : Nat → Int → Mem → Option (Bool × Mem)) (hrp : ∀ (law : Nat) (within0 : Int) (μ : Mem) (hlaw : isLw law) (o : Bool × Mem), rp law within0 μ = some o → Cn l D cy g K K yX6_readPart cX6_readPart 5 (some .boolean) (rmd dp 0 0) [vr g 3, vr g law, vi within0] M x (L μ) (PE (some (vb o.1)) M x (L o.2))) (law : Nat) (within : Int) (v7 : Int) (μ : Mem) (hlaw : isLw law) {o : (Int × Mem) ⊕ (Bool × Mem)} (hf : fX6_readWhole_j46 rp law within v7 μ = some o) (hr : (Sum.elim (fun s : Int × Mem => Ev l D cy g K yX6_readWhole cX6_readWhole 5 (some .boolean) (rmd (dp + 4) 0 0) (MX D cy g K (rmd (dp + 4) 0 0) Φ) 0 0 M x (L s.2) 13 [(0, vr g 3), (1, vr g law), (2, vi within), (3, vi s.1)] []) (fun o : Bool × Mem => Φ (some (vb o.1)) M x (L o.2))) o) : Ev l D cy g K yX6_readWhole cX6_readWhole 5 (some .boolean) (rmd (dp + 4) 0 0) (MX D cy g K (rmd (dp + 4) 0 0) Φ) 0 0 M x (L μ) 46 [(0, vr g 3), (1, vr g law), (2, vi within), (3, vi v7)] [] := by
  unfold fX6_readWhole_j46 at hf
  refine ev_aload_n dX6_readWhole_46 0 rfl ?_
  refine ev_getK 0 dX6_readWhole_47 (hS.lt (hc 3 rfl)) rfl (hS.K1 (hc 3 rfl) rfl) ciX6 (by decide) rfl flX6_15 ?_
  obtain ⟨v8, hv8, hf⟩ := Option.bind_eq_some_iff.mp hf
  refine cl_V1 (As := []) (st := []) miX9_word (tX9_word hS (hc.w rfl rfl) μ hv8) dX6_readWhole_50 lkX6_118 inX9_word rfl (hS.lt (hc 1 rfl)) rfl ⟨rfl, rfl⟩ ⟨⟨by simp only [rmd]; omega, by simp only [rmd]; omega⟩, Nat.zero_le _, Nat.zero_le _⟩ (Nat.le_of_ble_eq_true rfl) ?_
  refine cl_W1 (As := []) (st := []) miX10_sense (tX10_sense v8 (L μ) (rk_fX9_word hv8) (o := (wsen.getD (v8 - 1000) 0)) rfl) dX6_readWhole_53 lkX6_125 inX10_sense rfl (rk_fX9_word hv8) rfl ⟨⟨by simp only [rmd]; omega, by simp only [rmd]; omega⟩, Nat.zero_le _, Nat.zero_le _⟩ (Nat.le_of_ble_eq_true rfl) ?_
  obtain ⟨v10, hv10, hf⟩ := lt_elim hf
  refine ev_rni hv10 ?_
  refine ev_istore (al2 := [(4, vi v10), (0, vr g 3), (1, vr g law), (2, vi within), (3, vi v7)]) dX6_readWhole_56 (by decide) rfl ?_
  refine ev_aload_n dX6_readWhole_58 1 rfl ?_
  refine ev_getK 0 dX6_readWhole_59 (hS.lt (hc 3 rfl)) rfl (hS.K1 (hc 3 rfl) rfl) ciX6 (by decide) rfl flX6_15 ?_
  obtain ⟨μ11, hμ11, hf⟩ := Option.bind_eq_some_iff.mp hf
  refine cl_V0 (As := []) (st := []) miX9_step (tX9_step hS (hc.w rfl rfl) μ hμ11) dX6_readWhole_62 lkX6_99 inX9_step rfl (hS.lt (hc 1 rfl)) rfl ⟨rfl, rfl⟩ ⟨⟨by simp only [rmd]; omega, by simp only [rmd]; omega⟩, Nat.zero_le _, Nat.zero_le _⟩ (Nat.le_of_ble_eq_true rfl) ?_
  refine ev_aload_n dX6_readWhole_65 1 rfl ?_
  refine ev_aload_n dX6_readWhole_66 2 rfl ?_
  refine ev_iload_n dX6_readWhole_67 3 rfl ?_
  obtain ⟨q12, hq12, hf⟩ := Option.bind_eq_some_iff.mp hf
  refine cl_V1 (As := [vr g law, vi within]) (st := []) miX6_readTest (tX6_readTest hS (hc.w rfl rfl) dp hdp rp hrp law within μ11 hlaw hq12) dX6_readWhole_68 lkX6_172 inX6_readTest rfl (hS.lt (hc 3 rfl)) rfl ⟨rfl, rfl⟩ ⟨⟨by simp only [rmd]; omega, by simp only [rmd]; omega⟩, Nat.zero_le _, Nat.zero_le _⟩ (Nat.le_of_ble_eq_true rfl) ?_
  refine ev_ifb_ne 76 dX6_readWhole_71 (by decide) (fun h13 => ?_) (fun h13 => ?_)
  · rw [if_pos h13] at hf
    refine ev_aload_n dX6_readWhole_76 2 rfl ?_
    refine ev_iload dX6_readWhole_77 0 rfl ?_
    obtain ⟨μ14, hμ14, hf⟩ := lt_elim hf
    refine cl_V0 (As := [vi v10]) (st := []) miX3_add (tX3_add hS (hc.w rfl rfl) law v10 q12.2 hlaw hμ14.symm) dX6_readWhole_79 lkX6_181 inX3_add rfl (hS.lt (hc _ (inR_w (i_Lw0 hlaw) rfl rfl))) (s_Lw0 hlaw) ⟨rfl, rfl⟩ ⟨⟨by simp only [rmd]; omega, by simp only [rmd]; omega⟩, Nat.zero_le _, Nat.zero_le _⟩ (Nat.le_of_ble_eq_true rfl) ?_
    refine ev_iinc (al2 := [(3, vi (v7 + 1)), (4, vi v10), (0, vr g 3), (1, vr g law), (2, vi within)]) dX6_readWhole_82 4 rfl (by decide) rfl ?_
    refine ev_goto 13 dX6_readWhole_85 (by decide) ?_
    obtain rfl := Option.some.inj hf
    refine ev_sub [2, 3, 4, 0] rfl ?_
    exact hr
  · rw [if_neg h13] at hf
    refine ev_iconst dX6_readWhole_74 ?_
    obtain rfl := Option.some.inj hf
    exact ev_bret (b := false) dX6_readWhole_75 rfl ⟨Nat.zero_le _, Nat.zero_le _⟩ hr
def fX6_readWhole_b13 (rp : Nat → Int → Mem → Option (Bool × Mem)) (law : Nat) (within : Int) (v3 : Int) (μ : Mem) : Option ((Int × Mem) ⊕ (Bool × Mem)) :=
  if w32 v3 < w32 1000 then
    (fX9_isWord 1013 μ).bind fun v5 =>
    if v5 = true then
      fX6_readWhole_j46 rp law within v3 μ
    else
      (fX9_isWord 1014 μ).bind fun v15 =>
      if v15 = true then
        fX6_readWhole_j46 rp law within v3 μ
      else
        some (.inr (true, μ))
  else
    some (.inr (true, μ))
set_option maxRecDepth 4000 in
theorem tX6_readWhole_b13 (hS : Sd M K P L) (hc : CIn P 1 39) (dp : Nat) (hdp : 10 ≤ dp) (rp : Nat → Int → Mem → Option (Bool × Mem)) (hrp : ∀ (law : Nat) (within0 : Int) (μ : Mem) (hlaw : isLw law) (o : Bool × Mem), rp law within0 μ = some o → Cn l D cy g K K yX6_readPart cX6_readPart 5 (some .boolean) (rmd dp 0 0) [vr g 3, vr g law, vi within0] M x (L μ) (PE (some (vb o.1)) M x (L o.2))) (law : Nat) (within : Int) (v3 : Int) (μ : Mem) (hlaw : isLw law) {o : (Int × Mem) ⊕ (Bool × Mem)} (hf : fX6_readWhole_b13 rp law within v3 μ = some o) (hr : (Sum.elim (fun s : Int × Mem => Ev l D cy g K yX6_readWhole cX6_readWhole 5 (some .boolean) (rmd (dp + 4) 0 0) (MX D cy g K (rmd (dp + 4) 0 0) Φ) 0 0 M x (L s.2) 13 [(0, vr g 3), (1, vr g law), (2, vi within), (3, vi s.1)] []) (fun o : Bool × Mem => Φ (some (vb o.1)) M x (L o.2))) o) : Ev l D cy g K yX6_readWhole cX6_readWhole 5 (some .boolean) (rmd (dp + 4) 0 0) (MX D cy g K (rmd (dp + 4) 0 0) Φ) 0 0 M x (L μ) 13 [(0, vr g 3), (1, vr g law), (2, vi within), (3, vi v3)] [] := by
  unfold fX6_readWhole_b13 at hf
  refine ev_iload_n dX6_readWhole_13 3 rfl ?_
  refine ev_sipush dX6_readWhole_14 (by decide) ?_
  refine ev_icmp_ge 88 dX6_readWhole_17 (by decide) (fun h4 => ?_) (fun h4 => ?_)
  · rw [if_neg h4] at hf
    refine ev_iconst dX6_readWhole_88 ?_
    obtain rfl := Option.some.inj hf
    exact ev_bret (b := true) dX6_readWhole_89 rfl ⟨Nat.zero_le _, Nat.zero_le _⟩ hr
  · rw [if_pos h4] at hf
    refine ev_aload_n dX6_readWhole_20 0 rfl ?_
    refine ev_getK 0 dX6_readWhole_21 (hS.lt (hc 3 rfl)) rfl (hS.K1 (hc 3 rfl) rfl) ciX6 (by decide) rfl flX6_15 ?_
    refine ev_getsW 13 dX6_readWhole_24 (by decide) rfl flX6_175 ?_
    obtain ⟨v5, hv5, hf⟩ := Option.bind_eq_some_iff.mp hf
    refine cl_V1 (As := [vr g 1013]) (st := []) miX9_isWord (tX9_isWord hS (hc.w rfl rfl) 1013 μ (⟨by decide, by decide⟩) hv5) dX6_readWhole_27 lkX6_49 inX9_isWord rfl (hS.lt (hc 1 rfl)) rfl ⟨rfl, rfl⟩ ⟨⟨by simp only [rmd]; omega, by simp only [rmd]; omega⟩, Nat.zero_le _, Nat.zero_le _⟩ (Nat.le_of_ble_eq_true rfl) ?_
    refine ev_ifb_ne 46 dX6_readWhole_30 (by decide) (fun h6 => ?_) (fun h6 => ?_)
    · rw [if_pos h6] at hf
      refine ev_sub [0, 1, 2, 3] rfl ?_
      exact tX6_readWhole_j46 hS hc dp hdp rp hrp law within v3 μ hlaw hf hr
    · rw [if_neg h6] at hf
      refine ev_aload_n dX6_readWhole_33 0 rfl ?_
      refine ev_getK 0 dX6_readWhole_34 (hS.lt (hc 3 rfl)) rfl (hS.K1 (hc 3 rfl) rfl) ciX6 (by decide) rfl flX6_15 ?_
      refine ev_getsW 14 dX6_readWhole_37 (by decide) rfl flX6_178 ?_
      obtain ⟨v15, hv15, hf⟩ := Option.bind_eq_some_iff.mp hf
      refine cl_V1 (As := [vr g 1014]) (st := []) miX9_isWord (tX9_isWord hS (hc.w rfl rfl) 1014 μ (⟨by decide, by decide⟩) hv15) dX6_readWhole_40 lkX6_49 inX9_isWord rfl (hS.lt (hc 1 rfl)) rfl ⟨rfl, rfl⟩ ⟨⟨by simp only [rmd]; omega, by simp only [rmd]; omega⟩, Nat.zero_le _, Nat.zero_le _⟩ (Nat.le_of_ble_eq_true rfl) ?_
      refine ev_ifb_eq 88 dX6_readWhole_43 (by decide) (fun h16 => ?_) (fun h16 => ?_)
      · rw [if_neg h16] at hf
        refine ev_iconst dX6_readWhole_88 ?_
        obtain rfl := Option.some.inj hf
        exact ev_bret (b := true) dX6_readWhole_89 rfl ⟨Nat.zero_le _, Nat.zero_le _⟩ hr
      · rw [if_pos h16] at hf
        refine ev_sub [0, 1, 2, 3] rfl ?_
        exact tX6_readWhole_j46 hS hc dp hdp rp hrp law within v3 μ hlaw hf hr
def fX6_readWhole (rp : Nat → Int → Mem → Option (Bool × Mem)) (law : Nat) (within : Int) (μ : Mem) : Option (Bool × Mem) :=
  (fX6_readTest rp law within μ).bind fun q1 =>
  if q1.1 = true then
    loopN (fun s => fX6_readWhole_b13 rp law within s.1 s.2) FU (0, q1.2)
  else
    some ((false, q1.2))
set_option maxRecDepth 4000 in
theorem eX6_readWhole (hS : Sd M K P L) (hc : CIn P 1 39) (dp : Nat) (hdp : 10 ≤ dp) (rp : Nat → Int → Mem → Option (Bool × Mem)) (hrp : ∀ (law : Nat) (within0 : Int) (μ : Mem) (hlaw : isLw law) (o : Bool × Mem), rp law within0 μ = some o → Cn l D cy g K K yX6_readPart cX6_readPart 5 (some .boolean) (rmd dp 0 0) [vr g 3, vr g law, vi within0] M x (L μ) (PE (some (vb o.1)) M x (L o.2))) (law : Nat) (within : Int) (μ : Mem) (hlaw : isLw law) {o : Bool × Mem} (hf : fX6_readWhole rp law within μ = some o) (hr : (fun o : Bool × Mem => Φ (some (vb o.1)) M x (L o.2)) o) : Ev l D cy g K yX6_readWhole cX6_readWhole 5 (some .boolean) (rmd (dp + 4) 0 0) (MX D cy g K (rmd (dp + 4) 0 0) Φ) 0 0 M x (L μ) 0 [(0, vr g 3), (1, vr g law), (2, vi within)] [] := by
  unfold fX6_readWhole at hf
  refine ev_aload_n dX6_readWhole_0 0 rfl ?_
  refine ev_aload_n dX6_readWhole_1 1 rfl ?_
  refine ev_iload_n dX6_readWhole_2 2 rfl ?_
  obtain ⟨q1, hq1, hf⟩ := Option.bind_eq_some_iff.mp hf
  refine cl_V1 (As := [vr g law, vi within]) (st := []) miX6_readTest (tX6_readTest hS (hc.w rfl rfl) dp hdp rp hrp law within μ hlaw hq1) dX6_readWhole_3 lkX6_172 inX6_readTest rfl (hS.lt (hc 3 rfl)) rfl ⟨rfl, rfl⟩ ⟨⟨by simp only [rmd]; omega, by simp only [rmd]; omega⟩, Nat.zero_le _, Nat.zero_le _⟩ (Nat.le_of_ble_eq_true rfl) ?_
  refine ev_ifb_ne 11 dX6_readWhole_6 (by decide) (fun h2 => ?_) (fun h2 => ?_)
  · rw [if_pos h2] at hf
    refine ev_iconst dX6_readWhole_11 ?_
    refine ev_istore_n (al2 := [(3, vi 0), (0, vr g 3), (1, vr g law), (2, vi within)]) dX6_readWhole_12 3 rfl (by decide) rfl ?_
    refine ev_sub [1, 2, 3, 0] rfl ?_
    exact loop_ev (H := (fun s : Int × Mem => Ev l D cy g K yX6_readWhole cX6_readWhole 5 (some .boolean) (rmd (dp + 4) 0 0) (MX D cy g K (rmd (dp + 4) 0 0) Φ) 0 0 M x (L s.2) 13 [(0, vr g 3), (1, vr g law), (2, vi within), (3, vi s.1)] [])) (Hx := (fun o : Bool × Mem => Φ (some (vb o.1)) M x (L o.2))) (fun s o hb hr => tX6_readWhole_b13 hS hc dp hdp rp hrp law within s.1 s.2 hlaw hb hr) FU _ _ hf hr
  · rw [if_neg h2] at hf
    refine ev_iconst dX6_readWhole_9 ?_
    obtain rfl := Option.some.inj hf
    exact ev_bret (b := false) dX6_readWhole_10 rfl ⟨Nat.zero_le _, Nat.zero_le _⟩ hr
theorem tX6_readWhole (hS : Sd M K P L) (hc : CIn P 1 39) (dp : Nat) (hdp : 10 ≤ dp) (rp : Nat → Int → Mem → Option (Bool × Mem)) (hrp : ∀ (law : Nat) (within0 : Int) (μ : Mem) (hlaw : isLw law) (o : Bool × Mem), rp law within0 μ = some o → Cn l D cy g K K yX6_readPart cX6_readPart 5 (some .boolean) (rmd dp 0 0) [vr g 3, vr g law, vi within0] M x (L μ) (PE (some (vb o.1)) M x (L o.2))) (law : Nat) (within : Int) (μ : Mem) (hlaw : isLw law) {o : Bool × Mem} (hf : fX6_readWhole rp law within μ = some o) : Cn l D cy g K K yX6_readWhole cX6_readWhole 5 (some .boolean) (rmd (dp + 4) 0 0) [vr g 3, vr g law, vi within] M x (L μ) (PE (some (vb o.1)) M x (L o.2)) :=
 Cn.of (by decide) (Nat.le_of_ble_eq_true rfl) (eX6_readWhole hS hc dp hdp rp hrp law within μ hlaw hf (PE_i _ _ _ _))
def fX6_readPart_j148 (rp : Nat → Int → Mem → Option (Bool × Mem)) (law : Nat) (within : Int) (w16 : Int) (μ : Mem) : Option (Bool × Mem) :=
  lt (fX3_add law w16 μ) fun μ17 =>
  (fX9_step μ17).bind fun μ18 =>
  some ((true, μ18))
set_option maxRecDepth 4000 in
theorem tX6_readPart_j148 (hS : Sd M K P L) (hc : CIn P 1 39) (dp : Nat) (hdp : 10 ≤ dp) (rp : Nat → Int → Mem → Option (Bool × Mem)) (hrp : ∀ (law : Nat) (within0 : Int) (μ : Mem) (hlaw : isLw law) (o : Bool × Mem), rp law within0 μ = some o → Cn l D cy g K K yX6_readPart cX6_readPart 5 (some .boolean) (rmd dp 0 0) [vr g 3, vr g law, vi within0] M x (L μ) (PE (some (vb o.1)) M x (L o.2))) (law : Nat) (within : Int) (w16 : Int) (μ : Mem) (hlaw : isLw law) {o : Bool × Mem} (hf : fX6_readPart_j148 rp law within w16 μ = some o) (hr : (fun o : Bool × Mem => Φ (some (vb o.1)) M x (L o.2)) o) : Ev l D cy g K yX6_readPart cX6_readPart 5 (some .boolean) (rmd (dp + 5) 0 0) (MX D cy g K (rmd (dp + 5) 0 0) Φ) 0 0 M x (L μ) 148 [(0, vr g 3)] [vi w16, vr g law] := by
  unfold fX6_readPart_j148 at hf
  obtain ⟨μ17, hμ17, hf⟩ := lt_elim hf
  refine cl_V0 (As := [vi w16]) (st := []) miX3_add (tX3_add hS (hc.w rfl rfl) law w16 μ hlaw hμ17.symm) dX6_readPart_148 lkX6_181 inX3_add rfl (hS.lt (hc _ (inR_w (i_Lw0 hlaw) rfl rfl))) (s_Lw0 hlaw) ⟨rfl, rfl⟩ ⟨⟨by simp only [rmd]; omega, by simp only [rmd]; omega⟩, Nat.zero_le _, Nat.zero_le _⟩ (Nat.le_of_ble_eq_true rfl) ?_
  refine ev_aload_n dX6_readPart_151 0 rfl ?_
  refine ev_getK 0 dX6_readPart_152 (hS.lt (hc 3 rfl)) rfl (hS.K1 (hc 3 rfl) rfl) ciX6 (by decide) rfl flX6_15 ?_
  obtain ⟨μ18, hμ18, hf⟩ := Option.bind_eq_some_iff.mp hf
  refine cl_V0 (As := []) (st := []) miX9_step (tX9_step hS (hc.w rfl rfl) μ17 hμ18) dX6_readPart_155 lkX6_99 inX9_step rfl (hS.lt (hc 1 rfl)) rfl ⟨rfl, rfl⟩ ⟨⟨by simp only [rmd]; omega, by simp only [rmd]; omega⟩, Nat.zero_le _, Nat.zero_le _⟩ (Nat.le_of_ble_eq_true rfl) ?_
  refine ev_iconst dX6_readPart_158 ?_
  obtain rfl := Option.some.inj hf
  exact ev_bret (b := true) dX6_readPart_159 rfl ⟨Nat.zero_le _, Nat.zero_le _⟩ hr
def fX6_readPart_j62 (rp : Nat → Int → Mem → Option (Bool × Mem)) (law : Nat) (within : Int) (v4 : Bool) (v5 : Bool) (μ : Mem) : Option (Bool × Mem) :=
  if w32 within < w32 5 then
    if v5 = true then
      (fX9_step μ).bind fun μ20 =>
      (fX6_readWhole rp law (within + 1) μ20).bind fun q21 =>
      if q21.1 = true then
        (fX6_skipSign 41 q21.2).bind fun q23 =>
        lt (if q23.1 = true then
            true
          else
            false) fun v24 =>
        some ((v24, q23.2))
      else
        some ((false, q21.2))
    else
      if v4 = true then
        (fX9_step μ).bind fun μ9 =>
        (rp law (within + 1) μ9).bind fun q10 =>
        if q10.1 = true then
          lt (fX3_add law (-5) q10.2) fun μ12 =>
          some ((true, μ12))
        else
          some ((false, q10.2))
      else
        if (fX9_is 110 μ) = true then
          fX6_readPart_j148 rp law within (μ 1 5) μ
        else
          (fX9_word μ).bind fun v14 =>
          fX6_readPart_j148 rp law within (wsen.getD (v14 - 1000) 0) μ
  else
    lt (fX6_wrong 5 μ) fun q26 =>
    some ((q26.1, q26.2))
set_option maxRecDepth 4000 in
theorem tX6_readPart_j62 (hS : Sd M K P L) (hc : CIn P 1 39) (dp : Nat) (hdp : 10 ≤ dp) (rp : Nat → Int → Mem → Option (Bool × Mem)) (hrp : ∀ (law : Nat) (within0 : Int) (μ : Mem) (hlaw : isLw law) (o : Bool × Mem), rp law within0 μ = some o → Cn l D cy g K K yX6_readPart cX6_readPart 5 (some .boolean) (rmd dp 0 0) [vr g 3, vr g law, vi within0] M x (L μ) (PE (some (vb o.1)) M x (L o.2))) (law : Nat) (within : Int) (v4 : Bool) (v5 : Bool) (μ : Mem) (hlaw : isLw law) {o : Bool × Mem} (hf : fX6_readPart_j62 rp law within v4 v5 μ = some o) (hr : (fun o : Bool × Mem => Φ (some (vb o.1)) M x (L o.2)) o) : Ev l D cy g K yX6_readPart cX6_readPart 5 (some .boolean) (rmd (dp + 5) 0 0) (MX D cy g K (rmd (dp + 5) 0 0) Φ) 0 0 M x (L μ) 62 [(0, vr g 3), (1, vr g law), (2, vi within), (3, vb v4), (4, vb v5)] [] := by
  unfold fX6_readPart_j62 at hf
  refine ev_iload_n dX6_readPart_62 2 rfl ?_
  refine ev_iconst dX6_readPart_63 ?_
  refine ev_icmp_lt 73 dX6_readPart_64 (by decide) (fun h6 => ?_) (fun h6 => ?_)
  · rw [if_pos h6] at hf
    refine ev_iload dX6_readPart_73 4 rfl ?_
    refine ev_ifb_eq 111 dX6_readPart_75 (by decide) (fun h7 => ?_) (fun h7 => ?_)
    · rw [if_neg h7] at hf
      refine ev_iload_n dX6_readPart_111 3 rfl ?_
      refine ev_ifb_ne 160 dX6_readPart_112 (by decide) (fun h8 => ?_) (fun h8 => ?_)
      · rw [if_pos h8] at hf
        refine ev_aload_n dX6_readPart_160 0 rfl ?_
        refine ev_getK 0 dX6_readPart_161 (hS.lt (hc 3 rfl)) rfl (hS.K1 (hc 3 rfl) rfl) ciX6 (by decide) rfl flX6_15 ?_
        obtain ⟨μ9, hμ9, hf⟩ := Option.bind_eq_some_iff.mp hf
        refine cl_V0 (As := []) (st := []) miX9_step (tX9_step hS (hc.w rfl rfl) μ hμ9) dX6_readPart_164 lkX6_99 inX9_step rfl (hS.lt (hc 1 rfl)) rfl ⟨rfl, rfl⟩ ⟨⟨by simp only [rmd]; omega, by simp only [rmd]; omega⟩, Nat.zero_le _, Nat.zero_le _⟩ (Nat.le_of_ble_eq_true rfl) ?_
        refine ev_aload_n dX6_readPart_167 0 rfl ?_
        refine ev_aload_n dX6_readPart_168 1 rfl ?_
        refine ev_iload_n dX6_readPart_169 2 rfl ?_
        refine ev_iconst dX6_readPart_170 ?_
        refine ev_iadd dX6_readPart_171 ?_
        obtain ⟨q10, hq10, hf⟩ := Option.bind_eq_some_iff.mp hf
        refine cl_V1 (As := [vr g law, vi (within + 1)]) (st := []) miX6_readPart (hrp law (within + 1) μ9 hlaw _ hq10) dX6_readPart_172 lkX6_189 inX6_readPart rfl (hS.lt (hc 3 rfl)) rfl ⟨rfl, rfl⟩ ⟨⟨by simp only [rmd]; omega, by simp only [rmd]; omega⟩, Nat.zero_le _, Nat.zero_le _⟩ (Nat.le_of_ble_eq_true rfl) ?_
        refine ev_ifb_ne 180 dX6_readPart_175 (by decide) (fun h11 => ?_) (fun h11 => ?_)
        · rw [if_pos h11] at hf
          refine ev_aload_n dX6_readPart_180 1 rfl ?_
          refine ev_bipush dX6_readPart_181 (by decide) ?_
          obtain ⟨μ12, hμ12, hf⟩ := lt_elim hf
          refine cl_V0 (As := [vi (-5)]) (st := []) miX3_add (tX3_add hS (hc.w rfl rfl) law (-5) q10.2 hlaw hμ12.symm) dX6_readPart_183 lkX6_181 inX3_add rfl (hS.lt (hc _ (inR_w (i_Lw0 hlaw) rfl rfl))) (s_Lw0 hlaw) ⟨rfl, rfl⟩ ⟨⟨by simp only [rmd]; omega, by simp only [rmd]; omega⟩, Nat.zero_le _, Nat.zero_le _⟩ (Nat.le_of_ble_eq_true rfl) ?_
          refine ev_iconst dX6_readPart_186 ?_
          obtain rfl := Option.some.inj hf
          exact ev_bret (b := true) dX6_readPart_187 rfl ⟨Nat.zero_le _, Nat.zero_le _⟩ hr
        · rw [if_neg h11] at hf
          refine ev_iconst dX6_readPart_178 ?_
          obtain rfl := Option.some.inj hf
          exact ev_bret (b := false) dX6_readPart_179 rfl ⟨Nat.zero_le _, Nat.zero_le _⟩ hr
      · rw [if_neg h8] at hf
        refine ev_aload_n dX6_readPart_115 1 rfl ?_
        refine ev_aload_n dX6_readPart_116 0 rfl ?_
        refine ev_getK 0 dX6_readPart_117 (hS.lt (hc 3 rfl)) rfl (hS.K1 (hc 3 rfl) rfl) ciX6 (by decide) rfl flX6_15 ?_
        refine ev_bipush dX6_readPart_120 (by decide) ?_
        refine cl_V1 (As := [vi 110]) (st := [vr g law]) miX9_is (tX9_is hS (hc.w rfl rfl) 110 μ (o := (fX9_is 110 μ)) rfl) dX6_readPart_122 lkX6_37 inX9_is rfl (hS.lt (hc 1 rfl)) rfl ⟨rfl, rfl⟩ ⟨⟨by simp only [rmd]; omega, by simp only [rmd]; omega⟩, Nat.zero_le _, Nat.zero_le _⟩ (Nat.le_of_ble_eq_true rfl) ?_
        refine ev_ifb_eq 138 dX6_readPart_125 (by decide) (fun h13 => ?_) (fun h13 => ?_)
        · rw [if_neg h13] at hf
          refine ev_aload_n dX6_readPart_138 0 rfl ?_
          refine ev_getK 0 dX6_readPart_139 (hS.lt (hc 3 rfl)) rfl (hS.K1 (hc 3 rfl) rfl) ciX6 (by decide) rfl flX6_15 ?_
          obtain ⟨v14, hv14, hf⟩ := Option.bind_eq_some_iff.mp hf
          refine cl_V1 (As := []) (st := [vr g law]) miX9_word (tX9_word hS (hc.w rfl rfl) μ hv14) dX6_readPart_142 lkX6_118 inX9_word rfl (hS.lt (hc 1 rfl)) rfl ⟨rfl, rfl⟩ ⟨⟨by simp only [rmd]; omega, by simp only [rmd]; omega⟩, Nat.zero_le _, Nat.zero_le _⟩ (Nat.le_of_ble_eq_true rfl) ?_
          refine cl_W1 (As := []) (st := [vr g law]) miX10_sense (tX10_sense v14 (L μ) (rk_fX9_word hv14) (o := (wsen.getD (v14 - 1000) 0)) rfl) dX6_readPart_145 lkX6_125 inX10_sense rfl (rk_fX9_word hv14) rfl ⟨⟨by simp only [rmd]; omega, by simp only [rmd]; omega⟩, Nat.zero_le _, Nat.zero_le _⟩ (Nat.le_of_ble_eq_true rfl) ?_
          refine ev_sub [0] rfl ?_
          exact tX6_readPart_j148 hS hc dp hdp rp hrp law within (wsen.getD (v14 - 1000) 0) μ hlaw hf hr
        · rw [if_pos h13] at hf
          refine ev_aload_n dX6_readPart_128 0 rfl ?_
          refine ev_getK 0 dX6_readPart_129 (hS.lt (hc 3 rfl)) rfl (hS.K1 (hc 3 rfl) rfl) ciX6 (by decide) rfl flX6_15 ?_
          refine cl_V1 (As := []) (st := [vr g law]) miX9_number (tX9_number hS (hc.w rfl rfl) μ (o := (μ 1 5)) rfl) dX6_readPart_132 lkX6_131 inX9_number rfl (hS.lt (hc 1 rfl)) rfl ⟨rfl, rfl⟩ ⟨⟨by simp only [rmd]; omega, by simp only [rmd]; omega⟩, Nat.zero_le _, Nat.zero_le _⟩ (Nat.le_of_ble_eq_true rfl) ?_
          refine ev_goto 148 dX6_readPart_135 (by decide) ?_
          refine ev_sub [0] rfl ?_
          exact tX6_readPart_j148 hS hc dp hdp rp hrp law within (μ 1 5) μ hlaw hf hr
    · rw [if_pos h7] at hf
      refine ev_aload_n dX6_readPart_78 0 rfl ?_
      refine ev_getK 0 dX6_readPart_79 (hS.lt (hc 3 rfl)) rfl (hS.K1 (hc 3 rfl) rfl) ciX6 (by decide) rfl flX6_15 ?_
      obtain ⟨μ20, hμ20, hf⟩ := Option.bind_eq_some_iff.mp hf
      refine cl_V0 (As := []) (st := []) miX9_step (tX9_step hS (hc.w rfl rfl) μ hμ20) dX6_readPart_82 lkX6_99 inX9_step rfl (hS.lt (hc 1 rfl)) rfl ⟨rfl, rfl⟩ ⟨⟨by simp only [rmd]; omega, by simp only [rmd]; omega⟩, Nat.zero_le _, Nat.zero_le _⟩ (Nat.le_of_ble_eq_true rfl) ?_
      refine ev_aload_n dX6_readPart_85 0 rfl ?_
      refine ev_aload_n dX6_readPart_86 1 rfl ?_
      refine ev_iload_n dX6_readPart_87 2 rfl ?_
      refine ev_iconst dX6_readPart_88 ?_
      refine ev_iadd dX6_readPart_89 ?_
      obtain ⟨q21, hq21, hf⟩ := Option.bind_eq_some_iff.mp hf
      refine cl_V1 (As := [vr g law, vi (within + 1)]) (st := []) miX6_readWhole (tX6_readWhole hS (hc.w rfl rfl) dp hdp rp hrp law (within + 1) μ20 hlaw hq21) dX6_readPart_90 lkX6_168 inX6_readWhole rfl (hS.lt (hc 3 rfl)) rfl ⟨rfl, rfl⟩ ⟨⟨by simp only [rmd]; omega, by simp only [rmd]; omega⟩, Nat.zero_le _, Nat.zero_le _⟩ (Nat.le_of_ble_eq_true rfl) ?_
      refine ev_ifb_eq 109 dX6_readPart_93 (by decide) (fun h22 => ?_) (fun h22 => ?_)
      · rw [if_neg h22] at hf
        refine ev_iconst dX6_readPart_109 ?_
        obtain rfl := Option.some.inj hf
        exact ev_bret (b := false) dX6_readPart_110 rfl ⟨Nat.zero_le _, Nat.zero_le _⟩ hr
      · rw [if_pos h22] at hf
        refine ev_aload_n dX6_readPart_96 0 rfl ?_
        refine ev_bipush dX6_readPart_97 (by decide) ?_
        obtain ⟨q23, hq23, hf⟩ := Option.bind_eq_some_iff.mp hf
        refine cl_V1 (As := [vi 41]) (st := []) miX6_skipSign (tX6_skipSign hS (hc.w rfl rfl) 41 q21.2 hq23) dX6_readPart_99 lkX6_144 inX6_skipSign rfl (hS.lt (hc 3 rfl)) rfl ⟨rfl, rfl⟩ ⟨⟨by simp only [rmd]; omega, by simp only [rmd]; omega⟩, Nat.zero_le _, Nat.zero_le _⟩ (Nat.le_of_ble_eq_true rfl) ?_
        obtain ⟨v24, hv24, hf⟩ := lt_elim hf
        have hJv24 : Ev l D cy g K yX6_readPart cX6_readPart 5 (some .boolean) (rmd (dp + 5) 0 0) (MX D cy g K (rmd (dp + 5) 0 0) Φ) 0 0 M x (L q23.2) 110 [(0, vr g 3), (1, vr g law), (2, vi within), (3, vb v4), (4, vb v5)] [vb v24] := by
          obtain rfl := Option.some.inj hf
          exact ev_bret (b := v24) dX6_readPart_110 rfl ⟨Nat.zero_le _, Nat.zero_le _⟩ hr
        refine ev_ifb_eq 109 dX6_readPart_102 (by decide) (fun h25 => ?_) (fun h25 => ?_)
        · refine ev_iconst dX6_readPart_109 ?_
          have e9 : v24 = false := hv24.trans ((if_neg h25))
          subst e9
          exact hJv24
        · refine ev_iconst dX6_readPart_105 ?_
          refine ev_goto 110 dX6_readPart_106 (by decide) ?_
          have e9 : v24 = true := hv24.trans ((if_pos h25))
          subst e9
          exact hJv24
  · rw [if_neg h6] at hf
    refine ev_aload_n dX6_readPart_67 0 rfl ?_
    refine ev_iconst dX6_readPart_68 ?_
    obtain ⟨q26, hq26, hf⟩ := lt_elim hf
    refine cl_V1 (As := [vi 5]) (st := []) miX6_wrong (tX6_wrong hS (hc.w rfl rfl) 5 μ hq26.symm) dX6_readPart_69 lkX6_74 inX6_wrong rfl (hS.lt (hc 3 rfl)) rfl ⟨rfl, rfl⟩ ⟨⟨by simp only [rmd]; omega, by simp only [rmd]; omega⟩, Nat.zero_le _, Nat.zero_le _⟩ (Nat.le_of_ble_eq_true rfl) ?_
    obtain rfl := Option.some.inj hf
    exact ev_bret (b := q26.1) dX6_readPart_72 rfl ⟨Nat.zero_le _, Nat.zero_le _⟩ hr
def fX6_readPart (rp : Nat → Int → Mem → Option (Bool × Mem)) (law : Nat) (within : Int) (μ : Mem) : Option (Bool × Mem) :=
  (fX9_isWord 1012 μ).bind fun v1 =>
  lt (fX9_is 40 μ) fun v2 =>
  if v1 = true then
    fX6_readPart_j62 rp law within v1 v2 μ
  else
    if v2 = true then
      fX6_readPart_j62 rp law within v1 v2 μ
    else
      if (fX9_is 110 μ) = true then
        fX6_readPart_j62 rp law within v1 v2 μ
      else
        (fX9_word μ).bind fun v33 =>
        if (fX10_isFact v33) = true then
          fX6_readPart_j62 rp law within v1 v2 μ
        else
          lt (fX6_wrong 1 μ) fun q38 =>
          some ((q38.1, q38.2))
set_option maxRecDepth 4000 in
theorem eX6_readPart (hS : Sd M K P L) (hc : CIn P 1 39) (dp : Nat) (hdp : 10 ≤ dp) (rp : Nat → Int → Mem → Option (Bool × Mem)) (hrp : ∀ (law : Nat) (within0 : Int) (μ : Mem) (hlaw : isLw law) (o : Bool × Mem), rp law within0 μ = some o → Cn l D cy g K K yX6_readPart cX6_readPart 5 (some .boolean) (rmd dp 0 0) [vr g 3, vr g law, vi within0] M x (L μ) (PE (some (vb o.1)) M x (L o.2))) (law : Nat) (within : Int) (μ : Mem) (hlaw : isLw law) {o : Bool × Mem} (hf : fX6_readPart rp law within μ = some o) (hr : (fun o : Bool × Mem => Φ (some (vb o.1)) M x (L o.2)) o) : Ev l D cy g K yX6_readPart cX6_readPart 5 (some .boolean) (rmd (dp + 5) 0 0) (MX D cy g K (rmd (dp + 5) 0 0) Φ) 0 0 M x (L μ) 0 [(0, vr g 3), (1, vr g law), (2, vi within)] [] := by
  unfold fX6_readPart at hf
  refine ev_aload_n dX6_readPart_0 0 rfl ?_
  refine ev_getK 0 dX6_readPart_1 (hS.lt (hc 3 rfl)) rfl (hS.K1 (hc 3 rfl) rfl) ciX6 (by decide) rfl flX6_15 ?_
  refine ev_getsW 12 dX6_readPart_4 (by decide) rfl flX6_192 ?_
  obtain ⟨v1, hv1, hf⟩ := Option.bind_eq_some_iff.mp hf
  refine cl_V1 (As := [vr g 1012]) (st := []) miX9_isWord (tX9_isWord hS (hc.w rfl rfl) 1012 μ (⟨by decide, by decide⟩) hv1) dX6_readPart_7 lkX6_49 inX9_isWord rfl (hS.lt (hc 1 rfl)) rfl ⟨rfl, rfl⟩ ⟨⟨by simp only [rmd]; omega, by simp only [rmd]; omega⟩, Nat.zero_le _, Nat.zero_le _⟩ (Nat.le_of_ble_eq_true rfl) ?_
  refine ev_istore_n (al2 := [(3, vb v1), (0, vr g 3), (1, vr g law), (2, vi within)]) dX6_readPart_10 3 rfl (by decide) rfl ?_
  refine ev_aload_n dX6_readPart_11 1 rfl ?_
  refine ev_getK 0 dX6_readPart_12 (hS.lt (hc 3 rfl)) rfl (hS.K1 (hc 3 rfl) rfl) ciX6 (by decide) rfl flX6_15 ?_
  refine ev_bipush dX6_readPart_15 (by decide) ?_
  refine cl_V1 (As := [vi 40]) (st := []) miX9_is (tX9_is hS (hc.w rfl rfl) 40 μ (o := (fX9_is 40 μ)) rfl) dX6_readPart_17 lkX6_37 inX9_is rfl (hS.lt (hc 1 rfl)) rfl ⟨rfl, rfl⟩ ⟨⟨by simp only [rmd]; omega, by simp only [rmd]; omega⟩, Nat.zero_le _, Nat.zero_le _⟩ (Nat.le_of_ble_eq_true rfl) ?_
  obtain ⟨v2, hv2, hf⟩ := lt_elim hf
  refine ev_rnb hv2 ?_
  refine ev_istore (al2 := [(4, vb v2), (3, vb v1), (0, vr g 3), (1, vr g law), (2, vi within)]) dX6_readPart_20 (by decide) rfl ?_
  refine ev_iload_n dX6_readPart_22 1 rfl ?_
  refine ev_ifb_ne 62 dX6_readPart_23 (by decide) (fun h3 => ?_) (fun h3 => ?_)
  · rw [if_pos h3] at hf
    refine ev_sub [2, 3, 4, 1, 0] rfl ?_
    exact tX6_readPart_j62 hS hc dp hdp rp hrp law within v1 v2 μ hlaw hf hr
  · rw [if_neg h3] at hf
    refine ev_iload dX6_readPart_26 0 rfl ?_
    refine ev_ifb_ne 62 dX6_readPart_28 (by decide) (fun h27 => ?_) (fun h27 => ?_)
    · rw [if_pos h27] at hf
      refine ev_sub [2, 3, 4, 1, 0] rfl ?_
      exact tX6_readPart_j62 hS hc dp hdp rp hrp law within v1 v2 μ hlaw hf hr
    · rw [if_neg h27] at hf
      refine ev_aload_n dX6_readPart_31 2 rfl ?_
      refine ev_getK 0 dX6_readPart_32 (hS.lt (hc 3 rfl)) rfl (hS.K1 (hc 3 rfl) rfl) ciX6 (by decide) rfl flX6_15 ?_
      refine ev_bipush dX6_readPart_35 (by decide) ?_
      refine cl_V1 (As := [vi 110]) (st := []) miX9_is (tX9_is hS (hc.w rfl rfl) 110 μ (o := (fX9_is 110 μ)) rfl) dX6_readPart_37 lkX6_37 inX9_is rfl (hS.lt (hc 1 rfl)) rfl ⟨rfl, rfl⟩ ⟨⟨by simp only [rmd]; omega, by simp only [rmd]; omega⟩, Nat.zero_le _, Nat.zero_le _⟩ (Nat.le_of_ble_eq_true rfl) ?_
      refine ev_ifb_ne 62 dX6_readPart_40 (by decide) (fun h30 => ?_) (fun h30 => ?_)
      · rw [if_pos h30] at hf
        refine ev_sub [2, 3, 4, 1, 0] rfl ?_
        exact tX6_readPart_j62 hS hc dp hdp rp hrp law within v1 v2 μ hlaw hf hr
      · rw [if_neg h30] at hf
        refine ev_aload_n dX6_readPart_43 2 rfl ?_
        refine ev_getK 0 dX6_readPart_44 (hS.lt (hc 3 rfl)) rfl (hS.K1 (hc 3 rfl) rfl) ciX6 (by decide) rfl flX6_15 ?_
        obtain ⟨v33, hv33, hf⟩ := Option.bind_eq_some_iff.mp hf
        refine cl_V1 (As := []) (st := []) miX9_word (tX9_word hS (hc.w rfl rfl) μ hv33) dX6_readPart_47 lkX6_118 inX9_word rfl (hS.lt (hc 1 rfl)) rfl ⟨rfl, rfl⟩ ⟨⟨by simp only [rmd]; omega, by simp only [rmd]; omega⟩, Nat.zero_le _, Nat.zero_le _⟩ (Nat.le_of_ble_eq_true rfl) ?_
        refine cl_W1 (As := []) (st := []) miX10_isFact (tX10_isFact v33 (L μ) (rk_fX9_word hv33) (o := (fX10_isFact v33)) rfl) dX6_readPart_50 lkX6_195 inX10_isFact rfl (rk_fX9_word hv33) rfl ⟨⟨by simp only [rmd]; omega, by simp only [rmd]; omega⟩, Nat.zero_le _, Nat.zero_le _⟩ (Nat.le_of_ble_eq_true rfl) ?_
        refine ev_ifb_ne 62 dX6_readPart_53 (by decide) (fun h35 => ?_) (fun h35 => ?_)
        · rw [if_pos h35] at hf
          refine ev_sub [2, 3, 4, 1, 0] rfl ?_
          exact tX6_readPart_j62 hS hc dp hdp rp hrp law within v1 v2 μ hlaw hf hr
        · rw [if_neg h35] at hf
          refine ev_aload_n dX6_readPart_56 2 rfl ?_
          refine ev_iconst dX6_readPart_57 ?_
          obtain ⟨q38, hq38, hf⟩ := lt_elim hf
          refine cl_V1 (As := [vi 1]) (st := []) miX6_wrong (tX6_wrong hS (hc.w rfl rfl) 1 μ hq38.symm) dX6_readPart_58 lkX6_74 inX6_wrong rfl (hS.lt (hc 3 rfl)) rfl ⟨rfl, rfl⟩ ⟨⟨by simp only [rmd]; omega, by simp only [rmd]; omega⟩, Nat.zero_le _, Nat.zero_le _⟩ (Nat.le_of_ble_eq_true rfl) ?_
          obtain rfl := Option.some.inj hf
          exact ev_bret (b := q38.1) dX6_readPart_61 rfl ⟨Nat.zero_le _, Nat.zero_le _⟩ hr
theorem tX6_readPart (hS : Sd M K P L) (hc : CIn P 1 39) (dp : Nat) (hdp : 10 ≤ dp) (rp : Nat → Int → Mem → Option (Bool × Mem)) (hrp : ∀ (law : Nat) (within0 : Int) (μ : Mem) (hlaw : isLw law) (o : Bool × Mem), rp law within0 μ = some o → Cn l D cy g K K yX6_readPart cX6_readPart 5 (some .boolean) (rmd dp 0 0) [vr g 3, vr g law, vi within0] M x (L μ) (PE (some (vb o.1)) M x (L o.2))) (law : Nat) (within : Int) (μ : Mem) (hlaw : isLw law) {o : Bool × Mem} (hf : fX6_readPart rp law within μ = some o) : Cn l D cy g K K yX6_readPart cX6_readPart 5 (some .boolean) (rmd (dp + 5) 0 0) [vr g 3, vr g law, vi within] M x (L μ) (PE (some (vb o.1)) M x (L o.2)) :=
 Cn.of (by decide) (Nat.le_of_ble_eq_true rfl) (eX6_readPart hS hc dp hdp rp hrp law within μ hlaw hf (PE_i _ _ _ _))
def fX6_readPartN : Nat → Nat → Int → Mem → Option (Bool × Mem)
  | 0 => fun _ _ _ => none
  | n + 1 => fun law within0 μ => fX6_readPart (fX6_readPartN n) law within0 μ
theorem tX6_readPartN (hS : Sd M K P L) (hc : CIn P 1 39) : ∀ (n : Nat) (law : Nat) (within0 : Int) (μ : Mem) (hlaw : isLw law) (o : Bool × Mem), fX6_readPartN n law within0 μ = some o → Cn l D cy g K K yX6_readPart cX6_readPart 5 (some .boolean) (rmd (5 * n + 10) 0 0) [vr g 3, vr g law, vi within0] M x (L μ) (PE (some (vb o.1)) M x (L o.2))
  | 0, law, within0, μ, hlaw, o, h => by cases h
  | n + 1, law, within0, μ, hlaw, o, h => by
    have := tX6_readPart hS hc (5 * n + 10) (by omega) (fX6_readPartN n) (fun law within0 μ hlaw o h => tX6_readPartN hS hc n law within0 μ hlaw o h) law within0 μ hlaw h
    exact this
def fX6_readWholeC (law : Nat) (within0 : Int) (μ : Mem) : Option (Bool × Mem) := fX6_readWhole (fX6_readPartN 8) law within0 μ
theorem tX6_readWholeC (hS : Sd M K P L) (hc : CIn P 1 39) (law : Nat) (within0 : Int) (μ : Mem) (hlaw : isLw law) {o : Bool × Mem} (hf : fX6_readWholeC law within0 μ = some o) : Cn l D cy g K K yX6_readWhole cX6_readWhole 5 (some .boolean) (rmd 54 0 0) [vr g 3, vr g law, vi within0] M x (L μ) (PE (some (vb o.1)) M x (L o.2)) :=
  tX6_readWhole hS (hc.w rfl rfl) (5 * 8 + 10) (by decide) (fX6_readPartN 8) (fun law within0 μ hlaw o h => tX6_readPartN hS (hc.w rfl rfl) 8 law within0 μ hlaw o h) law within0 μ hlaw hf
def fX6_readLaw (law : Nat) (μ : Mem) : Option (Bool × Mem) :=
  if ((μ law 5) != 0) = true then
    lt (fX6_wrong 3 μ) fun q9 =>
    some ((q9.1, q9.2))
  else
    lt (fX3_tell law μ) fun μ2 =>
    (fX9_step μ2).bind fun μ3 =>
    (fX6_readWholeC law 0 μ3).bind fun q4 =>
    if q4.1 = true then
      (fX6_skipSign 59 q4.2).bind fun q6 =>
      lt (if q6.1 = true then
          true
        else
          false) fun v7 =>
      some ((v7, q6.2))
    else
      some ((false, q4.2))
set_option maxRecDepth 4000 in
theorem eX6_readLaw (hS : Sd M K P L) (hc : CIn P 1 39) (law : Nat) (μ : Mem) (hlaw : isLw law) {o : Bool × Mem} (hf : fX6_readLaw law μ = some o) (hr : (fun o : Bool × Mem => Φ (some (vb o.1)) M x (L o.2)) o) : Ev l D cy g K yX6_readLaw cX6_readLaw 2 (some .boolean) (rmd 55 0 0) (MX D cy g K (rmd 55 0 0) Φ) 0 0 M x (L μ) 0 [(0, vr g 3), (1, vr g law)] [] := by
  unfold fX6_readLaw at hf
  refine ev_aload_n dX6_readLaw_0 1 rfl ?_
  refine cl_V1 (As := []) (st := []) miX3_isTold (tX3_isTold hS (hc.w rfl rfl) law μ hlaw (o := ((μ law 5) != 0)) rfl) dX6_readLaw_1 lkX6_160 inX3_isTold rfl (hS.lt (hc _ (inR_w (i_Lw0 hlaw) rfl rfl))) (s_Lw0 hlaw) ⟨rfl, rfl⟩ ⟨⟨Nat.le_of_ble_eq_true rfl, Nat.le_of_ble_eq_true rfl⟩, Nat.zero_le _, Nat.zero_le _⟩ (Nat.le_of_ble_eq_true rfl) ?_
  refine ev_ifb_eq 13 dX6_readLaw_4 (by decide) (fun h1 => ?_) (fun h1 => ?_)
  · rw [if_neg h1] at hf
    refine ev_aload_n dX6_readLaw_13 1 rfl ?_
    obtain ⟨μ2, hμ2, hf⟩ := lt_elim hf
    refine cl_V0 (As := []) (st := []) miX3_tell (tX3_tell hS (hc.w rfl rfl) law μ hlaw hμ2.symm) dX6_readLaw_14 lkX6_165 inX3_tell rfl (hS.lt (hc _ (inR_w (i_Lw0 hlaw) rfl rfl))) (s_Lw0 hlaw) ⟨rfl, rfl⟩ ⟨⟨Nat.le_of_ble_eq_true rfl, Nat.le_of_ble_eq_true rfl⟩, Nat.zero_le _, Nat.zero_le _⟩ (Nat.le_of_ble_eq_true rfl) ?_
    refine ev_aload_n dX6_readLaw_17 0 rfl ?_
    refine ev_getK 0 dX6_readLaw_18 (hS.lt (hc 3 rfl)) rfl (hS.K1 (hc 3 rfl) rfl) ciX6 (by decide) rfl flX6_15 ?_
    obtain ⟨μ3, hμ3, hf⟩ := Option.bind_eq_some_iff.mp hf
    refine cl_V0 (As := []) (st := []) miX9_step (tX9_step hS (hc.w rfl rfl) μ2 hμ3) dX6_readLaw_21 lkX6_99 inX9_step rfl (hS.lt (hc 1 rfl)) rfl ⟨rfl, rfl⟩ ⟨⟨Nat.le_of_ble_eq_true rfl, Nat.le_of_ble_eq_true rfl⟩, Nat.zero_le _, Nat.zero_le _⟩ (Nat.le_of_ble_eq_true rfl) ?_
    refine ev_aload_n dX6_readLaw_24 0 rfl ?_
    refine ev_aload_n dX6_readLaw_25 1 rfl ?_
    refine ev_iconst dX6_readLaw_26 ?_
    obtain ⟨q4, hq4, hf⟩ := Option.bind_eq_some_iff.mp hf
    refine cl_V1 (As := [vr g law, vi 0]) (st := []) miX6_readWhole (tX6_readWholeC hS (hc.w rfl rfl) law 0 μ3 hlaw hq4) dX6_readLaw_27 lkX6_168 inX6_readWhole rfl (hS.lt (hc 3 rfl)) rfl ⟨rfl, rfl⟩ ⟨⟨Nat.le_of_ble_eq_true rfl, Nat.le_of_ble_eq_true rfl⟩, Nat.zero_le _, Nat.zero_le _⟩ (Nat.le_of_ble_eq_true rfl) ?_
    refine ev_ifb_eq 46 dX6_readLaw_30 (by decide) (fun h5 => ?_) (fun h5 => ?_)
    · rw [if_neg h5] at hf
      refine ev_iconst dX6_readLaw_46 ?_
      obtain rfl := Option.some.inj hf
      exact ev_bret (b := false) dX6_readLaw_47 rfl ⟨Nat.zero_le _, Nat.zero_le _⟩ hr
    · rw [if_pos h5] at hf
      refine ev_aload_n dX6_readLaw_33 0 rfl ?_
      refine ev_bipush dX6_readLaw_34 (by decide) ?_
      obtain ⟨q6, hq6, hf⟩ := Option.bind_eq_some_iff.mp hf
      refine cl_V1 (As := [vi 59]) (st := []) miX6_skipSign (tX6_skipSign hS (hc.w rfl rfl) 59 q4.2 hq6) dX6_readLaw_36 lkX6_144 inX6_skipSign rfl (hS.lt (hc 3 rfl)) rfl ⟨rfl, rfl⟩ ⟨⟨Nat.le_of_ble_eq_true rfl, Nat.le_of_ble_eq_true rfl⟩, Nat.zero_le _, Nat.zero_le _⟩ (Nat.le_of_ble_eq_true rfl) ?_
      obtain ⟨v7, hv7, hf⟩ := lt_elim hf
      have hJv7 : Ev l D cy g K yX6_readLaw cX6_readLaw 2 (some .boolean) (rmd 55 0 0) (MX D cy g K (rmd 55 0 0) Φ) 0 0 M x (L q6.2) 47 [(0, vr g 3), (1, vr g law)] [vb v7] := by
        obtain rfl := Option.some.inj hf
        exact ev_bret (b := v7) dX6_readLaw_47 rfl ⟨Nat.zero_le _, Nat.zero_le _⟩ hr
      refine ev_ifb_eq 46 dX6_readLaw_39 (by decide) (fun h8 => ?_) (fun h8 => ?_)
      · refine ev_iconst dX6_readLaw_46 ?_
        have e9 : v7 = false := hv7.trans ((if_neg h8))
        subst e9
        exact hJv7
      · refine ev_iconst dX6_readLaw_42 ?_
        refine ev_goto 47 dX6_readLaw_43 (by decide) ?_
        have e9 : v7 = true := hv7.trans ((if_pos h8))
        subst e9
        exact hJv7
  · rw [if_pos h1] at hf
    refine ev_aload_n dX6_readLaw_7 0 rfl ?_
    refine ev_iconst dX6_readLaw_8 ?_
    obtain ⟨q9, hq9, hf⟩ := lt_elim hf
    refine cl_V1 (As := [vi 3]) (st := []) miX6_wrong (tX6_wrong hS (hc.w rfl rfl) 3 μ hq9.symm) dX6_readLaw_9 lkX6_74 inX6_wrong rfl (hS.lt (hc 3 rfl)) rfl ⟨rfl, rfl⟩ ⟨⟨Nat.le_of_ble_eq_true rfl, Nat.le_of_ble_eq_true rfl⟩, Nat.zero_le _, Nat.zero_le _⟩ (Nat.le_of_ble_eq_true rfl) ?_
    obtain rfl := Option.some.inj hf
    exact ev_bret (b := q9.1) dX6_readLaw_12 rfl ⟨Nat.zero_le _, Nat.zero_le _⟩ hr
theorem tX6_readLaw (hS : Sd M K P L) (hc : CIn P 1 39) (law : Nat) (μ : Mem) (hlaw : isLw law) {o : Bool × Mem} (hf : fX6_readLaw law μ = some o) : Cn l D cy g K K yX6_readLaw cX6_readLaw 2 (some .boolean) (rmd 55 0 0) [vr g 3, vr g law] M x (L μ) (PE (some (vb o.1)) M x (L o.2)) :=
 Cn.of (by decide) (Nat.le_of_ble_eq_true rfl) (eX6_readLaw hS hc law μ hlaw hf (PE_i _ _ _ _))
def fX9_clear  (μ : Mem) : Mem :=
  lt (upd2 μ 1 1 0) fun μ1 =>
  μ1
set_option maxRecDepth 4000 in
theorem eX9_clear (hS : Sd M K P L) (hc : CIn P 1 2)  (μ : Mem)  {o : Mem} (hf : fX9_clear  μ = o) (hr : (fun o : Mem => Φ none M x (L o)) o) : Ev l D cy g K yX9_clear cX9_clear 1 none (rmd 1 0 0) (MX D cy g K (rmd 1 0 0) Φ) 0 0 M x (L μ) 0 [(0, vr g 1)] [] := by
  unfold fX9_clear at hf
  refine ev_aload_n dX9_clear_0 0 rfl ?_
  refine ev_iconst dX9_clear_1 ?_
  obtain ⟨μ1, hμ1, hf⟩ := lt_elim hf
  refine ev_putI 1 dX9_clear_2 (hS.lt (hc 1 rfl)) rfl ciX9 (by decide) (Or.inl rfl) rfl rfl flX9_34 (hS.up (hc 1 rfl) hμ1) ?_
  obtain rfl := hf
  exact ev_vret dX9_clear_5 rfl ⟨Nat.zero_le _, Nat.zero_le _⟩ hr
theorem tX9_clear (hS : Sd M K P L) (hc : CIn P 1 2) (μ : Mem) {o : Mem} (hf : fX9_clear μ = o) : Cn l D cy g K K yX9_clear cX9_clear 1 none (rmd 1 0 0) [vr g 1] M x (L μ) (PE none M x (L o)) :=
 Cn.of (by decide) (Nat.le_of_ble_eq_true rfl) (eX9_clear hS hc μ hf (PE_i _ _ _ _))
def fX6_finish  (μ : Mem) : Int × Mem :=
  lt (fX9_clear μ) fun μ1 =>
  ((μ1 3 1), μ1)
set_option maxRecDepth 4000 in
theorem eX6_finish (hS : Sd M K P L) (hc : CIn P 1 4)  (μ : Mem)  {o : Int × Mem} (hf : fX6_finish  μ = o) (hr : (fun o : Int × Mem => Φ (some (vi o.1)) M x (L o.2)) o) : Ev l D cy g K yX6_finish cX6_finish 1 (some .int) (rmd 2 0 0) (MX D cy g K (rmd 2 0 0) Φ) 0 0 M x (L μ) 0 [(0, vr g 3)] [] := by
  unfold fX6_finish at hf
  refine ev_aload_n dX6_finish_0 0 rfl ?_
  refine ev_getK 0 dX6_finish_1 (hS.lt (hc 3 rfl)) rfl (hS.K1 (hc 3 rfl) rfl) ciX6 (by decide) rfl flX6_15 ?_
  obtain ⟨μ1, hμ1, hf⟩ := lt_elim hf
  refine cl_V0 (As := []) (st := []) miX9_clear (tX9_clear hS (hc.w rfl rfl) μ hμ1.symm) dX6_finish_4 lkX6_95 inX9_clear rfl (hS.lt (hc 1 rfl)) rfl ⟨rfl, rfl⟩ ⟨⟨Nat.le_of_ble_eq_true rfl, Nat.le_of_ble_eq_true rfl⟩, Nat.zero_le _, Nat.zero_le _⟩ (Nat.le_of_ble_eq_true rfl) ?_
  refine ev_aload_n dX6_finish_7 0 rfl ?_
  refine ev_getI 1 dX6_finish_8 (hS.lt (hc 3 rfl)) rfl (hS.mem _ (hc 3 rfl)) ciX6 (by decide) rfl flX6_34 ?_
  obtain rfl := hf
  exact ev_iret dX6_finish_11 rfl ⟨Nat.zero_le _, Nat.zero_le _⟩ hr
theorem tX6_finish (hS : Sd M K P L) (hc : CIn P 1 4) (μ : Mem) {o : Int × Mem} (hf : fX6_finish μ = o) : Cn l D cy g K K yX6_finish cX6_finish 1 (some .int) (rmd 2 0 0) [vr g 3] M x (L μ) (PE (some (vi o.1)) M x (L o.2)) :=
 Cn.of (by decide) (Nat.le_of_ble_eq_true rfl) (eX6_finish hS hc μ hf (PE_i _ _ _ _))
def fX6_readGriddle_b10 (draft : Nat) (v3 : Int) (μ : Mem) : Option ((Int × Mem) ⊕ (Mem)) :=
  if w32 v3 < w32 1000 then
    if w32 (μ 3 1) = 0 then
      if (fX9_is 101 μ) = true then
        some (.inr μ)
      else
        (fX9_isWord 1001 μ).bind fun v7 =>
        if v7 = true then
          (fX6_readCake draft μ).bind fun q16 =>
          some (.inl ((v3 + 1), q16.2))
        else
          (fX9_isWord 1003 μ).bind fun v9 =>
          if v9 = true then
            (fX6_readLaw (draft + 4) μ).bind fun q15 =>
            some (.inl ((v3 + 1), q15.2))
          else
            (fX9_isWord 1004 μ).bind fun v11 =>
            if v11 = true then
              (fX6_readLaw (draft + 7) μ).bind fun q14 =>
              some (.inl ((v3 + 1), q14.2))
            else
              lt (fX6_wrong 1 μ) fun q13 =>
              some (.inl ((v3 + 1), q13.2))
    else
      some (.inr μ)
  else
    some (.inr μ)
set_option maxRecDepth 4000 in
theorem tX6_readGriddle_b10 (hS : Sd M K P L) (hc : CIn P 1 39) (draft : Nat) (v3 : Int) (μ : Mem) (hdraft : isGr draft) {o : (Int × Mem) ⊕ (Mem)} (hf : fX6_readGriddle_b10 draft v3 μ = some o) (hr : (Sum.elim (fun s : Int × Mem => Ev l D cy g K yX6_readGriddle cX6_readGriddle 3 (some .int) (rmd 56 0 0) (MX D cy g K (rmd 56 0 0) Φ) 0 0 M x (L s.2) 10 [(0, vr g 3), (1, vr g draft), (2, vi s.1)] []) (fun e : Mem => Ev l D cy g K yX6_readGriddle cX6_readGriddle 3 (some .int) (rmd 56 0 0) (MX D cy g K (rmd 56 0 0) Φ) 0 0 M x (L e) 120 [(0, vr g 3)] [])) o) : Ev l D cy g K yX6_readGriddle cX6_readGriddle 3 (some .int) (rmd 56 0 0) (MX D cy g K (rmd 56 0 0) Φ) 0 0 M x (L μ) 10 [(0, vr g 3), (1, vr g draft), (2, vi v3)] [] := by
  unfold fX6_readGriddle_b10 at hf
  refine ev_iload_n dX6_readGriddle_10 2 rfl ?_
  refine ev_sipush dX6_readGriddle_11 (by decide) ?_
  refine ev_icmp_ge 120 dX6_readGriddle_14 (by decide) (fun h4 => ?_) (fun h4 => ?_)
  · rw [if_neg h4] at hf
    obtain rfl := Option.some.inj hf
    refine ev_sub [0] rfl ?_
    exact hr
  · rw [if_pos h4] at hf
    refine ev_aload_n dX6_readGriddle_17 0 rfl ?_
    refine ev_getI 1 dX6_readGriddle_18 (hS.lt (hc 3 rfl)) rfl (hS.mem _ (hc 3 rfl)) ciX6 (by decide) rfl flX6_34 ?_
    refine ev_if_ne 120 dX6_readGriddle_21 (by decide) (fun h5 => ?_) (fun h5 => ?_)
    · rw [if_neg h5] at hf
      obtain rfl := Option.some.inj hf
      refine ev_sub [0] rfl ?_
      exact hr
    · rw [if_pos h5] at hf
      refine ev_aload_n dX6_readGriddle_24 0 rfl ?_
      refine ev_getK 0 dX6_readGriddle_25 (hS.lt (hc 3 rfl)) rfl (hS.K1 (hc 3 rfl) rfl) ciX6 (by decide) rfl flX6_15 ?_
      refine ev_bipush dX6_readGriddle_28 (by decide) ?_
      refine cl_V1 (As := [vi 101]) (st := []) miX9_is (tX9_is hS (hc.w rfl rfl) 101 μ (o := (fX9_is 101 μ)) rfl) dX6_readGriddle_30 lkX6_37 inX9_is rfl (hS.lt (hc 1 rfl)) rfl ⟨rfl, rfl⟩ ⟨⟨Nat.le_of_ble_eq_true rfl, Nat.le_of_ble_eq_true rfl⟩, Nat.zero_le _, Nat.zero_le _⟩ (Nat.le_of_ble_eq_true rfl) ?_
      refine ev_ifb_ne 120 dX6_readGriddle_33 (by decide) (fun h6 => ?_) (fun h6 => ?_)
      · rw [if_pos h6] at hf
        obtain rfl := Option.some.inj hf
        refine ev_sub [0] rfl ?_
        exact hr
      · rw [if_neg h6] at hf
        refine ev_aload_n dX6_readGriddle_36 0 rfl ?_
        refine ev_getK 0 dX6_readGriddle_37 (hS.lt (hc 3 rfl)) rfl (hS.K1 (hc 3 rfl) rfl) ciX6 (by decide) rfl flX6_15 ?_
        refine ev_getsW 1 dX6_readGriddle_40 (by decide) rfl flX6_43 ?_
        obtain ⟨v7, hv7, hf⟩ := Option.bind_eq_some_iff.mp hf
        refine cl_V1 (As := [vr g 1001]) (st := []) miX9_isWord (tX9_isWord hS (hc.w rfl rfl) 1001 μ (⟨by decide, by decide⟩) hv7) dX6_readGriddle_43 lkX6_49 inX9_isWord rfl (hS.lt (hc 1 rfl)) rfl ⟨rfl, rfl⟩ ⟨⟨Nat.le_of_ble_eq_true rfl, Nat.le_of_ble_eq_true rfl⟩, Nat.zero_le _, Nat.zero_le _⟩ (Nat.le_of_ble_eq_true rfl) ?_
        refine ev_ifb_eq 58 dX6_readGriddle_46 (by decide) (fun h8 => ?_) (fun h8 => ?_)
        · rw [if_neg h8] at hf
          refine ev_aload_n dX6_readGriddle_58 0 rfl ?_
          refine ev_getK 0 dX6_readGriddle_59 (hS.lt (hc 3 rfl)) rfl (hS.K1 (hc 3 rfl) rfl) ciX6 (by decide) rfl flX6_15 ?_
          refine ev_getsW 3 dX6_readGriddle_62 (by decide) rfl flX6_57 ?_
          obtain ⟨v9, hv9, hf⟩ := Option.bind_eq_some_iff.mp hf
          refine cl_V1 (As := [vr g 1003]) (st := []) miX9_isWord (tX9_isWord hS (hc.w rfl rfl) 1003 μ (⟨by decide, by decide⟩) hv9) dX6_readGriddle_65 lkX6_49 inX9_isWord rfl (hS.lt (hc 1 rfl)) rfl ⟨rfl, rfl⟩ ⟨⟨Nat.le_of_ble_eq_true rfl, Nat.le_of_ble_eq_true rfl⟩, Nat.zero_le _, Nat.zero_le _⟩ (Nat.le_of_ble_eq_true rfl) ?_
          refine ev_ifb_eq 83 dX6_readGriddle_68 (by decide) (fun h10 => ?_) (fun h10 => ?_)
          · rw [if_neg h10] at hf
            refine ev_aload_n dX6_readGriddle_83 0 rfl ?_
            refine ev_getK 0 dX6_readGriddle_84 (hS.lt (hc 3 rfl)) rfl (hS.K1 (hc 3 rfl) rfl) ciX6 (by decide) rfl flX6_15 ?_
            refine ev_getsW 4 dX6_readGriddle_87 (by decide) rfl flX6_68 ?_
            obtain ⟨v11, hv11, hf⟩ := Option.bind_eq_some_iff.mp hf
            refine cl_V1 (As := [vr g 1004]) (st := []) miX9_isWord (tX9_isWord hS (hc.w rfl rfl) 1004 μ (⟨by decide, by decide⟩) hv11) dX6_readGriddle_90 lkX6_49 inX9_isWord rfl (hS.lt (hc 1 rfl)) rfl ⟨rfl, rfl⟩ ⟨⟨Nat.le_of_ble_eq_true rfl, Nat.le_of_ble_eq_true rfl⟩, Nat.zero_le _, Nat.zero_le _⟩ (Nat.le_of_ble_eq_true rfl) ?_
            refine ev_ifb_eq 108 dX6_readGriddle_93 (by decide) (fun h12 => ?_) (fun h12 => ?_)
            · rw [if_neg h12] at hf
              refine ev_aload_n dX6_readGriddle_108 0 rfl ?_
              refine ev_iconst dX6_readGriddle_109 ?_
              obtain ⟨q13, hq13, hf⟩ := lt_elim hf
              refine cl_V1 (As := [vi 1]) (st := []) miX6_wrong (tX6_wrong hS (hc.w rfl rfl) 1 μ hq13.symm) dX6_readGriddle_110 lkX6_74 inX6_wrong rfl (hS.lt (hc 3 rfl)) rfl ⟨rfl, rfl⟩ ⟨⟨Nat.le_of_ble_eq_true rfl, Nat.le_of_ble_eq_true rfl⟩, Nat.zero_le _, Nat.zero_le _⟩ (Nat.le_of_ble_eq_true rfl) ?_
              refine ev_pop dX6_readGriddle_113 rfl ?_
              refine ev_iinc (al2 := [(2, vi (v3 + 1)), (0, vr g 3), (1, vr g draft)]) dX6_readGriddle_114 2 rfl (by decide) rfl ?_
              refine ev_goto 10 dX6_readGriddle_117 (by decide) ?_
              obtain rfl := Option.some.inj hf
              refine ev_sub [1, 2, 0] rfl ?_
              exact hr
            · rw [if_pos h12] at hf
              refine ev_aload_n dX6_readGriddle_96 0 rfl ?_
              refine ev_aload_n dX6_readGriddle_97 1 rfl ?_
              refine cl_V1 (As := []) (st := [vr g 3]) miX2_costs (tX2_costs hS (hc.w rfl rfl) draft μ hdraft rfl) dX6_readGriddle_98 lkX6_71 inX2_costs rfl (hS.lt (hc _ (inR_w (i_Gr0 hdraft) rfl rfl))) (s_Gr0 hdraft) ⟨rfl, rfl⟩ ⟨⟨Nat.le_of_ble_eq_true rfl, Nat.le_of_ble_eq_true rfl⟩, Nat.zero_le _, Nat.zero_le _⟩ (Nat.le_of_ble_eq_true rfl) ?_
              obtain ⟨q14, hq14, hf⟩ := Option.bind_eq_some_iff.mp hf
              refine cl_V1 (As := [vr g (draft + 7)]) (st := []) miX6_readLaw (tX6_readLaw hS (hc.w rfl rfl) (draft + 7) μ (lw_Gr7 hdraft) hq14) dX6_readGriddle_101 lkX6_64 inX6_readLaw rfl (hS.lt (hc 3 rfl)) rfl ⟨rfl, rfl⟩ ⟨⟨Nat.le_of_ble_eq_true rfl, Nat.le_of_ble_eq_true rfl⟩, Nat.zero_le _, Nat.zero_le _⟩ (Nat.le_of_ble_eq_true rfl) ?_
              refine ev_pop dX6_readGriddle_104 rfl ?_
              refine ev_goto 114 dX6_readGriddle_105 (by decide) ?_
              refine ev_iinc (al2 := [(2, vi (v3 + 1)), (0, vr g 3), (1, vr g draft)]) dX6_readGriddle_114 2 rfl (by decide) rfl ?_
              refine ev_goto 10 dX6_readGriddle_117 (by decide) ?_
              obtain rfl := Option.some.inj hf
              refine ev_sub [1, 2, 0] rfl ?_
              exact hr
          · rw [if_pos h10] at hf
            refine ev_aload_n dX6_readGriddle_71 0 rfl ?_
            refine ev_aload_n dX6_readGriddle_72 1 rfl ?_
            refine cl_V1 (As := []) (st := [vr g 3]) miX2_bars (tX2_bars hS (hc.w rfl rfl) draft μ hdraft rfl) dX6_readGriddle_73 lkX6_60 inX2_bars rfl (hS.lt (hc _ (inR_w (i_Gr0 hdraft) rfl rfl))) (s_Gr0 hdraft) ⟨rfl, rfl⟩ ⟨⟨Nat.le_of_ble_eq_true rfl, Nat.le_of_ble_eq_true rfl⟩, Nat.zero_le _, Nat.zero_le _⟩ (Nat.le_of_ble_eq_true rfl) ?_
            obtain ⟨q15, hq15, hf⟩ := Option.bind_eq_some_iff.mp hf
            refine cl_V1 (As := [vr g (draft + 4)]) (st := []) miX6_readLaw (tX6_readLaw hS (hc.w rfl rfl) (draft + 4) μ (lw_Gr4 hdraft) hq15) dX6_readGriddle_76 lkX6_64 inX6_readLaw rfl (hS.lt (hc 3 rfl)) rfl ⟨rfl, rfl⟩ ⟨⟨Nat.le_of_ble_eq_true rfl, Nat.le_of_ble_eq_true rfl⟩, Nat.zero_le _, Nat.zero_le _⟩ (Nat.le_of_ble_eq_true rfl) ?_
            refine ev_pop dX6_readGriddle_79 rfl ?_
            refine ev_goto 114 dX6_readGriddle_80 (by decide) ?_
            refine ev_iinc (al2 := [(2, vi (v3 + 1)), (0, vr g 3), (1, vr g draft)]) dX6_readGriddle_114 2 rfl (by decide) rfl ?_
            refine ev_goto 10 dX6_readGriddle_117 (by decide) ?_
            obtain rfl := Option.some.inj hf
            refine ev_sub [1, 2, 0] rfl ?_
            exact hr
        · rw [if_pos h8] at hf
          refine ev_aload_n dX6_readGriddle_49 0 rfl ?_
          refine ev_aload_n dX6_readGriddle_50 1 rfl ?_
          obtain ⟨q16, hq16, hf⟩ := Option.bind_eq_some_iff.mp hf
          refine cl_V1 (As := [vr g draft]) (st := []) miX6_readCake (tX6_readCake hS (hc.w rfl rfl) draft μ hdraft hq16) dX6_readGriddle_51 lkX6_53 inX6_readCake rfl (hS.lt (hc 3 rfl)) rfl ⟨rfl, rfl⟩ ⟨⟨Nat.le_of_ble_eq_true rfl, Nat.le_of_ble_eq_true rfl⟩, Nat.zero_le _, Nat.zero_le _⟩ (Nat.le_of_ble_eq_true rfl) ?_
          refine ev_pop dX6_readGriddle_54 rfl ?_
          refine ev_goto 114 dX6_readGriddle_55 (by decide) ?_
          refine ev_iinc (al2 := [(2, vi (v3 + 1)), (0, vr g 3), (1, vr g draft)]) dX6_readGriddle_114 2 rfl (by decide) rfl ?_
          refine ev_goto 10 dX6_readGriddle_117 (by decide) ?_
          obtain rfl := Option.some.inj hf
          refine ev_sub [1, 2, 0] rfl ?_
          exact hr
def fX6_readGriddle (draft : Nat) (μ : Mem) : Option (Int × Mem) :=
  lt (fX2_clear draft μ) fun μ1 =>
  (fX6_begin μ1).bind fun μ2 =>
  (loopN (fun s => fX6_readGriddle_b10 draft s.1 s.2) FU (0, μ2)).bind fun q17 =>
  lt (fX6_finish q17) fun q18 =>
  some ((q18.1, q18.2))
set_option maxRecDepth 4000 in
theorem eX6_readGriddle (hS : Sd M K P L) (hc : CIn P 1 39) (draft : Nat) (μ : Mem) (hdraft : isGr draft) {o : Int × Mem} (hf : fX6_readGriddle draft μ = some o) (hr : (fun o : Int × Mem => Φ (some (vi o.1)) M x (L o.2)) o) : Ev l D cy g K yX6_readGriddle cX6_readGriddle 3 (some .int) (rmd 56 0 0) (MX D cy g K (rmd 56 0 0) Φ) 0 0 M x (L μ) 0 [(0, vr g 3), (1, vr g draft)] [] := by
  unfold fX6_readGriddle at hf
  refine ev_aload_n dX6_readGriddle_0 1 rfl ?_
  obtain ⟨μ1, hμ1, hf⟩ := lt_elim hf
  refine cl_V0 (As := []) (st := []) miX2_clear (tX2_clear hS (hc.w rfl rfl) draft μ hdraft hμ1.symm) dX6_readGriddle_1 lkX6_26 inX2_clear rfl (hS.lt (hc _ (inR_w (i_Gr0 hdraft) rfl rfl))) (s_Gr0 hdraft) ⟨rfl, rfl⟩ ⟨⟨Nat.le_of_ble_eq_true rfl, Nat.le_of_ble_eq_true rfl⟩, Nat.zero_le _, Nat.zero_le _⟩ (Nat.le_of_ble_eq_true rfl) ?_
  refine ev_aload_n dX6_readGriddle_4 0 rfl ?_
  obtain ⟨μ2, hμ2, hf⟩ := Option.bind_eq_some_iff.mp hf
  refine cl_V0 (As := []) (st := []) miX6_begin (tX6_begin hS (hc.w rfl rfl) μ1 hμ2) dX6_readGriddle_5 lkX6_31 inX6_begin rfl (hS.lt (hc 3 rfl)) rfl ⟨rfl, rfl⟩ ⟨⟨Nat.le_of_ble_eq_true rfl, Nat.le_of_ble_eq_true rfl⟩, Nat.zero_le _, Nat.zero_le _⟩ (Nat.le_of_ble_eq_true rfl) ?_
  refine ev_iconst dX6_readGriddle_8 ?_
  refine ev_istore_n (al2 := [(2, vi 0), (0, vr g 3), (1, vr g draft)]) dX6_readGriddle_9 2 rfl (by decide) rfl ?_
  obtain ⟨q17, hq17, hf⟩ := Option.bind_eq_some_iff.mp hf
  refine ev_sub [1, 2, 0] rfl ?_
  refine loop_ev (H := (fun s : Int × Mem => Ev l D cy g K yX6_readGriddle cX6_readGriddle 3 (some .int) (rmd 56 0 0) (MX D cy g K (rmd 56 0 0) Φ) 0 0 M x (L s.2) 10 [(0, vr g 3), (1, vr g draft), (2, vi s.1)] [])) (Hx := (fun e : Mem => Ev l D cy g K yX6_readGriddle cX6_readGriddle 3 (some .int) (rmd 56 0 0) (MX D cy g K (rmd 56 0 0) Φ) 0 0 M x (L e) 120 [(0, vr g 3)] [])) (fun s o hb hr => tX6_readGriddle_b10 hS hc draft s.1 s.2 hdraft hb hr) FU _ _ hq17 ?_
  show Ev l D cy g K yX6_readGriddle cX6_readGriddle 3 (some .int) (rmd 56 0 0) (MX D cy g K (rmd 56 0 0) Φ) 0 0 M x (L q17) 120 [(0, vr g 3)] []
  refine ev_aload_n dX6_readGriddle_120 0 rfl ?_
  obtain ⟨q18, hq18, hf⟩ := lt_elim hf
  refine cl_V1 (As := []) (st := []) miX6_finish (tX6_finish hS (hc.w rfl rfl) q17 hq18.symm) dX6_readGriddle_121 lkX6_78 inX6_finish rfl (hS.lt (hc 3 rfl)) rfl ⟨rfl, rfl⟩ ⟨⟨Nat.le_of_ble_eq_true rfl, Nat.le_of_ble_eq_true rfl⟩, Nat.zero_le _, Nat.zero_le _⟩ (Nat.le_of_ble_eq_true rfl) ?_
  obtain rfl := Option.some.inj hf
  exact ev_iret dX6_readGriddle_124 rfl ⟨Nat.zero_le _, Nat.zero_le _⟩ hr
theorem tX6_readGriddle (hS : Sd M K P L) (hc : CIn P 1 39) (draft : Nat) (μ : Mem) (hdraft : isGr draft) {o : Int × Mem} (hf : fX6_readGriddle draft μ = some o) : Cn l D cy g K K yX6_readGriddle cX6_readGriddle 3 (some .int) (rmd 56 0 0) [vr g 3, vr g draft] M x (L μ) (PE (some (vi o.1)) M x (L o.2)) :=
 Cn.of (by decide) (Nat.le_of_ble_eq_true rfl) (eX6_readGriddle hS hc draft μ hdraft hf (PE_i _ _ _ _))
def fX4_clear  (μ : Mem) : Mem :=
  lt (upd2 μ 39 1 0) fun μ1 =>
  μ1
set_option maxRecDepth 4000 in
theorem eX4_clear (hS : Sd M K P L) (hc : CIn P 39 40)  (μ : Mem)  {o : Mem} (hf : fX4_clear  μ = o) (hr : (fun o : Mem => Φ none M x (L o)) o) : Ev l D cy g K yX4_clear cX4_clear 1 none (rmd 1 0 0) (MX D cy g K (rmd 1 0 0) Φ) 0 0 M x (L μ) 0 [(0, vr g 39)] [] := by
  unfold fX4_clear at hf
  refine ev_aload_n dX4_clear_0 0 rfl ?_
  refine ev_iconst dX4_clear_1 ?_
  obtain ⟨μ1, hμ1, hf⟩ := lt_elim hf
  refine ev_putI 1 dX4_clear_2 (hS.lt (hc 39 rfl)) rfl ciX4 (by decide) (Or.inl rfl) rfl rfl flX4_15 (hS.up (hc 39 rfl) hμ1) ?_
  obtain rfl := hf
  exact ev_vret dX4_clear_5 rfl ⟨Nat.zero_le _, Nat.zero_le _⟩ hr
theorem tX4_clear (hS : Sd M K P L) (hc : CIn P 39 40) (μ : Mem) {o : Mem} (hf : fX4_clear μ = o) : Cn l D cy g K K yX4_clear cX4_clear 1 none (rmd 1 0 0) [vr g 39] M x (L μ) (PE none M x (L o)) :=
 Cn.of (by decide) (Nat.le_of_ble_eq_true rfl) (eX4_clear hS hc μ hf (PE_i _ _ _ _))
def fX5_clear (k : Nat) (μ : Mem) : Mem :=
  lt (upd2 μ k 0 0) fun μ1 =>
  μ1
set_option maxRecDepth 4000 in
theorem eX5_clear (hS : Sd M K P L) (hc : CIn P 1 75) (k : Nat) (μ : Mem) (hk : isMo k) {o : Mem} (hf : fX5_clear k μ = o) (hr : (fun o : Mem => Φ none M x (L o)) o) : Ev l D cy g K yX5_clear cX5_clear 1 none (rmd 1 0 0) (MX D cy g K (rmd 1 0 0) Φ) 0 0 M x (L μ) 0 [(0, vr g k)] [] := by
  unfold fX5_clear at hf
  refine ev_aload_n dX5_clear_0 0 rfl ?_
  refine ev_iconst dX5_clear_1 ?_
  obtain ⟨μ1, hμ1, hf⟩ := lt_elim hf
  refine ev_putZ (b := false) 0 dX5_clear_2 (hS.lt (hc _ (inR_w (i_Mo0 hk) rfl rfl))) (s_Mo0 hk) ciX5 (by decide) (Or.inl rfl) rfl rfl flX5_15 (hS.up (hc _ (inR_w (i_Mo0 hk) rfl rfl)) hμ1) ?_
  obtain rfl := hf
  exact ev_vret dX5_clear_5 rfl ⟨Nat.zero_le _, Nat.zero_le _⟩ hr
theorem tX5_clear (hS : Sd M K P L) (hc : CIn P 1 75) (k : Nat) (μ : Mem) (hk : isMo k) {o : Mem} (hf : fX5_clear k μ = o) : Cn l D cy g K K yX5_clear cX5_clear 1 none (rmd 1 0 0) [vr g k] M x (L μ) (PE none M x (L o)) :=
 Cn.of (by decide) (Nat.le_of_ble_eq_true rfl) (eX5_clear hS hc k μ hk hf (PE_i _ _ _ _))
def fX8_forget (k : Nat) (μ : Mem) : Mem :=
  lt (upd2 μ k 5 0) fun μ1 =>
  μ1
set_option maxRecDepth 4000 in
theorem eX8_forget (hS : Sd M K P L) (hc : CIn P 1 75) (k : Nat) (μ : Mem) (hk : isSt k) {o : Mem} (hf : fX8_forget k μ = o) (hr : (fun o : Mem => Φ none M x (L o)) o) : Ev l D cy g K yX8_forget cX8_forget 1 none (rmd 1 0 0) (MX D cy g K (rmd 1 0 0) Φ) 0 0 M x (L μ) 0 [(0, vr g k)] [] := by
  unfold fX8_forget at hf
  refine ev_aload_n dX8_forget_0 0 rfl ?_
  refine ev_iconst dX8_forget_1 ?_
  obtain ⟨μ1, hμ1, hf⟩ := lt_elim hf
  refine ev_putZ (b := false) 5 dX8_forget_2 (hS.lt (hc _ (inR_w (i_St0 hk) rfl rfl))) (s_St0 hk) ciX8 (by decide) (Or.inl rfl) rfl rfl flX8_30 (hS.up (hc _ (inR_w (i_St0 hk) rfl rfl)) hμ1) ?_
  obtain rfl := hf
  exact ev_vret dX8_forget_5 rfl ⟨Nat.zero_le _, Nat.zero_le _⟩ hr
theorem tX8_forget (hS : Sd M K P L) (hc : CIn P 1 75) (k : Nat) (μ : Mem) (hk : isSt k) {o : Mem} (hf : fX8_forget k μ = o) : Cn l D cy g K K yX8_forget cX8_forget 1 none (rmd 1 0 0) [vr g k] M x (L μ) (PE none M x (L o)) :=
 Cn.of (by decide) (Nat.le_of_ble_eq_true rfl) (eX8_forget hS hc k μ hk hf (PE_i _ _ _ _))
def fX0_forget  (μ : Mem) : Mem :=
  lt (upd2 μ 53 2 0) fun μ1 =>
  μ1
set_option maxRecDepth 4000 in
theorem eX0_forget (hS : Sd M K P L) (hc : CIn P 39 54)  (μ : Mem)  {o : Mem} (hf : fX0_forget  μ = o) (hr : (fun o : Mem => Φ none M x (L o)) o) : Ev l D cy g K yX0_forget cX0_forget 1 none (rmd 1 0 0) (MX D cy g K (rmd 1 0 0) Φ) 0 0 M x (L μ) 0 [(0, vr g 53)] [] := by
  unfold fX0_forget at hf
  refine ev_aload_n dX0_forget_0 0 rfl ?_
  refine ev_iconst dX0_forget_1 ?_
  obtain ⟨μ1, hμ1, hf⟩ := lt_elim hf
  refine ev_putZ (b := false) 2 dX0_forget_2 (hS.lt (hc 53 rfl)) rfl ciX0 (by decide) (Or.inl rfl) rfl rfl flX0_19 (hS.up (hc 53 rfl) hμ1) ?_
  obtain rfl := hf
  exact ev_vret dX0_forget_5 rfl ⟨Nat.zero_le _, Nat.zero_le _⟩ hr
theorem tX0_forget (hS : Sd M K P L) (hc : CIn P 39 54) (μ : Mem) {o : Mem} (hf : fX0_forget μ = o) : Cn l D cy g K K yX0_forget cX0_forget 1 none (rmd 1 0 0) [vr g 53] M x (L μ) (PE none M x (L o)) :=
 Cn.of (by decide) (Nat.le_of_ble_eq_true rfl) (eX0_forget hS hc μ hf (PE_i _ _ _ _))
def fX1_forget  (μ : Mem) : Mem :=
  lt (upd2 μ 55 2 0) fun μ1 =>
  μ1
set_option maxRecDepth 4000 in
theorem eX1_forget (hS : Sd M K P L) (hc : CIn P 39 56)  (μ : Mem)  {o : Mem} (hf : fX1_forget  μ = o) (hr : (fun o : Mem => Φ none M x (L o)) o) : Ev l D cy g K yX1_forget cX1_forget 1 none (rmd 1 0 0) (MX D cy g K (rmd 1 0 0) Φ) 0 0 M x (L μ) 0 [(0, vr g 55)] [] := by
  unfold fX1_forget at hf
  refine ev_aload_n dX1_forget_0 0 rfl ?_
  refine ev_iconst dX1_forget_1 ?_
  obtain ⟨μ1, hμ1, hf⟩ := lt_elim hf
  refine ev_putZ (b := false) 2 dX1_forget_2 (hS.lt (hc 55 rfl)) rfl ciX1 (by decide) (Or.inl rfl) rfl rfl flX1_19 (hS.up (hc 55 rfl) hμ1) ?_
  obtain rfl := hf
  exact ev_vret dX1_forget_5 rfl ⟨Nat.zero_le _, Nat.zero_le _⟩ hr
theorem tX1_forget (hS : Sd M K P L) (hc : CIn P 39 56) (μ : Mem) {o : Mem} (hf : fX1_forget μ = o) : Cn l D cy g K K yX1_forget cX1_forget 1 none (rmd 1 0 0) [vr g 55] M x (L μ) (PE none M x (L o)) :=
 Cn.of (by decide) (Nat.le_of_ble_eq_true rfl) (eX1_forget hS hc μ hf (PE_i _ _ _ _))
def fX11_beginAnew_b33 (v6 : Int) (μ : Mem) : Option ((Int × Mem) ⊕ (Mem)) :=
  if w32 v6 < w32 4 then
    gd (0 ≤ w32 v6 ∧ w32 v6 < 4) <|
    lt (57 + 2 * (w32 v6).toNat) fun r9 =>
    lt (fX5_clear r9 μ) fun μ10 =>
    some (.inl ((v6 + 1), μ10))
  else
    some (.inr μ)
set_option maxRecDepth 4000 in
theorem tX11_beginAnew_b33 (hS : Sd M K P L) (hc : CIn P 0 75) (v6 : Int) (μ : Mem)  {o : (Int × Mem) ⊕ (Mem)} (hf : fX11_beginAnew_b33 v6 μ = some o) (hr : (Sum.elim (fun s : Int × Mem => Ev l D cy g K yX11_beginAnew cX11_beginAnew 2 none (rmd 5 0 0) (MX D cy g K (rmd 5 0 0) Φ) 0 0 M x (L s.2) 33 [(0, vr g 0), (1, vi s.1)] []) (fun e : Mem => Ev l D cy g K yX11_beginAnew cX11_beginAnew 2 none (rmd 5 0 0) (MX D cy g K (rmd 5 0 0) Φ) 0 0 M x (L e) 57 [(0, vr g 0)] [])) o) : Ev l D cy g K yX11_beginAnew cX11_beginAnew 2 none (rmd 5 0 0) (MX D cy g K (rmd 5 0 0) Φ) 0 0 M x (L μ) 33 [(0, vr g 0), (1, vi v6)] [] := by
  unfold fX11_beginAnew_b33 at hf
  refine ev_iload_n dX11_beginAnew_33 1 rfl ?_
  refine ev_aload_n dX11_beginAnew_34 0 rfl ?_
  refine ev_getK 8 dX11_beginAnew_35 (hS.lt (hc 0 rfl)) rfl (hS.K1 (hc 0 rfl) rfl) ciX11 (by decide) rfl flX11_62 ?_
  refine ev_alenM dX11_beginAnew_38 (hS.lt (hc 43 rfl)) rfl ?_
  refine ev_rn (w := vi 4) rfl ?_
  refine ev_icmp_ge 57 dX11_beginAnew_39 (by decide) (fun h7 => ?_) (fun h7 => ?_)
  · rw [if_neg h7] at hf
    obtain rfl := Option.some.inj hf
    refine ev_sub [0] rfl ?_
    exact hr
  · rw [if_pos h7] at hf
    refine ev_aload_n dX11_beginAnew_42 0 rfl ?_
    refine ev_getK 8 dX11_beginAnew_43 (hS.lt (hc 0 rfl)) rfl (hS.K1 (hc 0 rfl) rfl) ciX11 (by decide) rfl flX11_62 ?_
    refine ev_iload_n dX11_beginAnew_46 1 rfl ?_
    obtain ⟨g8, hf⟩ := gd_elim hf
    refine ev_aaldM (r := 57 + 2 * (w32 v6).toNat) dX11_beginAnew_47 (hS.lt (hc 43 rfl)) rfl g8 (hS.K1 (hc 43 rfl) (mo_m g8).1) ?_
    obtain ⟨r9, hr9, hf⟩ := lt_elim hf
    refine ev_rn (congrArg (vr g) hr9) ?_
    have kr9 : isMo r9 := by rw [hr9]; exact (mo_m g8).2
    obtain ⟨μ10, hμ10, hf⟩ := lt_elim hf
    refine cl_V0 (As := []) (st := []) miX5_clear (tX5_clear hS (hc.w rfl rfl) r9 μ kr9 hμ10.symm) dX11_beginAnew_48 lkX11_362 inX5_clear rfl (hS.lt (hc _ (inR_w (i_Mo0 kr9) rfl rfl))) (s_Mo0 kr9) ⟨rfl, rfl⟩ ⟨⟨Nat.le_of_ble_eq_true rfl, Nat.le_of_ble_eq_true rfl⟩, Nat.zero_le _, Nat.zero_le _⟩ (Nat.le_of_ble_eq_true rfl) ?_
    refine ev_iinc (al2 := [(1, vi (v6 + 1)), (0, vr g 0)]) dX11_beginAnew_51 1 rfl (by decide) rfl ?_
    refine ev_goto 33 dX11_beginAnew_54 (by decide) ?_
    obtain rfl := Option.some.inj hf
    refine ev_sub [1, 0] rfl ?_
    exact hr
def fX11_beginAnew_b66 (v13 : Int) (μ : Mem) : Option ((Int × Mem) ⊕ (Mem)) :=
  if w32 v13 < w32 5 then
    gd (0 ≤ w32 v13 ∧ w32 v13 < 5) <|
    lt (65 + 2 * (w32 v13).toNat) fun r16 =>
    lt (fX8_forget r16 μ) fun μ17 =>
    some (.inl ((v13 + 1), μ17))
  else
    some (.inr μ)
set_option maxRecDepth 4000 in
theorem tX11_beginAnew_b66 (hS : Sd M K P L) (hc : CIn P 0 75) (v13 : Int) (μ : Mem)  {o : (Int × Mem) ⊕ (Mem)} (hf : fX11_beginAnew_b66 v13 μ = some o) (hr : (Sum.elim (fun s : Int × Mem => Ev l D cy g K yX11_beginAnew cX11_beginAnew 2 none (rmd 5 0 0) (MX D cy g K (rmd 5 0 0) Φ) 0 0 M x (L s.2) 66 [(0, vr g 0), (1, vi s.1)] []) (fun e : Mem => Ev l D cy g K yX11_beginAnew cX11_beginAnew 2 none (rmd 5 0 0) (MX D cy g K (rmd 5 0 0) Φ) 0 0 M x (L e) 90 [(0, vr g 0)] [])) o) : Ev l D cy g K yX11_beginAnew cX11_beginAnew 2 none (rmd 5 0 0) (MX D cy g K (rmd 5 0 0) Φ) 0 0 M x (L μ) 66 [(0, vr g 0), (1, vi v13)] [] := by
  unfold fX11_beginAnew_b66 at hf
  refine ev_iload_n dX11_beginAnew_66 1 rfl ?_
  refine ev_aload_n dX11_beginAnew_67 0 rfl ?_
  refine ev_getK 13 dX11_beginAnew_68 (hS.lt (hc 0 rfl)) rfl (hS.K1 (hc 0 rfl) rfl) ciX11 (by decide) rfl flX11_82 ?_
  refine ev_alenS dX11_beginAnew_71 (hS.lt (hc 48 rfl)) rfl ?_
  refine ev_rn (w := vi 5) rfl ?_
  refine ev_icmp_ge 90 dX11_beginAnew_72 (by decide) (fun h14 => ?_) (fun h14 => ?_)
  · rw [if_neg h14] at hf
    obtain rfl := Option.some.inj hf
    refine ev_sub [0] rfl ?_
    exact hr
  · rw [if_pos h14] at hf
    refine ev_aload_n dX11_beginAnew_75 0 rfl ?_
    refine ev_getK 13 dX11_beginAnew_76 (hS.lt (hc 0 rfl)) rfl (hS.K1 (hc 0 rfl) rfl) ciX11 (by decide) rfl flX11_82 ?_
    refine ev_iload_n dX11_beginAnew_79 1 rfl ?_
    obtain ⟨g15, hf⟩ := gd_elim hf
    refine ev_aaldS (r := 65 + 2 * (w32 v13).toNat) dX11_beginAnew_80 (hS.lt (hc 48 rfl)) rfl g15 (hS.K1 (hc 48 rfl) (st_m g15).1) ?_
    obtain ⟨r16, hr16, hf⟩ := lt_elim hf
    refine ev_rn (congrArg (vr g) hr16) ?_
    have kr16 : isSt r16 := by rw [hr16]; exact (st_m g15).2
    obtain ⟨μ17, hμ17, hf⟩ := lt_elim hf
    refine cl_V0 (As := []) (st := []) miX8_forget (tX8_forget hS (hc.w rfl rfl) r16 μ kr16 hμ17.symm) dX11_beginAnew_81 lkX11_363 inX8_forget rfl (hS.lt (hc _ (inR_w (i_St0 kr16) rfl rfl))) (s_St0 kr16) ⟨rfl, rfl⟩ ⟨⟨Nat.le_of_ble_eq_true rfl, Nat.le_of_ble_eq_true rfl⟩, Nat.zero_le _, Nat.zero_le _⟩ (Nat.le_of_ble_eq_true rfl) ?_
    refine ev_iinc (al2 := [(1, vi (v13 + 1)), (0, vr g 0)]) dX11_beginAnew_84 1 rfl (by decide) rfl ?_
    refine ev_goto 66 dX11_beginAnew_87 (by decide) ?_
    obtain rfl := Option.some.inj hf
    refine ev_sub [1, 0] rfl ?_
    exact hr
def fX11_beginAnew  (μ : Mem) : Option (Mem) :=
  lt (fX4_clear μ) fun μ1 =>
  lt (upd2 μ1 0 6 (-1)) fun μ2 =>
  (fX7_told μ2).bind fun q3 =>
  lt (fX5_begin 41 q3.1 q3.2) fun μ4 =>
  lt (upd2 μ4 0 11 0) fun μ5 =>
  (loopN (fun s => fX11_beginAnew_b33 s.1 s.2) FU (0, μ5)).bind fun q11 =>
  lt (fX8_forget 46 q11) fun μ12 =>
  (loopN (fun s => fX11_beginAnew_b66 s.1 s.2) FU (0, μ12)).bind fun q18 =>
  lt (fX8_forget 49 q18) fun μ19 =>
  lt (fX8_forget 51 μ19) fun μ20 =>
  lt (fX0_forget μ20) fun μ21 =>
  lt (fX1_forget μ21) fun μ22 =>
  some (μ22)
set_option maxRecDepth 4000 in
theorem eX11_beginAnew (hS : Sd M K P L) (hc : CIn P 0 75)  (μ : Mem)  {o : Mem} (hf : fX11_beginAnew  μ = some o) (hr : (fun o : Mem => Φ none M x (L o)) o) : Ev l D cy g K yX11_beginAnew cX11_beginAnew 2 none (rmd 5 0 0) (MX D cy g K (rmd 5 0 0) Φ) 0 0 M x (L μ) 0 [(0, vr g 0)] [] := by
  unfold fX11_beginAnew at hf
  refine ev_aload_n dX11_beginAnew_0 0 rfl ?_
  refine ev_getK 5 dX11_beginAnew_1 (hS.lt (hc 0 rfl)) rfl (hS.K1 (hc 0 rfl) rfl) ciX11 (by decide) rfl flX11_47 ?_
  obtain ⟨μ1, hμ1, hf⟩ := lt_elim hf
  refine cl_V0 (As := []) (st := []) miX4_clear (tX4_clear hS (hc.w rfl rfl) μ hμ1.symm) dX11_beginAnew_4 lkX11_359 inX4_clear rfl (hS.lt (hc 39 rfl)) rfl ⟨rfl, rfl⟩ ⟨⟨Nat.le_of_ble_eq_true rfl, Nat.le_of_ble_eq_true rfl⟩, Nat.zero_le _, Nat.zero_le _⟩ (Nat.le_of_ble_eq_true rfl) ?_
  refine ev_aload_n dX11_beginAnew_7 0 rfl ?_
  refine ev_iconst dX11_beginAnew_8 ?_
  obtain ⟨μ2, hμ2, hf⟩ := lt_elim hf
  refine ev_putI 6 dX11_beginAnew_9 (hS.lt (hc 0 rfl)) rfl ciX11 (by decide) (Or.inl rfl) rfl rfl flX11_51 (hS.up (hc 0 rfl) hμ2) ?_
  refine ev_aload_n dX11_beginAnew_12 0 rfl ?_
  refine ev_getK 7 dX11_beginAnew_13 (hS.lt (hc 0 rfl)) rfl (hS.K1 (hc 0 rfl) rfl) ciX11 (by decide) rfl flX11_58 ?_
  refine ev_aload_n dX11_beginAnew_16 0 rfl ?_
  refine ev_getK 4 dX11_beginAnew_17 (hS.lt (hc 0 rfl)) rfl (hS.K1 (hc 0 rfl) rfl) ciX11 (by decide) rfl flX11_40 ?_
  obtain ⟨q3, hq3, hf⟩ := Option.bind_eq_some_iff.mp hf
  refine cl_V1 (As := []) (st := [vr g 41]) miX7_told (tX7_told hS (hc.w rfl rfl) μ2 hq3) dX11_beginAnew_20 lkX11_108 inX7_told rfl (hS.lt (hc 25 rfl)) rfl ⟨rfl, rfl⟩ ⟨⟨Nat.le_of_ble_eq_true rfl, Nat.le_of_ble_eq_true rfl⟩, Nat.zero_le _, Nat.zero_le _⟩ (Nat.le_of_ble_eq_true rfl) ?_
  obtain ⟨μ4, hμ4, hf⟩ := lt_elim hf
  refine cl_V0 (As := [vi q3.1]) (st := []) miX5_begin (tX5_begin hS (hc.w rfl rfl) 41 q3.1 q3.2 (by simp [isMo]) hμ4.symm) dX11_beginAnew_23 lkX11_112 inX5_begin rfl (hS.lt (hc 41 rfl)) rfl ⟨rfl, rfl⟩ ⟨⟨Nat.le_of_ble_eq_true rfl, Nat.le_of_ble_eq_true rfl⟩, Nat.zero_le _, Nat.zero_le _⟩ (Nat.le_of_ble_eq_true rfl) ?_
  refine ev_aload_n dX11_beginAnew_26 0 rfl ?_
  refine ev_iconst dX11_beginAnew_27 ?_
  obtain ⟨μ5, hμ5, hf⟩ := lt_elim hf
  refine ev_putI 11 dX11_beginAnew_28 (hS.lt (hc 0 rfl)) rfl ciX11 (by decide) (Or.inl rfl) rfl rfl flX11_198 (hS.up (hc 0 rfl) hμ5) ?_
  refine ev_iconst dX11_beginAnew_31 ?_
  refine ev_istore_n (al2 := [(1, vi 0), (0, vr g 0)]) dX11_beginAnew_32 1 rfl (by decide) rfl ?_
  obtain ⟨q11, hq11, hf⟩ := Option.bind_eq_some_iff.mp hf
  refine ev_sub [1, 0] rfl ?_
  refine loop_ev (H := (fun s : Int × Mem => Ev l D cy g K yX11_beginAnew cX11_beginAnew 2 none (rmd 5 0 0) (MX D cy g K (rmd 5 0 0) Φ) 0 0 M x (L s.2) 33 [(0, vr g 0), (1, vi s.1)] [])) (Hx := (fun e : Mem => Ev l D cy g K yX11_beginAnew cX11_beginAnew 2 none (rmd 5 0 0) (MX D cy g K (rmd 5 0 0) Φ) 0 0 M x (L e) 57 [(0, vr g 0)] [])) (fun s o hb hr => tX11_beginAnew_b33 hS hc s.1 s.2 hb hr) FU _ _ hq11 ?_
  show Ev l D cy g K yX11_beginAnew cX11_beginAnew 2 none (rmd 5 0 0) (MX D cy g K (rmd 5 0 0) Φ) 0 0 M x (L q11) 57 [(0, vr g 0)] []
  refine ev_aload_n dX11_beginAnew_57 0 rfl ?_
  refine ev_getK 12 dX11_beginAnew_58 (hS.lt (hc 0 rfl)) rfl (hS.K1 (hc 0 rfl) rfl) ciX11 (by decide) rfl flX11_78 ?_
  obtain ⟨μ12, hμ12, hf⟩ := lt_elim hf
  refine cl_V0 (As := []) (st := []) miX8_forget (tX8_forget hS (hc.w rfl rfl) 46 q11 (by simp [isSt]) hμ12.symm) dX11_beginAnew_61 lkX11_363 inX8_forget rfl (hS.lt (hc 46 rfl)) rfl ⟨rfl, rfl⟩ ⟨⟨Nat.le_of_ble_eq_true rfl, Nat.le_of_ble_eq_true rfl⟩, Nat.zero_le _, Nat.zero_le _⟩ (Nat.le_of_ble_eq_true rfl) ?_
  refine ev_iconst dX11_beginAnew_64 ?_
  refine ev_istore_n (al2 := [(1, vi 0), (0, vr g 0)]) dX11_beginAnew_65 1 rfl (by decide) rfl ?_
  obtain ⟨q18, hq18, hf⟩ := Option.bind_eq_some_iff.mp hf
  refine ev_sub [1, 0] rfl ?_
  refine loop_ev (H := (fun s : Int × Mem => Ev l D cy g K yX11_beginAnew cX11_beginAnew 2 none (rmd 5 0 0) (MX D cy g K (rmd 5 0 0) Φ) 0 0 M x (L s.2) 66 [(0, vr g 0), (1, vi s.1)] [])) (Hx := (fun e : Mem => Ev l D cy g K yX11_beginAnew cX11_beginAnew 2 none (rmd 5 0 0) (MX D cy g K (rmd 5 0 0) Φ) 0 0 M x (L e) 90 [(0, vr g 0)] [])) (fun s o hb hr => tX11_beginAnew_b66 hS hc s.1 s.2 hb hr) FU _ _ hq18 ?_
  show Ev l D cy g K yX11_beginAnew cX11_beginAnew 2 none (rmd 5 0 0) (MX D cy g K (rmd 5 0 0) Φ) 0 0 M x (L q18) 90 [(0, vr g 0)] []
  refine ev_aload_n dX11_beginAnew_90 0 rfl ?_
  refine ev_getK 14 dX11_beginAnew_91 (hS.lt (hc 0 rfl)) rfl (hS.K1 (hc 0 rfl) rfl) ciX11 (by decide) rfl flX11_86 ?_
  obtain ⟨μ19, hμ19, hf⟩ := lt_elim hf
  refine cl_V0 (As := []) (st := []) miX8_forget (tX8_forget hS (hc.w rfl rfl) 49 q18 (by simp [isSt]) hμ19.symm) dX11_beginAnew_94 lkX11_363 inX8_forget rfl (hS.lt (hc 49 rfl)) rfl ⟨rfl, rfl⟩ ⟨⟨Nat.le_of_ble_eq_true rfl, Nat.le_of_ble_eq_true rfl⟩, Nat.zero_le _, Nat.zero_le _⟩ (Nat.le_of_ble_eq_true rfl) ?_
  refine ev_aload_n dX11_beginAnew_97 0 rfl ?_
  refine ev_getK 15 dX11_beginAnew_98 (hS.lt (hc 0 rfl)) rfl (hS.K1 (hc 0 rfl) rfl) ciX11 (by decide) rfl flX11_89 ?_
  obtain ⟨μ20, hμ20, hf⟩ := lt_elim hf
  refine cl_V0 (As := []) (st := []) miX8_forget (tX8_forget hS (hc.w rfl rfl) 51 μ19 (by simp [isSt]) hμ20.symm) dX11_beginAnew_101 lkX11_363 inX8_forget rfl (hS.lt (hc 51 rfl)) rfl ⟨rfl, rfl⟩ ⟨⟨Nat.le_of_ble_eq_true rfl, Nat.le_of_ble_eq_true rfl⟩, Nat.zero_le _, Nat.zero_le _⟩ (Nat.le_of_ble_eq_true rfl) ?_
  refine ev_aload_n dX11_beginAnew_104 0 rfl ?_
  refine ev_getK 16 dX11_beginAnew_105 (hS.lt (hc 0 rfl)) rfl (hS.K1 (hc 0 rfl) rfl) ciX11 (by decide) rfl flX11_97 ?_
  obtain ⟨μ21, hμ21, hf⟩ := lt_elim hf
  refine cl_V0 (As := []) (st := []) miX0_forget (tX0_forget hS (hc.w rfl rfl) μ20 hμ21.symm) dX11_beginAnew_108 lkX11_366 inX0_forget rfl (hS.lt (hc 53 rfl)) rfl ⟨rfl, rfl⟩ ⟨⟨Nat.le_of_ble_eq_true rfl, Nat.le_of_ble_eq_true rfl⟩, Nat.zero_le _, Nat.zero_le _⟩ (Nat.le_of_ble_eq_true rfl) ?_
  refine ev_aload_n dX11_beginAnew_111 0 rfl ?_
  refine ev_getK 17 dX11_beginAnew_112 (hS.lt (hc 0 rfl)) rfl (hS.K1 (hc 0 rfl) rfl) ciX11 (by decide) rfl flX11_104 ?_
  obtain ⟨μ22, hμ22, hf⟩ := lt_elim hf
  refine cl_V0 (As := []) (st := []) miX1_forget (tX1_forget hS (hc.w rfl rfl) μ21 hμ22.symm) dX11_beginAnew_115 lkX11_367 inX1_forget rfl (hS.lt (hc 55 rfl)) rfl ⟨rfl, rfl⟩ ⟨⟨Nat.le_of_ble_eq_true rfl, Nat.le_of_ble_eq_true rfl⟩, Nat.zero_le _, Nat.zero_le _⟩ (Nat.le_of_ble_eq_true rfl) ?_
  obtain rfl := Option.some.inj hf
  exact ev_vret dX11_beginAnew_118 rfl ⟨Nat.zero_le _, Nat.zero_le _⟩ hr
theorem tX11_beginAnew (hS : Sd M K P L) (hc : CIn P 0 75) (μ : Mem) {o : Mem} (hf : fX11_beginAnew μ = some o) : Cn l D cy g K K yX11_beginAnew cX11_beginAnew 2 none (rmd 5 0 0) [vr g 0] M x (L μ) (PE none M x (L o)) :=
 Cn.of (by decide) (Nat.le_of_ble_eq_true rfl) (eX11_beginAnew hS hc μ hf (PE_i _ _ _ _))
def fX11_griddle  (μ : Mem) : Option (Int × Mem) :=
  gd (((μ 0 3) = 5 ∨ (μ 0 3) = 15)) <|
  lt (μ 0 3).toNat fun r2 =>
  (fX6_readGriddle r2 μ).bind fun q3 =>
  if w32 q3.1 = 0 then
    gd (((q3.2 0 2) = 5 ∨ (q3.2 0 2) = 15)) <|
    lt (q3.2 0 2).toNat fun r6 =>
    gd (((q3.2 0 3) = 5 ∨ (q3.2 0 3) = 15)) <|
    lt (q3.2 0 3).toNat fun r8 =>
    lt (upd2 q3.2 0 2 (r8 : Int)) fun μ9 =>
    lt (upd2 μ9 0 3 (r6 : Int)) fun μ10 =>
    gd (((μ10 0 2) = 5 ∨ (μ10 0 2) = 15)) <|
    lt (μ10 0 2).toNat fun r12 =>
    (fX7_learn r12 μ10).bind fun μ13 =>
    (fX11_beginAnew μ13).bind fun μ14 =>
    some ((q3.1, μ14))
  else
    some ((q3.1, q3.2))
set_option maxRecDepth 4000 in
theorem eX11_griddle (hS : Sd M K P L) (hc : CIn P 0 75)  (μ : Mem)  {o : Int × Mem} (hf : fX11_griddle  μ = some o) (hr : (fun o : Int × Mem => Φ (some (vi o.1)) M x (L o.2)) o) : Ev l D cy g K yX11_griddle cX11_griddle 3 (some .int) (rmd 57 0 0) (MX D cy g K (rmd 57 0 0) Φ) 0 0 M x (L μ) 0 [(0, vr g 0)] [] := by
  unfold fX11_griddle at hf
  refine ev_aload_n dX11_griddle_0 0 rfl ?_
  refine ev_getK 1 dX11_griddle_1 (hS.lt (hc 0 rfl)) rfl (hS.K1 (hc 0 rfl) rfl) ciX11 (by decide) rfl flX11_21 ?_
  refine ev_aload_n dX11_griddle_4 0 rfl ?_
  obtain ⟨g1, hf⟩ := gd_elim hf
  refine ev_getR 3 dX11_griddle_5 (hS.lt (hc 0 rfl)) rfl (hS.mem _ (hc 0 rfl)) (hS.K0 (hc 0 rfl) rfl) (dy_Gr g1).2 ciX11 (by decide) rfl flX11_32 ?_
  obtain ⟨r2, hr2, hf⟩ := lt_elim hf
  refine ev_rn (congrArg (vr g) hr2) ?_
  have kr2 : isGr r2 := by rw [hr2]; exact (dy_Gr g1).1
  obtain ⟨q3, hq3, hf⟩ := Option.bind_eq_some_iff.mp hf
  refine cl_V1 (As := [vr g r2]) (st := []) miX6_readGriddle (tX6_readGriddle hS (hc.w rfl rfl) r2 μ kr2 hq3) dX11_griddle_8 lkX11_123 inX6_readGriddle rfl (hS.lt (hc 3 rfl)) rfl ⟨rfl, rfl⟩ ⟨⟨Nat.le_of_ble_eq_true rfl, Nat.le_of_ble_eq_true rfl⟩, Nat.zero_le _, Nat.zero_le _⟩ (Nat.le_of_ble_eq_true rfl) ?_
  refine ev_istore_n (al2 := [(1, vi q3.1), (0, vr g 0)]) dX11_griddle_11 1 rfl (by decide) rfl ?_
  refine ev_iload_n dX11_griddle_12 0 rfl ?_
  refine ev_if_ne 49 dX11_griddle_13 (by decide) (fun h4 => ?_) (fun h4 => ?_)
  · rw [if_neg h4] at hf
    refine ev_iload_n dX11_griddle_49 0 rfl ?_
    obtain rfl := Option.some.inj hf
    exact ev_iret dX11_griddle_50 rfl ⟨Nat.zero_le _, Nat.zero_le _⟩ hr
  · rw [if_pos h4] at hf
    refine ev_aload_n dX11_griddle_16 1 rfl ?_
    obtain ⟨g5, hf⟩ := gd_elim hf
    refine ev_getR 2 dX11_griddle_17 (hS.lt (hc 0 rfl)) rfl (hS.mem _ (hc 0 rfl)) (hS.K0 (hc 0 rfl) rfl) (dy_Gr g5).2 ciX11 (by decide) rfl flX11_28 ?_
    obtain ⟨r6, hr6, hf⟩ := lt_elim hf
    refine ev_rn (congrArg (vr g) hr6) ?_
    have kr6 : isGr r6 := by rw [hr6]; exact (dy_Gr g5).1
    refine ev_astore_n (al2 := [(2, vr g r6), (1, vi q3.1), (0, vr g 0)]) dX11_griddle_20 2 rfl (by decide) rfl ?_
    refine ev_aload_n dX11_griddle_21 2 rfl ?_
    refine ev_aload_n dX11_griddle_22 2 rfl ?_
    obtain ⟨g7, hf⟩ := gd_elim hf
    refine ev_getR 3 dX11_griddle_23 (hS.lt (hc 0 rfl)) rfl (hS.mem _ (hc 0 rfl)) (hS.K0 (hc 0 rfl) rfl) (dy_Gr g7).2 ciX11 (by decide) rfl flX11_32 ?_
    obtain ⟨r8, hr8, hf⟩ := lt_elim hf
    refine ev_rn (congrArg (vr g) hr8) ?_
    have kr8 : isGr r8 := by rw [hr8]; exact (dy_Gr g7).1
    obtain ⟨μ9, hμ9, hf⟩ := lt_elim hf
    refine ev_putR 2 dX11_griddle_26 (hS.lt (hc 0 rfl)) rfl ciX11 (by decide) (Or.inl rfl) rfl flX11_28 (hS.K0 (hc 0 rfl) rfl) (fun _ => ⟨rfl, rfl⟩) (hS.up (hc 0 rfl) hμ9) ?_
    refine ev_aload_n dX11_griddle_29 2 rfl ?_
    refine ev_aload_n dX11_griddle_30 0 rfl ?_
    obtain ⟨μ10, hμ10, hf⟩ := lt_elim hf
    refine ev_putR 3 dX11_griddle_31 (hS.lt (hc 0 rfl)) rfl ciX11 (by decide) (Or.inl rfl) rfl flX11_32 (hS.K0 (hc 0 rfl) rfl) (fun _ => ⟨rfl, rfl⟩) (hS.up (hc 0 rfl) hμ10) ?_
    refine ev_aload_n dX11_griddle_34 2 rfl ?_
    refine ev_getK 4 dX11_griddle_35 (hS.lt (hc 0 rfl)) rfl (hS.K1 (hc 0 rfl) rfl) ciX11 (by decide) rfl flX11_40 ?_
    refine ev_aload_n dX11_griddle_38 2 rfl ?_
    obtain ⟨g11, hf⟩ := gd_elim hf
    refine ev_getR 2 dX11_griddle_39 (hS.lt (hc 0 rfl)) rfl (hS.mem _ (hc 0 rfl)) (hS.K0 (hc 0 rfl) rfl) (dy_Gr g11).2 ciX11 (by decide) rfl flX11_28 ?_
    obtain ⟨r12, hr12, hf⟩ := lt_elim hf
    refine ev_rn (congrArg (vr g) hr12) ?_
    have kr12 : isGr r12 := by rw [hr12]; exact (dy_Gr g11).1
    obtain ⟨μ13, hμ13, hf⟩ := Option.bind_eq_some_iff.mp hf
    refine cl_V0 (As := [vr g r12]) (st := []) miX7_learn (tX7_learn hS (hc.w rfl rfl) r12 μ10 kr12 hμ13) dX11_griddle_42 lkX11_127 inX7_learn rfl (hS.lt (hc 25 rfl)) rfl ⟨rfl, rfl⟩ ⟨⟨Nat.le_of_ble_eq_true rfl, Nat.le_of_ble_eq_true rfl⟩, Nat.zero_le _, Nat.zero_le _⟩ (Nat.le_of_ble_eq_true rfl) ?_
    refine ev_aload_n dX11_griddle_45 2 rfl ?_
    obtain ⟨μ14, hμ14, hf⟩ := Option.bind_eq_some_iff.mp hf
    refine cl_V0 (As := []) (st := []) miX11_beginAnew (tX11_beginAnew hS (hc.w rfl rfl) μ13 hμ14) dX11_griddle_46 lkX11_130 inX11_beginAnew rfl (hS.lt (hc 0 rfl)) rfl ⟨rfl, rfl⟩ ⟨⟨Nat.le_of_ble_eq_true rfl, Nat.le_of_ble_eq_true rfl⟩, Nat.zero_le _, Nat.zero_le _⟩ (Nat.le_of_ble_eq_true rfl) ?_
    refine ev_iload_n dX11_griddle_49 1 rfl ?_
    obtain rfl := Option.some.inj hf
    exact ev_iret dX11_griddle_50 rfl ⟨Nat.zero_le _, Nat.zero_le _⟩ hr
theorem tX11_griddle (hS : Sd M K P L) (hc : CIn P 0 75) (μ : Mem) {o : Int × Mem} (hf : fX11_griddle μ = some o) : Cn l D cy g K K yX11_griddle cX11_griddle 3 (some .int) (rmd 57 0 0) [vr g 0] M x (L μ) (PE (some (vi o.1)) M x (L o.2)) :=
 Cn.of (by decide) (Nat.le_of_ble_eq_true rfl) (eX11_griddle hS hc μ hf (PE_i _ _ _ _))
def fX7_cakes  (μ : Mem) : Int :=
  (μ 25 1)
set_option maxRecDepth 4000 in
theorem eX7_cakes (hS : Sd M K P L) (hc : CIn P 25 26)  (μ : Mem)  {o : Int} (hf : fX7_cakes  μ = o) (hr : (fun o : Int => Φ (some (vi o)) M x (L μ)) o) : Ev l D cy g K yX7_cakes cX7_cakes 1 (some .int) (rmd 1 0 0) (MX D cy g K (rmd 1 0 0) Φ) 0 0 M x (L μ) 0 [(0, vr g 25)] [] := by
  unfold fX7_cakes at hf
  refine ev_aload_n dX7_cakes_0 0 rfl ?_
  refine ev_getI 1 dX7_cakes_1 (hS.lt (hc 25 rfl)) rfl (hS.mem _ (hc 25 rfl)) ciX7 (by decide) rfl flX7_65 ?_
  obtain rfl := hf
  exact ev_iret dX7_cakes_4 rfl ⟨Nat.zero_le _, Nat.zero_le _⟩ hr
theorem tX7_cakes (hS : Sd M K P L) (hc : CIn P 25 26) (μ : Mem) {o : Int} (hf : fX7_cakes μ = o) : Cn l D cy g K K yX7_cakes cX7_cakes 1 (some .int) (rmd 1 0 0) [vr g 25] M x (L μ) (PE (some (vi o)) M x (L μ)) :=
 Cn.of (by decide) (Nat.le_of_ble_eq_true rfl) (eX7_cakes hS hc μ hf (PE_i _ _ _ _))
def fX6_keep (number : Int) (μ : Mem) : Mem :=
  lt (fX11_put 4 (μ 3 3) number μ) fun μ1 =>
  lt (upd2 μ1 3 3 ((μ1 3 3) + 1)) fun μ2 =>
  μ2
set_option maxRecDepth 4000 in
theorem eX6_keep (hS : Sd M K P L) (hc : CIn P 1 5) (number : Int) (μ : Mem)  {o : Mem} (hf : fX6_keep number μ = o) (hr : (fun o : Mem => Φ none M x (L o)) o) : Ev l D cy g K yX6_keep cX6_keep 2 none (rmd 2 0 0) (MX D cy g K (rmd 2 0 0) Φ) 0 0 M x (L μ) 0 [(0, vr g 3), (1, vi number)] [] := by
  unfold fX6_keep at hf
  refine ev_aload_n dX6_keep_0 0 rfl ?_
  refine ev_getK 2 dX6_keep_1 (hS.lt (hc 3 rfl)) rfl (hS.K1 (hc 3 rfl) rfl) ciX6 (by decide) rfl flX6_9 ?_
  refine ev_aload_n dX6_keep_4 0 rfl ?_
  refine ev_getI 3 dX6_keep_5 (hS.lt (hc 3 rfl)) rfl (hS.mem _ (hc 3 rfl)) ciX6 (by decide) rfl flX6_19 ?_
  refine ev_iload_n dX6_keep_8 1 rfl ?_
  obtain ⟨μ1, hμ1, hf⟩ := lt_elim hf
  refine cl_N0 (As := [vr g 4, vi (μ 3 3), vi number]) (st := []) (host := "HotCakes") miX11_put (tX11_put hS (hc.w rfl rfl) 4 (μ 3 3) number μ (⟨(hc 4 rfl), rfl⟩) hμ1.symm) dX6_keep_9 (by decide) stX11_put rfl ⟨⟨Nat.le_of_ble_eq_true rfl, Nat.le_of_ble_eq_true rfl⟩, Nat.zero_le _, Nat.zero_le _⟩ (Nat.le_of_ble_eq_true rfl) ?_
  refine ev_aload_n dX6_keep_12 0 rfl ?_
  refine ev_dup dX6_keep_13 rfl ?_
  refine ev_getI 3 dX6_keep_14 (hS.lt (hc 3 rfl)) rfl (hS.mem _ (hc 3 rfl)) ciX6 (by decide) rfl flX6_19 ?_
  refine ev_iconst dX6_keep_17 ?_
  refine ev_iadd dX6_keep_18 ?_
  obtain ⟨μ2, hμ2, hf⟩ := lt_elim hf
  refine ev_putI 3 dX6_keep_19 (hS.lt (hc 3 rfl)) rfl ciX6 (by decide) (Or.inl rfl) rfl rfl flX6_19 (hS.up (hc 3 rfl) hμ2) ?_
  obtain rfl := hf
  exact ev_vret dX6_keep_22 rfl ⟨Nat.zero_le _, Nat.zero_le _⟩ hr
theorem tX6_keep (hS : Sd M K P L) (hc : CIn P 1 5) (number : Int) (μ : Mem) {o : Mem} (hf : fX6_keep number μ = o) : Cn l D cy g K K yX6_keep cX6_keep 2 none (rmd 2 0 0) [vr g 3, vi number] M x (L μ) (PE none M x (L o)) :=
 Cn.of (by decide) (Nat.le_of_ble_eq_true rfl) (eX6_keep hS hc number μ hf (PE_i _ _ _ _))
def fX6_readTurn (cakes : Int) (μ : Mem) : Option (Bool × Mem) :=
  (fX9_isWord 1005 μ).bind fun v1 =>
  if v1 = true then
    if w32 (μ 3 3) < w32 40 then
      (fX9_step μ).bind fun μ4 =>
      if (fX9_is 110 μ4) = true then
        if w32 (μ4 1 5) < w32 1 then
          lt (fX6_wrong 4 μ4) fun q7 =>
          some ((q7.1, q7.2))
        else
          if w32 (μ4 1 5) ≤ w32 cakes then
            lt (fX6_keep (μ4 1 5) μ4) fun μ9 =>
            (fX9_step μ9).bind fun μ10 =>
            (fX6_skipSign 59 μ10).bind fun q11 =>
            some ((q11.1, q11.2))
          else
            lt (fX6_wrong 4 μ4) fun q12 =>
            some ((q12.1, q12.2))
      else
        lt (fX6_wrong 1 μ4) fun q13 =>
        some ((q13.1, q13.2))
    else
      lt (fX6_wrong 5 μ) fun q14 =>
      some ((q14.1, q14.2))
  else
    lt (fX6_wrong 1 μ) fun q15 =>
    some ((q15.1, q15.2))
set_option maxRecDepth 4000 in
theorem eX6_readTurn (hS : Sd M K P L) (hc : CIn P 1 5) (cakes : Int) (μ : Mem)  {o : Bool × Mem} (hf : fX6_readTurn cakes μ = some o) (hr : (fun o : Bool × Mem => Φ (some (vb o.1)) M x (L o.2)) o) : Ev l D cy g K yX6_readTurn cX6_readTurn 2 (some .boolean) (rmd 7 0 0) (MX D cy g K (rmd 7 0 0) Φ) 0 0 M x (L μ) 0 [(0, vr g 3), (1, vi cakes)] [] := by
  unfold fX6_readTurn at hf
  refine ev_aload_n dX6_readTurn_0 0 rfl ?_
  refine ev_getK 0 dX6_readTurn_1 (hS.lt (hc 3 rfl)) rfl (hS.K1 (hc 3 rfl) rfl) ciX6 (by decide) rfl flX6_15 ?_
  refine ev_getsW 5 dX6_readTurn_4 (by decide) rfl flX6_153 ?_
  obtain ⟨v1, hv1, hf⟩ := Option.bind_eq_some_iff.mp hf
  refine cl_V1 (As := [vr g 1005]) (st := []) miX9_isWord (tX9_isWord hS (hc.w rfl rfl) 1005 μ (⟨by decide, by decide⟩) hv1) dX6_readTurn_7 lkX6_49 inX9_isWord rfl (hS.lt (hc 1 rfl)) rfl ⟨rfl, rfl⟩ ⟨⟨Nat.le_of_ble_eq_true rfl, Nat.le_of_ble_eq_true rfl⟩, Nat.zero_le _, Nat.zero_le _⟩ (Nat.le_of_ble_eq_true rfl) ?_
  refine ev_ifb_ne 19 dX6_readTurn_10 (by decide) (fun h2 => ?_) (fun h2 => ?_)
  · rw [if_pos h2] at hf
    refine ev_aload_n dX6_readTurn_19 0 rfl ?_
    refine ev_getI 3 dX6_readTurn_20 (hS.lt (hc 3 rfl)) rfl (hS.mem _ (hc 3 rfl)) ciX6 (by decide) rfl flX6_19 ?_
    refine ev_bipush dX6_readTurn_23 (by decide) ?_
    refine ev_icmp_lt 34 dX6_readTurn_25 (by decide) (fun h3 => ?_) (fun h3 => ?_)
    · rw [if_pos h3] at hf
      refine ev_aload_n dX6_readTurn_34 0 rfl ?_
      refine ev_getK 0 dX6_readTurn_35 (hS.lt (hc 3 rfl)) rfl (hS.K1 (hc 3 rfl) rfl) ciX6 (by decide) rfl flX6_15 ?_
      obtain ⟨μ4, hμ4, hf⟩ := Option.bind_eq_some_iff.mp hf
      refine cl_V0 (As := []) (st := []) miX9_step (tX9_step hS (hc.w rfl rfl) μ hμ4) dX6_readTurn_38 lkX6_99 inX9_step rfl (hS.lt (hc 1 rfl)) rfl ⟨rfl, rfl⟩ ⟨⟨Nat.le_of_ble_eq_true rfl, Nat.le_of_ble_eq_true rfl⟩, Nat.zero_le _, Nat.zero_le _⟩ (Nat.le_of_ble_eq_true rfl) ?_
      refine ev_aload_n dX6_readTurn_41 0 rfl ?_
      refine ev_getK 0 dX6_readTurn_42 (hS.lt (hc 3 rfl)) rfl (hS.K1 (hc 3 rfl) rfl) ciX6 (by decide) rfl flX6_15 ?_
      refine ev_bipush dX6_readTurn_45 (by decide) ?_
      refine cl_V1 (As := [vi 110]) (st := []) miX9_is (tX9_is hS (hc.w rfl rfl) 110 μ4 (o := (fX9_is 110 μ4)) rfl) dX6_readTurn_47 lkX6_37 inX9_is rfl (hS.lt (hc 1 rfl)) rfl ⟨rfl, rfl⟩ ⟨⟨Nat.le_of_ble_eq_true rfl, Nat.le_of_ble_eq_true rfl⟩, Nat.zero_le _, Nat.zero_le _⟩ (Nat.le_of_ble_eq_true rfl) ?_
      refine ev_ifb_ne 59 dX6_readTurn_50 (by decide) (fun h5 => ?_) (fun h5 => ?_)
      · rw [if_pos h5] at hf
        refine ev_aload_n dX6_readTurn_59 0 rfl ?_
        refine ev_getK 0 dX6_readTurn_60 (hS.lt (hc 3 rfl)) rfl (hS.K1 (hc 3 rfl) rfl) ciX6 (by decide) rfl flX6_15 ?_
        refine cl_V1 (As := []) (st := []) miX9_number (tX9_number hS (hc.w rfl rfl) μ4 (o := (μ4 1 5)) rfl) dX6_readTurn_63 lkX6_131 inX9_number rfl (hS.lt (hc 1 rfl)) rfl ⟨rfl, rfl⟩ ⟨⟨Nat.le_of_ble_eq_true rfl, Nat.le_of_ble_eq_true rfl⟩, Nat.zero_le _, Nat.zero_le _⟩ (Nat.le_of_ble_eq_true rfl) ?_
        refine ev_iconst dX6_readTurn_66 ?_
        refine ev_icmp_lt 81 dX6_readTurn_67 (by decide) (fun h6 => ?_) (fun h6 => ?_)
        · rw [if_pos h6] at hf
          refine ev_aload_n dX6_readTurn_81 0 rfl ?_
          refine ev_iconst dX6_readTurn_82 ?_
          obtain ⟨q7, hq7, hf⟩ := lt_elim hf
          refine cl_V1 (As := [vi 4]) (st := []) miX6_wrong (tX6_wrong hS (hc.w rfl rfl) 4 μ4 hq7.symm) dX6_readTurn_83 lkX6_74 inX6_wrong rfl (hS.lt (hc 3 rfl)) rfl ⟨rfl, rfl⟩ ⟨⟨Nat.le_of_ble_eq_true rfl, Nat.le_of_ble_eq_true rfl⟩, Nat.zero_le _, Nat.zero_le _⟩ (Nat.le_of_ble_eq_true rfl) ?_
          obtain rfl := Option.some.inj hf
          exact ev_bret (b := q7.1) dX6_readTurn_86 rfl ⟨Nat.zero_le _, Nat.zero_le _⟩ hr
        · rw [if_neg h6] at hf
          refine ev_aload_n dX6_readTurn_70 0 rfl ?_
          refine ev_getK 0 dX6_readTurn_71 (hS.lt (hc 3 rfl)) rfl (hS.K1 (hc 3 rfl) rfl) ciX6 (by decide) rfl flX6_15 ?_
          refine cl_V1 (As := []) (st := []) miX9_number (tX9_number hS (hc.w rfl rfl) μ4 (o := (μ4 1 5)) rfl) dX6_readTurn_74 lkX6_131 inX9_number rfl (hS.lt (hc 1 rfl)) rfl ⟨rfl, rfl⟩ ⟨⟨Nat.le_of_ble_eq_true rfl, Nat.le_of_ble_eq_true rfl⟩, Nat.zero_le _, Nat.zero_le _⟩ (Nat.le_of_ble_eq_true rfl) ?_
          refine ev_iload_n dX6_readTurn_77 1 rfl ?_
          refine ev_icmp_le 87 dX6_readTurn_78 (by decide) (fun h8 => ?_) (fun h8 => ?_)
          · rw [if_pos h8] at hf
            refine ev_aload_n dX6_readTurn_87 0 rfl ?_
            refine ev_aload_n dX6_readTurn_88 0 rfl ?_
            refine ev_getK 0 dX6_readTurn_89 (hS.lt (hc 3 rfl)) rfl (hS.K1 (hc 3 rfl) rfl) ciX6 (by decide) rfl flX6_15 ?_
            refine cl_V1 (As := []) (st := [vr g 3]) miX9_number (tX9_number hS (hc.w rfl rfl) μ4 (o := (μ4 1 5)) rfl) dX6_readTurn_92 lkX6_131 inX9_number rfl (hS.lt (hc 1 rfl)) rfl ⟨rfl, rfl⟩ ⟨⟨Nat.le_of_ble_eq_true rfl, Nat.le_of_ble_eq_true rfl⟩, Nat.zero_le _, Nat.zero_le _⟩ (Nat.le_of_ble_eq_true rfl) ?_
            obtain ⟨μ9, hμ9, hf⟩ := lt_elim hf
            refine cl_V0 (As := [vi (μ4 1 5)]) (st := []) miX6_keep (tX6_keep hS (hc.w rfl rfl) (μ4 1 5) μ4 hμ9.symm) dX6_readTurn_95 lkX6_156 inX6_keep rfl (hS.lt (hc 3 rfl)) rfl ⟨rfl, rfl⟩ ⟨⟨Nat.le_of_ble_eq_true rfl, Nat.le_of_ble_eq_true rfl⟩, Nat.zero_le _, Nat.zero_le _⟩ (Nat.le_of_ble_eq_true rfl) ?_
            refine ev_aload_n dX6_readTurn_98 0 rfl ?_
            refine ev_getK 0 dX6_readTurn_99 (hS.lt (hc 3 rfl)) rfl (hS.K1 (hc 3 rfl) rfl) ciX6 (by decide) rfl flX6_15 ?_
            obtain ⟨μ10, hμ10, hf⟩ := Option.bind_eq_some_iff.mp hf
            refine cl_V0 (As := []) (st := []) miX9_step (tX9_step hS (hc.w rfl rfl) μ9 hμ10) dX6_readTurn_102 lkX6_99 inX9_step rfl (hS.lt (hc 1 rfl)) rfl ⟨rfl, rfl⟩ ⟨⟨Nat.le_of_ble_eq_true rfl, Nat.le_of_ble_eq_true rfl⟩, Nat.zero_le _, Nat.zero_le _⟩ (Nat.le_of_ble_eq_true rfl) ?_
            refine ev_aload_n dX6_readTurn_105 0 rfl ?_
            refine ev_bipush dX6_readTurn_106 (by decide) ?_
            obtain ⟨q11, hq11, hf⟩ := Option.bind_eq_some_iff.mp hf
            refine cl_V1 (As := [vi 59]) (st := []) miX6_skipSign (tX6_skipSign hS (hc.w rfl rfl) 59 μ10 hq11) dX6_readTurn_108 lkX6_144 inX6_skipSign rfl (hS.lt (hc 3 rfl)) rfl ⟨rfl, rfl⟩ ⟨⟨Nat.le_of_ble_eq_true rfl, Nat.le_of_ble_eq_true rfl⟩, Nat.zero_le _, Nat.zero_le _⟩ (Nat.le_of_ble_eq_true rfl) ?_
            obtain rfl := Option.some.inj hf
            exact ev_bret (b := q11.1) dX6_readTurn_111 rfl ⟨Nat.zero_le _, Nat.zero_le _⟩ hr
          · rw [if_neg h8] at hf
            refine ev_aload_n dX6_readTurn_81 0 rfl ?_
            refine ev_iconst dX6_readTurn_82 ?_
            obtain ⟨q12, hq12, hf⟩ := lt_elim hf
            refine cl_V1 (As := [vi 4]) (st := []) miX6_wrong (tX6_wrong hS (hc.w rfl rfl) 4 μ4 hq12.symm) dX6_readTurn_83 lkX6_74 inX6_wrong rfl (hS.lt (hc 3 rfl)) rfl ⟨rfl, rfl⟩ ⟨⟨Nat.le_of_ble_eq_true rfl, Nat.le_of_ble_eq_true rfl⟩, Nat.zero_le _, Nat.zero_le _⟩ (Nat.le_of_ble_eq_true rfl) ?_
            obtain rfl := Option.some.inj hf
            exact ev_bret (b := q12.1) dX6_readTurn_86 rfl ⟨Nat.zero_le _, Nat.zero_le _⟩ hr
      · rw [if_neg h5] at hf
        refine ev_aload_n dX6_readTurn_53 0 rfl ?_
        refine ev_iconst dX6_readTurn_54 ?_
        obtain ⟨q13, hq13, hf⟩ := lt_elim hf
        refine cl_V1 (As := [vi 1]) (st := []) miX6_wrong (tX6_wrong hS (hc.w rfl rfl) 1 μ4 hq13.symm) dX6_readTurn_55 lkX6_74 inX6_wrong rfl (hS.lt (hc 3 rfl)) rfl ⟨rfl, rfl⟩ ⟨⟨Nat.le_of_ble_eq_true rfl, Nat.le_of_ble_eq_true rfl⟩, Nat.zero_le _, Nat.zero_le _⟩ (Nat.le_of_ble_eq_true rfl) ?_
        obtain rfl := Option.some.inj hf
        exact ev_bret (b := q13.1) dX6_readTurn_58 rfl ⟨Nat.zero_le _, Nat.zero_le _⟩ hr
    · rw [if_neg h3] at hf
      refine ev_aload_n dX6_readTurn_28 0 rfl ?_
      refine ev_iconst dX6_readTurn_29 ?_
      obtain ⟨q14, hq14, hf⟩ := lt_elim hf
      refine cl_V1 (As := [vi 5]) (st := []) miX6_wrong (tX6_wrong hS (hc.w rfl rfl) 5 μ hq14.symm) dX6_readTurn_30 lkX6_74 inX6_wrong rfl (hS.lt (hc 3 rfl)) rfl ⟨rfl, rfl⟩ ⟨⟨Nat.le_of_ble_eq_true rfl, Nat.le_of_ble_eq_true rfl⟩, Nat.zero_le _, Nat.zero_le _⟩ (Nat.le_of_ble_eq_true rfl) ?_
      obtain rfl := Option.some.inj hf
      exact ev_bret (b := q14.1) dX6_readTurn_33 rfl ⟨Nat.zero_le _, Nat.zero_le _⟩ hr
  · rw [if_neg h2] at hf
    refine ev_aload_n dX6_readTurn_13 0 rfl ?_
    refine ev_iconst dX6_readTurn_14 ?_
    obtain ⟨q15, hq15, hf⟩ := lt_elim hf
    refine cl_V1 (As := [vi 1]) (st := []) miX6_wrong (tX6_wrong hS (hc.w rfl rfl) 1 μ hq15.symm) dX6_readTurn_15 lkX6_74 inX6_wrong rfl (hS.lt (hc 3 rfl)) rfl ⟨rfl, rfl⟩ ⟨⟨Nat.le_of_ble_eq_true rfl, Nat.le_of_ble_eq_true rfl⟩, Nat.zero_le _, Nat.zero_le _⟩ (Nat.le_of_ble_eq_true rfl) ?_
    obtain rfl := Option.some.inj hf
    exact ev_bret (b := q15.1) dX6_readTurn_18 rfl ⟨Nat.zero_le _, Nat.zero_le _⟩ hr
theorem tX6_readTurn (hS : Sd M K P L) (hc : CIn P 1 5) (cakes : Int) (μ : Mem) {o : Bool × Mem} (hf : fX6_readTurn cakes μ = some o) : Cn l D cy g K K yX6_readTurn cX6_readTurn 2 (some .boolean) (rmd 7 0 0) [vr g 3, vi cakes] M x (L μ) (PE (some (vb o.1)) M x (L o.2)) :=
 Cn.of (by decide) (Nat.le_of_ble_eq_true rfl) (eX6_readTurn hS hc cakes μ hf (PE_i _ _ _ _))
def fX6_readPlan_b6 (cakes : Int) (v2 : Int) (μ : Mem) : Option ((Int × Mem) ⊕ (Mem)) :=
  if w32 v2 < w32 1000 then
    if w32 (μ 3 1) = 0 then
      if (fX9_is 101 μ) = true then
        some (.inr μ)
      else
        (fX6_readTurn cakes μ).bind fun q6 =>
        some (.inl ((v2 + 1), q6.2))
    else
      some (.inr μ)
  else
    some (.inr μ)
set_option maxRecDepth 4000 in
theorem tX6_readPlan_b6 (hS : Sd M K P L) (hc : CIn P 1 5) (cakes : Int) (v2 : Int) (μ : Mem)  {o : (Int × Mem) ⊕ (Mem)} (hf : fX6_readPlan_b6 cakes v2 μ = some o) (hr : (Sum.elim (fun s : Int × Mem => Ev l D cy g K yX6_readPlan cX6_readPlan 3 (some .int) (rmd 8 0 0) (MX D cy g K (rmd 8 0 0) Φ) 0 0 M x (L s.2) 6 [(0, vr g 3), (1, vi cakes), (2, vi s.1)] []) (fun e : Mem => Ev l D cy g K yX6_readPlan cX6_readPlan 3 (some .int) (rmd 8 0 0) (MX D cy g K (rmd 8 0 0) Φ) 0 0 M x (L e) 44 [(0, vr g 3)] [])) o) : Ev l D cy g K yX6_readPlan cX6_readPlan 3 (some .int) (rmd 8 0 0) (MX D cy g K (rmd 8 0 0) Φ) 0 0 M x (L μ) 6 [(0, vr g 3), (1, vi cakes), (2, vi v2)] [] := by
  unfold fX6_readPlan_b6 at hf
  refine ev_iload_n dX6_readPlan_6 2 rfl ?_
  refine ev_sipush dX6_readPlan_7 (by decide) ?_
  refine ev_icmp_ge 44 dX6_readPlan_10 (by decide) (fun h3 => ?_) (fun h3 => ?_)
  · rw [if_neg h3] at hf
    obtain rfl := Option.some.inj hf
    refine ev_sub [0] rfl ?_
    exact hr
  · rw [if_pos h3] at hf
    refine ev_aload_n dX6_readPlan_13 0 rfl ?_
    refine ev_getI 1 dX6_readPlan_14 (hS.lt (hc 3 rfl)) rfl (hS.mem _ (hc 3 rfl)) ciX6 (by decide) rfl flX6_34 ?_
    refine ev_if_ne 44 dX6_readPlan_17 (by decide) (fun h4 => ?_) (fun h4 => ?_)
    · rw [if_neg h4] at hf
      obtain rfl := Option.some.inj hf
      refine ev_sub [0] rfl ?_
      exact hr
    · rw [if_pos h4] at hf
      refine ev_aload_n dX6_readPlan_20 0 rfl ?_
      refine ev_getK 0 dX6_readPlan_21 (hS.lt (hc 3 rfl)) rfl (hS.K1 (hc 3 rfl) rfl) ciX6 (by decide) rfl flX6_15 ?_
      refine ev_bipush dX6_readPlan_24 (by decide) ?_
      refine cl_V1 (As := [vi 101]) (st := []) miX9_is (tX9_is hS (hc.w rfl rfl) 101 μ (o := (fX9_is 101 μ)) rfl) dX6_readPlan_26 lkX6_37 inX9_is rfl (hS.lt (hc 1 rfl)) rfl ⟨rfl, rfl⟩ ⟨⟨Nat.le_of_ble_eq_true rfl, Nat.le_of_ble_eq_true rfl⟩, Nat.zero_le _, Nat.zero_le _⟩ (Nat.le_of_ble_eq_true rfl) ?_
      refine ev_ifb_ne 44 dX6_readPlan_29 (by decide) (fun h5 => ?_) (fun h5 => ?_)
      · rw [if_pos h5] at hf
        obtain rfl := Option.some.inj hf
        refine ev_sub [0] rfl ?_
        exact hr
      · rw [if_neg h5] at hf
        refine ev_aload_n dX6_readPlan_32 0 rfl ?_
        refine ev_iload_n dX6_readPlan_33 1 rfl ?_
        obtain ⟨q6, hq6, hf⟩ := Option.bind_eq_some_iff.mp hf
        refine cl_V1 (As := [vi cakes]) (st := []) miX6_readTurn (tX6_readTurn hS (hc.w rfl rfl) cakes μ hq6) dX6_readPlan_34 lkX6_82 inX6_readTurn rfl (hS.lt (hc 3 rfl)) rfl ⟨rfl, rfl⟩ ⟨⟨Nat.le_of_ble_eq_true rfl, Nat.le_of_ble_eq_true rfl⟩, Nat.zero_le _, Nat.zero_le _⟩ (Nat.le_of_ble_eq_true rfl) ?_
        refine ev_pop dX6_readPlan_37 rfl ?_
        refine ev_iinc (al2 := [(2, vi (v2 + 1)), (0, vr g 3), (1, vi cakes)]) dX6_readPlan_38 2 rfl (by decide) rfl ?_
        refine ev_goto 6 dX6_readPlan_41 (by decide) ?_
        obtain rfl := Option.some.inj hf
        refine ev_sub [1, 2, 0] rfl ?_
        exact hr
def fX6_readPlan (cakes : Int) (μ : Mem) : Option (Int × Mem) :=
  (fX6_begin μ).bind fun μ1 =>
  (loopN (fun s => fX6_readPlan_b6 cakes s.1 s.2) FU (0, μ1)).bind fun q7 =>
  lt (fX6_finish q7) fun q8 =>
  some ((q8.1, q8.2))
set_option maxRecDepth 4000 in
theorem eX6_readPlan (hS : Sd M K P L) (hc : CIn P 1 5) (cakes : Int) (μ : Mem)  {o : Int × Mem} (hf : fX6_readPlan cakes μ = some o) (hr : (fun o : Int × Mem => Φ (some (vi o.1)) M x (L o.2)) o) : Ev l D cy g K yX6_readPlan cX6_readPlan 3 (some .int) (rmd 8 0 0) (MX D cy g K (rmd 8 0 0) Φ) 0 0 M x (L μ) 0 [(0, vr g 3), (1, vi cakes)] [] := by
  unfold fX6_readPlan at hf
  refine ev_aload_n dX6_readPlan_0 0 rfl ?_
  obtain ⟨μ1, hμ1, hf⟩ := Option.bind_eq_some_iff.mp hf
  refine cl_V0 (As := []) (st := []) miX6_begin (tX6_begin hS (hc.w rfl rfl) μ hμ1) dX6_readPlan_1 lkX6_31 inX6_begin rfl (hS.lt (hc 3 rfl)) rfl ⟨rfl, rfl⟩ ⟨⟨Nat.le_of_ble_eq_true rfl, Nat.le_of_ble_eq_true rfl⟩, Nat.zero_le _, Nat.zero_le _⟩ (Nat.le_of_ble_eq_true rfl) ?_
  refine ev_iconst dX6_readPlan_4 ?_
  refine ev_istore_n (al2 := [(2, vi 0), (0, vr g 3), (1, vi cakes)]) dX6_readPlan_5 2 rfl (by decide) rfl ?_
  obtain ⟨q7, hq7, hf⟩ := Option.bind_eq_some_iff.mp hf
  refine ev_sub [1, 2, 0] rfl ?_
  refine loop_ev (H := (fun s : Int × Mem => Ev l D cy g K yX6_readPlan cX6_readPlan 3 (some .int) (rmd 8 0 0) (MX D cy g K (rmd 8 0 0) Φ) 0 0 M x (L s.2) 6 [(0, vr g 3), (1, vi cakes), (2, vi s.1)] [])) (Hx := (fun e : Mem => Ev l D cy g K yX6_readPlan cX6_readPlan 3 (some .int) (rmd 8 0 0) (MX D cy g K (rmd 8 0 0) Φ) 0 0 M x (L e) 44 [(0, vr g 3)] [])) (fun s o hb hr => tX6_readPlan_b6 hS hc cakes s.1 s.2 hb hr) FU _ _ hq7 ?_
  show Ev l D cy g K yX6_readPlan cX6_readPlan 3 (some .int) (rmd 8 0 0) (MX D cy g K (rmd 8 0 0) Φ) 0 0 M x (L q7) 44 [(0, vr g 3)] []
  refine ev_aload_n dX6_readPlan_44 0 rfl ?_
  obtain ⟨q8, hq8, hf⟩ := lt_elim hf
  refine cl_V1 (As := []) (st := []) miX6_finish (tX6_finish hS (hc.w rfl rfl) q7 hq8.symm) dX6_readPlan_45 lkX6_78 inX6_finish rfl (hS.lt (hc 3 rfl)) rfl ⟨rfl, rfl⟩ ⟨⟨Nat.le_of_ble_eq_true rfl, Nat.le_of_ble_eq_true rfl⟩, Nat.zero_le _, Nat.zero_le _⟩ (Nat.le_of_ble_eq_true rfl) ?_
  obtain rfl := Option.some.inj hf
  exact ev_iret dX6_readPlan_48 rfl ⟨Nat.zero_le _, Nat.zero_le _⟩ hr
theorem tX6_readPlan (hS : Sd M K P L) (hc : CIn P 1 5) (cakes : Int) (μ : Mem) {o : Int × Mem} (hf : fX6_readPlan cakes μ = some o) : Cn l D cy g K K yX6_readPlan cX6_readPlan 3 (some .int) (rmd 8 0 0) [vr g 3, vi cakes] M x (L μ) (PE (some (vi o.1)) M x (L o.2)) :=
 Cn.of (by decide) (Nat.le_of_ble_eq_true rfl) (eX6_readPlan hS hc cakes μ hf (PE_i _ _ _ _))
def fX6_read  (μ : Mem) : Unit :=
  ()
set_option maxRecDepth 4000 in
theorem eX6_read (hS : Sd M K P L) (hc : CIn P 3 4)  (μ : Mem)  {o : Unit} (hf : fX6_read  μ = o) (hr : (fun o : Unit => Φ (some (vr g 4)) M x (L μ)) o) : Ev l D cy g K yX6_read cX6_read 1 (some (.array .int)) (rmd 1 0 0) (MX D cy g K (rmd 1 0 0) Φ) 0 0 M x (L μ) 0 [(0, vr g 3)] [] := by
  unfold fX6_read at hf
  refine ev_aload_n dX6_read_0 0 rfl ?_
  refine ev_getK 2 dX6_read_1 (hS.lt (hc 3 rfl)) rfl (hS.K1 (hc 3 rfl) rfl) ciX6 (by decide) rfl flX6_9 ?_
  obtain rfl := hf
  exact ev_aret dX6_read_4 rfl (by first | exact Or.inl ⟨_, rfl⟩ | exact Or.inr ⟨_, rfl⟩) ⟨Nat.zero_le _, Nat.zero_le _⟩ hr
theorem tX6_read (hS : Sd M K P L) (hc : CIn P 3 4) (μ : Mem) {o : Unit} (hf : fX6_read μ = o) : Cn l D cy g K K yX6_read cX6_read 1 (some (.array .int)) (rmd 1 0 0) [vr g 3] M x (L μ) (PE (some (vr g 4)) M x (L μ)) :=
 Cn.of (by decide) (Nat.le_of_ble_eq_true rfl) (eX6_read hS hc μ hf (PE_i _ _ _ _))
def fX6_readSize  (μ : Mem) : Int :=
  (μ 3 3)
set_option maxRecDepth 4000 in
theorem eX6_readSize (hS : Sd M K P L) (hc : CIn P 3 4)  (μ : Mem)  {o : Int} (hf : fX6_readSize  μ = o) (hr : (fun o : Int => Φ (some (vi o)) M x (L μ)) o) : Ev l D cy g K yX6_readSize cX6_readSize 1 (some .int) (rmd 1 0 0) (MX D cy g K (rmd 1 0 0) Φ) 0 0 M x (L μ) 0 [(0, vr g 3)] [] := by
  unfold fX6_readSize at hf
  refine ev_aload_n dX6_readSize_0 0 rfl ?_
  refine ev_getI 3 dX6_readSize_1 (hS.lt (hc 3 rfl)) rfl (hS.mem _ (hc 3 rfl)) ciX6 (by decide) rfl flX6_19 ?_
  obtain rfl := hf
  exact ev_iret dX6_readSize_4 rfl ⟨Nat.zero_le _, Nat.zero_le _⟩ hr
theorem tX6_readSize (hS : Sd M K P L) (hc : CIn P 3 4) (μ : Mem) {o : Int} (hf : fX6_readSize μ = o) : Cn l D cy g K K yX6_readSize cX6_readSize 1 (some .int) (rmd 1 0 0) [vr g 3] M x (L μ) (PE (some (vi o)) M x (L μ)) :=
 Cn.of (by decide) (Nat.le_of_ble_eq_true rfl) (eX6_readSize hS hc μ hf (PE_i _ _ _ _))
def fX4_become_b12 (told : Nat) (toldSize : Int) (v2 : Int) (μ : Mem) : Option ((Int × Mem) ⊕ (Mem)) :=
  if w32 v2 < w32 (μ 39 1) then
    lt (fX11_put 40 v2 (fX11_at told v2 μ) μ) fun μ4 =>
    some (.inl ((v2 + 1), μ4))
  else
    some (.inr μ)
set_option maxRecDepth 4000 in
theorem tX4_become_b12 (hS : Sd M K P L) (hc : CIn P 1 41) (told : Nat) (toldSize : Int) (v2 : Int) (μ : Mem) (htold : P told ∧ sh told = (1, alen told)) {o : (Int × Mem) ⊕ (Mem)} (hf : fX4_become_b12 told toldSize v2 μ = some o) (hr : (Sum.elim (fun s : Int × Mem => Ev l D cy g K yX4_become cX4_become 4 none (rmd 2 0 0) (MX D cy g K (rmd 2 0 0) Φ) 0 0 M x (L s.2) 12 [(0, vr g 39), (1, vr g told), (3, vi s.1)] []) (fun e : Mem => Ev l D cy g K yX4_become cX4_become 4 none (rmd 2 0 0) (MX D cy g K (rmd 2 0 0) Φ) 0 0 M x (L e) 39 [] [])) o) : Ev l D cy g K yX4_become cX4_become 4 none (rmd 2 0 0) (MX D cy g K (rmd 2 0 0) Φ) 0 0 M x (L μ) 12 [(0, vr g 39), (1, vr g told), (3, vi v2)] [] := by
  unfold fX4_become_b12 at hf
  refine ev_iload_n dX4_become_12 2 rfl ?_
  refine ev_aload_n dX4_become_13 0 rfl ?_
  refine ev_getI 1 dX4_become_14 (hS.lt (hc 39 rfl)) rfl (hS.mem _ (hc 39 rfl)) ciX4 (by decide) rfl flX4_15 ?_
  refine ev_icmp_ge 39 dX4_become_17 (by decide) (fun h3 => ?_) (fun h3 => ?_)
  · rw [if_neg h3] at hf
    obtain rfl := Option.some.inj hf
    refine ev_sub [] rfl ?_
    exact hr
  · rw [if_pos h3] at hf
    refine ev_aload_n dX4_become_20 0 rfl ?_
    refine ev_getK 0 dX4_become_21 (hS.lt (hc 39 rfl)) rfl (hS.K1 (hc 39 rfl) rfl) ciX4 (by decide) rfl flX4_9 ?_
    refine ev_iload_n dX4_become_24 2 rfl ?_
    refine ev_aload_n dX4_become_25 1 rfl ?_
    refine ev_iload_n dX4_become_26 2 rfl ?_
    refine cl_N1 (As := [vr g told, vi v2]) (st := [vi v2, vr g 40]) (host := "HotCakes") miX11_at (tX11_at hS (hc.w rfl rfl) told v2 μ (⟨htold.1, htold.2⟩) (o := (fX11_at told v2 μ)) rfl) dX4_become_27 (by decide) stX11_at rfl ⟨⟨Nat.le_of_ble_eq_true rfl, Nat.le_of_ble_eq_true rfl⟩, Nat.zero_le _, Nat.zero_le _⟩ (Nat.le_of_ble_eq_true rfl) ?_
    obtain ⟨μ4, hμ4, hf⟩ := lt_elim hf
    refine cl_N0 (As := [vr g 40, vi v2, vi (fX11_at told v2 μ)]) (st := []) (host := "HotCakes") miX11_put (tX11_put hS (hc.w rfl rfl) 40 v2 (fX11_at told v2 μ) μ (⟨(hc 40 rfl), rfl⟩) hμ4.symm) dX4_become_30 (by decide) stX11_put rfl ⟨⟨Nat.le_of_ble_eq_true rfl, Nat.le_of_ble_eq_true rfl⟩, Nat.zero_le _, Nat.zero_le _⟩ (Nat.le_of_ble_eq_true rfl) ?_
    refine ev_iinc (al2 := [(3, vi (v2 + 1)), (0, vr g 39), (1, vr g told)]) dX4_become_33 2 rfl (by decide) rfl ?_
    refine ev_goto 12 dX4_become_36 (by decide) ?_
    obtain rfl := Option.some.inj hf
    refine ev_sub [1, 2, 0] rfl ?_
    exact hr
def fX4_become (told : Nat) (toldSize : Int) (μ : Mem) : Option (Mem) :=
  lt (upd2 μ 39 1 (imin toldSize 40)) fun μ1 =>
  (loopN (fun s => fX4_become_b12 told toldSize s.1 s.2) FU (0, μ1)).bind fun q5 =>
  some (q5)
set_option maxRecDepth 4000 in
theorem eX4_become (hS : Sd M K P L) (hc : CIn P 1 41) (told : Nat) (toldSize : Int) (μ : Mem) (htold : P told ∧ sh told = (1, alen told)) {o : Mem} (hf : fX4_become told toldSize μ = some o) (hr : (fun o : Mem => Φ none M x (L o)) o) : Ev l D cy g K yX4_become cX4_become 4 none (rmd 2 0 0) (MX D cy g K (rmd 2 0 0) Φ) 0 0 M x (L μ) 0 [(0, vr g 39), (1, vr g told), (2, vi toldSize)] [] := by
  unfold fX4_become at hf
  refine ev_aload_n dX4_become_0 0 rfl ?_
  refine ev_iload_n dX4_become_1 2 rfl ?_
  refine ev_bipush dX4_become_2 (by decide) ?_
  refine ev_mmin dX4_become_4 lkX4_19 ⟨Nat.le_of_ble_eq_true rfl, Nat.le_of_ble_eq_true rfl, Nat.zero_le _, Nat.zero_le _⟩ ?_
  obtain ⟨μ1, hμ1, hf⟩ := lt_elim hf
  refine ev_putI 1 dX4_become_7 (hS.lt (hc 39 rfl)) rfl ciX4 (by decide) (Or.inl rfl) rfl rfl flX4_15 (hS.up (hc 39 rfl) hμ1) ?_
  refine ev_iconst dX4_become_10 ?_
  refine ev_istore_n (al2 := [(3, vi 0), (0, vr g 39), (1, vr g told), (2, vi toldSize)]) dX4_become_11 3 rfl (by decide) rfl ?_
  obtain ⟨q5, hq5, hf⟩ := Option.bind_eq_some_iff.mp hf
  refine ev_sub [1, 2, 0] rfl ?_
  refine loop_ev (H := (fun s : Int × Mem => Ev l D cy g K yX4_become cX4_become 4 none (rmd 2 0 0) (MX D cy g K (rmd 2 0 0) Φ) 0 0 M x (L s.2) 12 [(0, vr g 39), (1, vr g told), (3, vi s.1)] [])) (Hx := (fun e : Mem => Ev l D cy g K yX4_become cX4_become 4 none (rmd 2 0 0) (MX D cy g K (rmd 2 0 0) Φ) 0 0 M x (L e) 39 [] [])) (fun s o hb hr => tX4_become_b12 hS hc told toldSize s.1 s.2 htold hb hr) FU _ _ hq5 ?_
  show Ev l D cy g K yX4_become cX4_become 4 none (rmd 2 0 0) (MX D cy g K (rmd 2 0 0) Φ) 0 0 M x (L q5) 39 [] []
  obtain rfl := Option.some.inj hf
  exact ev_vret dX4_become_39 rfl ⟨Nat.zero_le _, Nat.zero_le _⟩ hr
theorem tX4_become (hS : Sd M K P L) (hc : CIn P 1 41) (told : Nat) (toldSize : Int) (μ : Mem) (htold : P told ∧ sh told = (1, alen told)) {o : Mem} (hf : fX4_become told toldSize μ = some o) : Cn l D cy g K K yX4_become cX4_become 4 none (rmd 2 0 0) [vr g 39, vr g told, vi toldSize] M x (L μ) (PE none M x (L o)) :=
 Cn.of (by decide) (Nat.le_of_ble_eq_true rfl) (eX4_become hS hc told toldSize μ htold hf (PE_i _ _ _ _))
def fX11_plan  (μ : Mem) : Option (Int × Mem) :=
  (fX6_readPlan (μ 25 1) μ).bind fun q1 =>
  if w32 q1.1 = 0 then
    (fX4_become 4 (q1.2 3 3) q1.2).bind fun μ3 =>
    some ((q1.1, μ3))
  else
    some ((q1.1, q1.2))
set_option maxRecDepth 4000 in
theorem eX11_plan (hS : Sd M K P L) (hc : CIn P 0 41)  (μ : Mem)  {o : Int × Mem} (hf : fX11_plan  μ = some o) (hr : (fun o : Int × Mem => Φ (some (vi o.1)) M x (L o.2)) o) : Ev l D cy g K yX11_plan cX11_plan 2 (some .int) (rmd 9 0 0) (MX D cy g K (rmd 9 0 0) Φ) 0 0 M x (L μ) 0 [(0, vr g 0)] [] := by
  unfold fX11_plan at hf
  refine ev_aload_n dX11_plan_0 0 rfl ?_
  refine ev_getK 1 dX11_plan_1 (hS.lt (hc 0 rfl)) rfl (hS.K1 (hc 0 rfl) rfl) ciX11 (by decide) rfl flX11_21 ?_
  refine ev_aload_n dX11_plan_4 0 rfl ?_
  refine ev_getK 4 dX11_plan_5 (hS.lt (hc 0 rfl)) rfl (hS.K1 (hc 0 rfl) rfl) ciX11 (by decide) rfl flX11_40 ?_
  refine cl_V1 (As := []) (st := [vr g 3]) miX7_cakes (tX7_cakes hS (hc.w rfl rfl) μ (o := (μ 25 1)) rfl) dX11_plan_8 lkX11_133 inX7_cakes rfl (hS.lt (hc 25 rfl)) rfl ⟨rfl, rfl⟩ ⟨⟨Nat.le_of_ble_eq_true rfl, Nat.le_of_ble_eq_true rfl⟩, Nat.zero_le _, Nat.zero_le _⟩ (Nat.le_of_ble_eq_true rfl) ?_
  obtain ⟨q1, hq1, hf⟩ := Option.bind_eq_some_iff.mp hf
  refine cl_V1 (As := [vi (μ 25 1)]) (st := []) miX6_readPlan (tX6_readPlan hS (hc.w rfl rfl) (μ 25 1) μ hq1) dX11_plan_11 lkX11_136 inX6_readPlan rfl (hS.lt (hc 3 rfl)) rfl ⟨rfl, rfl⟩ ⟨⟨Nat.le_of_ble_eq_true rfl, Nat.le_of_ble_eq_true rfl⟩, Nat.zero_le _, Nat.zero_le _⟩ (Nat.le_of_ble_eq_true rfl) ?_
  refine ev_istore_n (al2 := [(1, vi q1.1), (0, vr g 0)]) dX11_plan_14 1 rfl (by decide) rfl ?_
  refine ev_iload_n dX11_plan_15 0 rfl ?_
  refine ev_if_ne 40 dX11_plan_16 (by decide) (fun h2 => ?_) (fun h2 => ?_)
  · rw [if_neg h2] at hf
    refine ev_iload_n dX11_plan_40 0 rfl ?_
    obtain rfl := Option.some.inj hf
    exact ev_iret dX11_plan_41 rfl ⟨Nat.zero_le _, Nat.zero_le _⟩ hr
  · rw [if_pos h2] at hf
    refine ev_aload_n dX11_plan_19 1 rfl ?_
    refine ev_getK 5 dX11_plan_20 (hS.lt (hc 0 rfl)) rfl (hS.K1 (hc 0 rfl) rfl) ciX11 (by decide) rfl flX11_47 ?_
    refine ev_aload_n dX11_plan_23 1 rfl ?_
    refine ev_getK 1 dX11_plan_24 (hS.lt (hc 0 rfl)) rfl (hS.K1 (hc 0 rfl) rfl) ciX11 (by decide) rfl flX11_21 ?_
    refine cl_V1 (As := []) (st := [vr g 39]) miX6_read (tX6_read hS (hc.w rfl rfl) q1.2 rfl) dX11_plan_27 lkX11_140 inX6_read rfl (hS.lt (hc 3 rfl)) rfl ⟨rfl, rfl⟩ ⟨⟨Nat.le_of_ble_eq_true rfl, Nat.le_of_ble_eq_true rfl⟩, Nat.zero_le _, Nat.zero_le _⟩ (Nat.le_of_ble_eq_true rfl) ?_
    refine ev_aload_n dX11_plan_30 1 rfl ?_
    refine ev_getK 1 dX11_plan_31 (hS.lt (hc 0 rfl)) rfl (hS.K1 (hc 0 rfl) rfl) ciX11 (by decide) rfl flX11_21 ?_
    refine cl_V1 (As := []) (st := [vr g 4, vr g 39]) miX6_readSize (tX6_readSize hS (hc.w rfl rfl) q1.2 (o := (q1.2 3 3)) rfl) dX11_plan_34 lkX11_144 inX6_readSize rfl (hS.lt (hc 3 rfl)) rfl ⟨rfl, rfl⟩ ⟨⟨Nat.le_of_ble_eq_true rfl, Nat.le_of_ble_eq_true rfl⟩, Nat.zero_le _, Nat.zero_le _⟩ (Nat.le_of_ble_eq_true rfl) ?_
    obtain ⟨μ3, hμ3, hf⟩ := Option.bind_eq_some_iff.mp hf
    refine cl_V0 (As := [vr g 4, vi (q1.2 3 3)]) (st := []) miX4_become (tX4_become hS (hc.w rfl rfl) 4 (q1.2 3 3) q1.2 (⟨(hc 4 rfl), rfl⟩) hμ3) dX11_plan_37 lkX11_147 inX4_become rfl (hS.lt (hc 39 rfl)) rfl ⟨rfl, rfl⟩ ⟨⟨Nat.le_of_ble_eq_true rfl, Nat.le_of_ble_eq_true rfl⟩, Nat.zero_le _, Nat.zero_le _⟩ (Nat.le_of_ble_eq_true rfl) ?_
    refine ev_iload_n dX11_plan_40 0 rfl ?_
    obtain rfl := Option.some.inj hf
    exact ev_iret dX11_plan_41 rfl ⟨Nat.zero_le _, Nat.zero_le _⟩ hr
theorem tX11_plan (hS : Sd M K P L) (hc : CIn P 0 41) (μ : Mem) {o : Int × Mem} (hf : fX11_plan μ = some o) : Cn l D cy g K K yX11_plan cX11_plan 2 (some .int) (rmd 9 0 0) [vr g 0] M x (L μ) (PE (some (vi o.1)) M x (L o.2)) :=
 Cn.of (by decide) (Nat.le_of_ble_eq_true rfl) (eX11_plan hS hc μ hf (PE_i _ _ _ _))
def fX6_readWished (griddle : Nat) (told : Int) (μ : Mem) : Option (Int × Mem) :=
  (fX9_isName μ).bind fun v1 =>
  if v1 = true then
    (fX2_find griddle (μ 1 6) μ).bind fun v3 =>
    if w32 v3 = w32 (-1) then
      lt (fX6_wrong 2 μ) fun q17 =>
      some ((0, q17.2))
    else
      if w32 (i_and (i_shr told v3) 1) = w32 1 then
        lt (fX6_wrong 3 μ) fun q16 =>
        some ((0, q16.2))
      else
        (fX9_step μ).bind fun μ6 =>
        (fX9_word μ6).bind fun v7 =>
        if (fX10_isLie v7) = true then
          lt (fX6_keep v3 μ6) fun μ10 =>
          (fX9_word μ10).bind fun v11 =>
          lt (upd2 μ10 3 4 (i_or (μ10 3 4) (i_shl (wsen.getD (v11 - 1000) 0) v3))) fun μ13 =>
          (fX9_step μ13).bind fun μ14 =>
          some (((i_shl 1 v3), μ14))
        else
          lt (fX6_wrong 1 μ6) fun q15 =>
          some ((0, q15.2))
  else
    lt (fX6_wrong 1 μ) fun q18 =>
    some ((0, q18.2))
set_option maxRecDepth 4000 in
theorem eX6_readWished (hS : Sd M K P L) (hc : CIn P 1 39) (griddle : Nat) (told : Int) (μ : Mem) (hgriddle : isGr griddle) {o : Int × Mem} (hf : fX6_readWished griddle told μ = some o) (hr : (fun o : Int × Mem => Φ (some (vi o.1)) M x (L o.2)) o) : Ev l D cy g K yX6_readWished cX6_readWished 4 (some .int) (rmd 6 0 0) (MX D cy g K (rmd 6 0 0) Φ) 0 0 M x (L μ) 0 [(0, vr g 3), (1, vr g griddle), (2, vi told)] [] := by
  unfold fX6_readWished at hf
  refine ev_aload_n dX6_readWished_0 0 rfl ?_
  refine ev_getK 0 dX6_readWished_1 (hS.lt (hc 3 rfl)) rfl (hS.K1 (hc 3 rfl) rfl) ciX6 (by decide) rfl flX6_15 ?_
  obtain ⟨v1, hv1, hf⟩ := Option.bind_eq_some_iff.mp hf
  refine cl_V1 (As := []) (st := []) miX9_isName (tX9_isName hS (hc.w rfl rfl) μ hv1) dX6_readWished_4 lkX6_106 inX9_isName rfl (hS.lt (hc 1 rfl)) rfl ⟨rfl, rfl⟩ ⟨⟨Nat.le_of_ble_eq_true rfl, Nat.le_of_ble_eq_true rfl⟩, Nat.zero_le _, Nat.zero_le _⟩ (Nat.le_of_ble_eq_true rfl) ?_
  refine ev_ifb_ne 18 dX6_readWished_7 (by decide) (fun h2 => ?_) (fun h2 => ?_)
  · rw [if_pos h2] at hf
    refine ev_aload_n dX6_readWished_18 1 rfl ?_
    refine ev_aload_n dX6_readWished_19 0 rfl ?_
    refine ev_getK 0 dX6_readWished_20 (hS.lt (hc 3 rfl)) rfl (hS.K1 (hc 3 rfl) rfl) ciX6 (by decide) rfl flX6_15 ?_
    refine cl_V1 (As := []) (st := [vr g griddle]) miX9_letters (tX9_letters hS (hc.w rfl rfl) μ (o := (μ 1 6)) rfl) dX6_readWished_23 lkX6_110 inX9_letters rfl (hS.lt (hc 1 rfl)) rfl ⟨rfl, rfl⟩ ⟨⟨Nat.le_of_ble_eq_true rfl, Nat.le_of_ble_eq_true rfl⟩, Nat.zero_le _, Nat.zero_le _⟩ (Nat.le_of_ble_eq_true rfl) ?_
    obtain ⟨v3, hv3, hf⟩ := Option.bind_eq_some_iff.mp hf
    refine cl_V1 (As := [vl (μ 1 6)]) (st := []) miX2_find (tX2_find hS (hc.w rfl rfl) griddle (μ 1 6) μ hgriddle hv3) dX6_readWished_26 lkX6_114 inX2_find rfl (hS.lt (hc _ (inR_w (i_Gr0 hgriddle) rfl rfl))) (s_Gr0 hgriddle) ⟨rfl, rfl⟩ ⟨⟨Nat.le_of_ble_eq_true rfl, Nat.le_of_ble_eq_true rfl⟩, Nat.zero_le _, Nat.zero_le _⟩ (Nat.le_of_ble_eq_true rfl) ?_
    refine ev_istore_n (al2 := [(3, vi v3), (0, vr g 3), (1, vr g griddle), (2, vi told)]) dX6_readWished_29 3 rfl (by decide) rfl ?_
    refine ev_iload_n dX6_readWished_30 0 rfl ?_
    refine ev_iconst dX6_readWished_31 ?_
    refine ev_icmp_ne 43 dX6_readWished_32 (by decide) (fun h4 => ?_) (fun h4 => ?_)
    · rw [if_neg h4] at hf
      refine ev_iload_n dX6_readWished_43 3 rfl ?_
      refine ev_iload_n dX6_readWished_44 0 rfl ?_
      refine ev_ishr dX6_readWished_45 ?_
      refine ev_iconst dX6_readWished_46 ?_
      refine ev_iand dX6_readWished_47 ?_
      refine ev_iconst dX6_readWished_48 ?_
      refine ev_icmp_ne 60 dX6_readWished_49 (by decide) (fun h5 => ?_) (fun h5 => ?_)
      · rw [if_neg h5] at hf
        refine ev_aload_n dX6_readWished_60 1 rfl ?_
        refine ev_getK 0 dX6_readWished_61 (hS.lt (hc 3 rfl)) rfl (hS.K1 (hc 3 rfl) rfl) ciX6 (by decide) rfl flX6_15 ?_
        obtain ⟨μ6, hμ6, hf⟩ := Option.bind_eq_some_iff.mp hf
        refine cl_V0 (As := []) (st := []) miX9_step (tX9_step hS (hc.w rfl rfl) μ hμ6) dX6_readWished_64 lkX6_99 inX9_step rfl (hS.lt (hc 1 rfl)) rfl ⟨rfl, rfl⟩ ⟨⟨Nat.le_of_ble_eq_true rfl, Nat.le_of_ble_eq_true rfl⟩, Nat.zero_le _, Nat.zero_le _⟩ (Nat.le_of_ble_eq_true rfl) ?_
        refine ev_aload_n dX6_readWished_67 1 rfl ?_
        refine ev_getK 0 dX6_readWished_68 (hS.lt (hc 3 rfl)) rfl (hS.K1 (hc 3 rfl) rfl) ciX6 (by decide) rfl flX6_15 ?_
        obtain ⟨v7, hv7, hf⟩ := Option.bind_eq_some_iff.mp hf
        refine cl_V1 (As := []) (st := []) miX9_word (tX9_word hS (hc.w rfl rfl) μ6 hv7) dX6_readWished_71 lkX6_118 inX9_word rfl (hS.lt (hc 1 rfl)) rfl ⟨rfl, rfl⟩ ⟨⟨Nat.le_of_ble_eq_true rfl, Nat.le_of_ble_eq_true rfl⟩, Nat.zero_le _, Nat.zero_le _⟩ (Nat.le_of_ble_eq_true rfl) ?_
        refine cl_W1 (As := []) (st := []) miX10_isLie (tX10_isLie v7 (L μ6) (rk_fX9_word hv7) (o := (fX10_isLie v7)) rfl) dX6_readWished_74 lkX6_134 inX10_isLie rfl (rk_fX9_word hv7) rfl ⟨⟨Nat.le_of_ble_eq_true rfl, Nat.le_of_ble_eq_true rfl⟩, Nat.zero_le _, Nat.zero_le _⟩ (Nat.le_of_ble_eq_true rfl) ?_
        refine ev_ifb_ne 88 dX6_readWished_77 (by decide) (fun h9 => ?_) (fun h9 => ?_)
        · rw [if_pos h9] at hf
          refine ev_aload_n dX6_readWished_88 1 rfl ?_
          refine ev_iload_n dX6_readWished_89 0 rfl ?_
          obtain ⟨μ10, hμ10, hf⟩ := lt_elim hf
          refine cl_V0 (As := [vi v3]) (st := []) miX6_keep (tX6_keep hS (hc.w rfl rfl) v3 μ6 hμ10.symm) dX6_readWished_90 lkX6_156 inX6_keep rfl (hS.lt (hc 3 rfl)) rfl ⟨rfl, rfl⟩ ⟨⟨Nat.le_of_ble_eq_true rfl, Nat.le_of_ble_eq_true rfl⟩, Nat.zero_le _, Nat.zero_le _⟩ (Nat.le_of_ble_eq_true rfl) ?_
          refine ev_aload_n dX6_readWished_93 1 rfl ?_
          refine ev_dup dX6_readWished_94 rfl ?_
          refine ev_getI 4 dX6_readWished_95 (hS.lt (hc 3 rfl)) rfl (hS.mem _ (hc 3 rfl)) ciX6 (by decide) rfl flX6_23 ?_
          refine ev_aload_n dX6_readWished_98 1 rfl ?_
          refine ev_getK 0 dX6_readWished_99 (hS.lt (hc 3 rfl)) rfl (hS.K1 (hc 3 rfl) rfl) ciX6 (by decide) rfl flX6_15 ?_
          obtain ⟨v11, hv11, hf⟩ := Option.bind_eq_some_iff.mp hf
          refine cl_V1 (As := []) (st := [vi (μ10 3 4), vr g 3]) miX9_word (tX9_word hS (hc.w rfl rfl) μ10 hv11) dX6_readWished_102 lkX6_118 inX9_word rfl (hS.lt (hc 1 rfl)) rfl ⟨rfl, rfl⟩ ⟨⟨Nat.le_of_ble_eq_true rfl, Nat.le_of_ble_eq_true rfl⟩, Nat.zero_le _, Nat.zero_le _⟩ (Nat.le_of_ble_eq_true rfl) ?_
          refine cl_W1 (As := []) (st := [vi (μ10 3 4), vr g 3]) miX10_sense (tX10_sense v11 (L μ10) (rk_fX9_word hv11) (o := (wsen.getD (v11 - 1000) 0)) rfl) dX6_readWished_105 lkX6_125 inX10_sense rfl (rk_fX9_word hv11) rfl ⟨⟨Nat.le_of_ble_eq_true rfl, Nat.le_of_ble_eq_true rfl⟩, Nat.zero_le _, Nat.zero_le _⟩ (Nat.le_of_ble_eq_true rfl) ?_
          refine ev_iload_n dX6_readWished_108 0 rfl ?_
          refine ev_ishl dX6_readWished_109 ?_
          refine ev_ior dX6_readWished_110 ?_
          obtain ⟨μ13, hμ13, hf⟩ := lt_elim hf
          refine ev_putI 4 dX6_readWished_111 (hS.lt (hc 3 rfl)) rfl ciX6 (by decide) (Or.inl rfl) rfl rfl flX6_23 (hS.up (hc 3 rfl) hμ13) ?_
          refine ev_aload_n dX6_readWished_114 1 rfl ?_
          refine ev_getK 0 dX6_readWished_115 (hS.lt (hc 3 rfl)) rfl (hS.K1 (hc 3 rfl) rfl) ciX6 (by decide) rfl flX6_15 ?_
          obtain ⟨μ14, hμ14, hf⟩ := Option.bind_eq_some_iff.mp hf
          refine cl_V0 (As := []) (st := []) miX9_step (tX9_step hS (hc.w rfl rfl) μ13 hμ14) dX6_readWished_118 lkX6_99 inX9_step rfl (hS.lt (hc 1 rfl)) rfl ⟨rfl, rfl⟩ ⟨⟨Nat.le_of_ble_eq_true rfl, Nat.le_of_ble_eq_true rfl⟩, Nat.zero_le _, Nat.zero_le _⟩ (Nat.le_of_ble_eq_true rfl) ?_
          refine ev_iconst dX6_readWished_121 ?_
          refine ev_iload_n dX6_readWished_122 0 rfl ?_
          refine ev_ishl dX6_readWished_123 ?_
          obtain rfl := Option.some.inj hf
          exact ev_iret dX6_readWished_124 rfl ⟨Nat.zero_le _, Nat.zero_le _⟩ hr
        · rw [if_neg h9] at hf
          refine ev_aload_n dX6_readWished_80 1 rfl ?_
          refine ev_iconst dX6_readWished_81 ?_
          obtain ⟨q15, hq15, hf⟩ := lt_elim hf
          refine cl_V1 (As := [vi 1]) (st := []) miX6_wrong (tX6_wrong hS (hc.w rfl rfl) 1 μ6 hq15.symm) dX6_readWished_82 lkX6_74 inX6_wrong rfl (hS.lt (hc 3 rfl)) rfl ⟨rfl, rfl⟩ ⟨⟨Nat.le_of_ble_eq_true rfl, Nat.le_of_ble_eq_true rfl⟩, Nat.zero_le _, Nat.zero_le _⟩ (Nat.le_of_ble_eq_true rfl) ?_
          refine ev_pop dX6_readWished_85 rfl ?_
          refine ev_iconst dX6_readWished_86 ?_
          obtain rfl := Option.some.inj hf
          exact ev_iret dX6_readWished_87 rfl ⟨Nat.zero_le _, Nat.zero_le _⟩ hr
      · rw [if_pos h5] at hf
        refine ev_aload_n dX6_readWished_52 1 rfl ?_
        refine ev_iconst dX6_readWished_53 ?_
        obtain ⟨q16, hq16, hf⟩ := lt_elim hf
        refine cl_V1 (As := [vi 3]) (st := []) miX6_wrong (tX6_wrong hS (hc.w rfl rfl) 3 μ hq16.symm) dX6_readWished_54 lkX6_74 inX6_wrong rfl (hS.lt (hc 3 rfl)) rfl ⟨rfl, rfl⟩ ⟨⟨Nat.le_of_ble_eq_true rfl, Nat.le_of_ble_eq_true rfl⟩, Nat.zero_le _, Nat.zero_le _⟩ (Nat.le_of_ble_eq_true rfl) ?_
        refine ev_pop dX6_readWished_57 rfl ?_
        refine ev_iconst dX6_readWished_58 ?_
        obtain rfl := Option.some.inj hf
        exact ev_iret dX6_readWished_59 rfl ⟨Nat.zero_le _, Nat.zero_le _⟩ hr
    · rw [if_pos h4] at hf
      refine ev_aload_n dX6_readWished_35 1 rfl ?_
      refine ev_iconst dX6_readWished_36 ?_
      obtain ⟨q17, hq17, hf⟩ := lt_elim hf
      refine cl_V1 (As := [vi 2]) (st := []) miX6_wrong (tX6_wrong hS (hc.w rfl rfl) 2 μ hq17.symm) dX6_readWished_37 lkX6_74 inX6_wrong rfl (hS.lt (hc 3 rfl)) rfl ⟨rfl, rfl⟩ ⟨⟨Nat.le_of_ble_eq_true rfl, Nat.le_of_ble_eq_true rfl⟩, Nat.zero_le _, Nat.zero_le _⟩ (Nat.le_of_ble_eq_true rfl) ?_
      refine ev_pop dX6_readWished_40 rfl ?_
      refine ev_iconst dX6_readWished_41 ?_
      obtain rfl := Option.some.inj hf
      exact ev_iret dX6_readWished_42 rfl ⟨Nat.zero_le _, Nat.zero_le _⟩ hr
  · rw [if_neg h2] at hf
    refine ev_aload_n dX6_readWished_10 0 rfl ?_
    refine ev_iconst dX6_readWished_11 ?_
    obtain ⟨q18, hq18, hf⟩ := lt_elim hf
    refine cl_V1 (As := [vi 1]) (st := []) miX6_wrong (tX6_wrong hS (hc.w rfl rfl) 1 μ hq18.symm) dX6_readWished_12 lkX6_74 inX6_wrong rfl (hS.lt (hc 3 rfl)) rfl ⟨rfl, rfl⟩ ⟨⟨Nat.le_of_ble_eq_true rfl, Nat.le_of_ble_eq_true rfl⟩, Nat.zero_le _, Nat.zero_le _⟩ (Nat.le_of_ble_eq_true rfl) ?_
    refine ev_pop dX6_readWished_15 rfl ?_
    refine ev_iconst dX6_readWished_16 ?_
    obtain rfl := Option.some.inj hf
    exact ev_iret dX6_readWished_17 rfl ⟨Nat.zero_le _, Nat.zero_le _⟩ hr
theorem tX6_readWished (hS : Sd M K P L) (hc : CIn P 1 39) (griddle : Nat) (told : Int) (μ : Mem) (hgriddle : isGr griddle) {o : Int × Mem} (hf : fX6_readWished griddle told μ = some o) : Cn l D cy g K K yX6_readWished cX6_readWished 4 (some .int) (rmd 6 0 0) [vr g 3, vr g griddle, vi told] M x (L μ) (PE (some (vi o.1)) M x (L o.2)) :=
 Cn.of (by decide) (Nat.le_of_ble_eq_true rfl) (eX6_readWished hS hc griddle told μ hgriddle hf (PE_i _ _ _ _))
def fX6_readWish_b8 (griddle : Nat) (v2 : Int) (v3 : Int) (μ : Mem) : Option ((Int × Int × Mem) ⊕ (Mem)) :=
  if w32 v3 < w32 (μ griddle 0) then
    if w32 (μ 3 1) = 0 then
      (fX6_readWished griddle v2 μ).bind fun q6 =>
      lt (i_or v2 q6.1) fun v7 =>
      some (.inl (v7, (v3 + 1), q6.2))
    else
      some (.inr μ)
  else
    some (.inr μ)
set_option maxRecDepth 4000 in
theorem tX6_readWish_b8 (hS : Sd M K P L) (hc : CIn P 1 39) (griddle : Nat) (v2 : Int) (v3 : Int) (μ : Mem) (hgriddle : isGr griddle) {o : (Int × Int × Mem) ⊕ (Mem)} (hf : fX6_readWish_b8 griddle v2 v3 μ = some o) (hr : (Sum.elim (fun s : Int × Int × Mem => Ev l D cy g K yX6_readWish cX6_readWish 4 (some .int) (rmd 8 0 0) (MX D cy g K (rmd 8 0 0) Φ) 0 0 M x (L s.2.2) 8 [(0, vr g 3), (1, vr g griddle), (2, vi s.1), (3, vi s.2.1)] []) (fun e : Mem => Ev l D cy g K yX6_readWish cX6_readWish 4 (some .int) (rmd 8 0 0) (MX D cy g K (rmd 8 0 0) Φ) 0 0 M x (L e) 38 [(0, vr g 3)] [])) o) : Ev l D cy g K yX6_readWish cX6_readWish 4 (some .int) (rmd 8 0 0) (MX D cy g K (rmd 8 0 0) Φ) 0 0 M x (L μ) 8 [(0, vr g 3), (1, vr g griddle), (2, vi v2), (3, vi v3)] [] := by
  unfold fX6_readWish_b8 at hf
  refine ev_iload_n dX6_readWish_8 3 rfl ?_
  refine ev_aload_n dX6_readWish_9 1 rfl ?_
  refine cl_V1 (As := []) (st := [vi v3]) miX2_size (tX2_size hS (hc.w rfl rfl) griddle μ hgriddle (o := (μ griddle 0)) rfl) dX6_readWish_10 lkX6_85 inX2_size rfl (hS.lt (hc _ (inR_w (i_Gr0 hgriddle) rfl rfl))) (s_Gr0 hgriddle) ⟨rfl, rfl⟩ ⟨⟨Nat.le_of_ble_eq_true rfl, Nat.le_of_ble_eq_true rfl⟩, Nat.zero_le _, Nat.zero_le _⟩ (Nat.le_of_ble_eq_true rfl) ?_
  refine ev_icmp_ge 38 dX6_readWish_13 (by decide) (fun h4 => ?_) (fun h4 => ?_)
  · rw [if_neg h4] at hf
    obtain rfl := Option.some.inj hf
    refine ev_sub [0] rfl ?_
    exact hr
  · rw [if_pos h4] at hf
    refine ev_aload_n dX6_readWish_16 0 rfl ?_
    refine ev_getI 1 dX6_readWish_17 (hS.lt (hc 3 rfl)) rfl (hS.mem _ (hc 3 rfl)) ciX6 (by decide) rfl flX6_34 ?_
    refine ev_if_ne 38 dX6_readWish_20 (by decide) (fun h5 => ?_) (fun h5 => ?_)
    · rw [if_neg h5] at hf
      obtain rfl := Option.some.inj hf
      refine ev_sub [0] rfl ?_
      exact hr
    · rw [if_pos h5] at hf
      refine ev_iload_n dX6_readWish_23 2 rfl ?_
      refine ev_aload_n dX6_readWish_24 0 rfl ?_
      refine ev_aload_n dX6_readWish_25 1 rfl ?_
      refine ev_iload_n dX6_readWish_26 2 rfl ?_
      obtain ⟨q6, hq6, hf⟩ := Option.bind_eq_some_iff.mp hf
      refine cl_V1 (As := [vr g griddle, vi v2]) (st := [vi v2]) miX6_readWished (tX6_readWished hS (hc.w rfl rfl) griddle v2 μ hgriddle hq6) dX6_readWish_27 lkX6_88 inX6_readWished rfl (hS.lt (hc 3 rfl)) rfl ⟨rfl, rfl⟩ ⟨⟨Nat.le_of_ble_eq_true rfl, Nat.le_of_ble_eq_true rfl⟩, Nat.zero_le _, Nat.zero_le _⟩ (Nat.le_of_ble_eq_true rfl) ?_
      refine ev_ior dX6_readWish_30 ?_
      obtain ⟨v7, hv7, hf⟩ := lt_elim hf
      refine ev_rni hv7 ?_
      refine ev_istore_n (al2 := [(2, vi v7), (0, vr g 3), (1, vr g griddle), (3, vi v3)]) dX6_readWish_31 2 rfl (by decide) rfl ?_
      refine ev_iinc (al2 := [(3, vi (v3 + 1)), (2, vi v7), (0, vr g 3), (1, vr g griddle)]) dX6_readWish_32 3 rfl (by decide) rfl ?_
      refine ev_goto 8 dX6_readWish_35 (by decide) ?_
      obtain rfl := Option.some.inj hf
      refine ev_sub [2, 3, 1, 0] rfl ?_
      exact hr
def fX6_readWish_j38 (griddle : Nat) (μ : Mem) : Option (Int × Mem) :=
  if (fX9_is 101 μ) = true then
    lt (fX6_finish μ) fun q10 =>
    some ((q10.1, q10.2))
  else
    lt (fX6_wrong 1 μ) fun q11 =>
    lt (fX6_finish q11.2) fun q12 =>
    some ((q12.1, q12.2))
set_option maxRecDepth 4000 in
theorem tX6_readWish_j38 (hS : Sd M K P L) (hc : CIn P 1 39) (griddle : Nat) (μ : Mem) (hgriddle : isGr griddle) {o : Int × Mem} (hf : fX6_readWish_j38 griddle μ = some o) (hr : (fun o : Int × Mem => Φ (some (vi o.1)) M x (L o.2)) o) : Ev l D cy g K yX6_readWish cX6_readWish 4 (some .int) (rmd 8 0 0) (MX D cy g K (rmd 8 0 0) Φ) 0 0 M x (L μ) 38 [(0, vr g 3)] [] := by
  unfold fX6_readWish_j38 at hf
  refine ev_aload_n dX6_readWish_38 0 rfl ?_
  refine ev_getK 0 dX6_readWish_39 (hS.lt (hc 3 rfl)) rfl (hS.K1 (hc 3 rfl) rfl) ciX6 (by decide) rfl flX6_15 ?_
  refine ev_bipush dX6_readWish_42 (by decide) ?_
  refine cl_V1 (As := [vi 101]) (st := []) miX9_is (tX9_is hS (hc.w rfl rfl) 101 μ (o := (fX9_is 101 μ)) rfl) dX6_readWish_44 lkX6_37 inX9_is rfl (hS.lt (hc 1 rfl)) rfl ⟨rfl, rfl⟩ ⟨⟨Nat.le_of_ble_eq_true rfl, Nat.le_of_ble_eq_true rfl⟩, Nat.zero_le _, Nat.zero_le _⟩ (Nat.le_of_ble_eq_true rfl) ?_
  refine ev_ifb_ne 56 dX6_readWish_47 (by decide) (fun h9 => ?_) (fun h9 => ?_)
  · rw [if_pos h9] at hf
    refine ev_aload_n dX6_readWish_56 0 rfl ?_
    obtain ⟨q10, hq10, hf⟩ := lt_elim hf
    refine cl_V1 (As := []) (st := []) miX6_finish (tX6_finish hS (hc.w rfl rfl) μ hq10.symm) dX6_readWish_57 lkX6_78 inX6_finish rfl (hS.lt (hc 3 rfl)) rfl ⟨rfl, rfl⟩ ⟨⟨Nat.le_of_ble_eq_true rfl, Nat.le_of_ble_eq_true rfl⟩, Nat.zero_le _, Nat.zero_le _⟩ (Nat.le_of_ble_eq_true rfl) ?_
    obtain rfl := Option.some.inj hf
    exact ev_iret dX6_readWish_60 rfl ⟨Nat.zero_le _, Nat.zero_le _⟩ hr
  · rw [if_neg h9] at hf
    refine ev_aload_n dX6_readWish_50 0 rfl ?_
    refine ev_iconst dX6_readWish_51 ?_
    obtain ⟨q11, hq11, hf⟩ := lt_elim hf
    refine cl_V1 (As := [vi 1]) (st := []) miX6_wrong (tX6_wrong hS (hc.w rfl rfl) 1 μ hq11.symm) dX6_readWish_52 lkX6_74 inX6_wrong rfl (hS.lt (hc 3 rfl)) rfl ⟨rfl, rfl⟩ ⟨⟨Nat.le_of_ble_eq_true rfl, Nat.le_of_ble_eq_true rfl⟩, Nat.zero_le _, Nat.zero_le _⟩ (Nat.le_of_ble_eq_true rfl) ?_
    refine ev_pop dX6_readWish_55 rfl ?_
    refine ev_aload_n dX6_readWish_56 0 rfl ?_
    obtain ⟨q12, hq12, hf⟩ := lt_elim hf
    refine cl_V1 (As := []) (st := []) miX6_finish (tX6_finish hS (hc.w rfl rfl) q11.2 hq12.symm) dX6_readWish_57 lkX6_78 inX6_finish rfl (hS.lt (hc 3 rfl)) rfl ⟨rfl, rfl⟩ ⟨⟨Nat.le_of_ble_eq_true rfl, Nat.le_of_ble_eq_true rfl⟩, Nat.zero_le _, Nat.zero_le _⟩ (Nat.le_of_ble_eq_true rfl) ?_
    obtain rfl := Option.some.inj hf
    exact ev_iret dX6_readWish_60 rfl ⟨Nat.zero_le _, Nat.zero_le _⟩ hr
def fX6_readWish (griddle : Nat) (μ : Mem) : Option (Int × Mem) :=
  (fX6_begin μ).bind fun μ1 =>
  (loopN (fun s => fX6_readWish_b8 griddle s.1 s.2.1 s.2.2) FU (0, 0, μ1)).bind fun q8 =>
  fX6_readWish_j38 griddle q8
set_option maxRecDepth 4000 in
theorem eX6_readWish (hS : Sd M K P L) (hc : CIn P 1 39) (griddle : Nat) (μ : Mem) (hgriddle : isGr griddle) {o : Int × Mem} (hf : fX6_readWish griddle μ = some o) (hr : (fun o : Int × Mem => Φ (some (vi o.1)) M x (L o.2)) o) : Ev l D cy g K yX6_readWish cX6_readWish 4 (some .int) (rmd 8 0 0) (MX D cy g K (rmd 8 0 0) Φ) 0 0 M x (L μ) 0 [(0, vr g 3), (1, vr g griddle)] [] := by
  unfold fX6_readWish at hf
  refine ev_aload_n dX6_readWish_0 0 rfl ?_
  obtain ⟨μ1, hμ1, hf⟩ := Option.bind_eq_some_iff.mp hf
  refine cl_V0 (As := []) (st := []) miX6_begin (tX6_begin hS (hc.w rfl rfl) μ hμ1) dX6_readWish_1 lkX6_31 inX6_begin rfl (hS.lt (hc 3 rfl)) rfl ⟨rfl, rfl⟩ ⟨⟨Nat.le_of_ble_eq_true rfl, Nat.le_of_ble_eq_true rfl⟩, Nat.zero_le _, Nat.zero_le _⟩ (Nat.le_of_ble_eq_true rfl) ?_
  refine ev_iconst dX6_readWish_4 ?_
  refine ev_istore_n (al2 := [(2, vi 0), (0, vr g 3), (1, vr g griddle)]) dX6_readWish_5 2 rfl (by decide) rfl ?_
  refine ev_iconst dX6_readWish_6 ?_
  refine ev_istore_n (al2 := [(3, vi 0), (2, vi 0), (0, vr g 3), (1, vr g griddle)]) dX6_readWish_7 3 rfl (by decide) rfl ?_
  obtain ⟨q8, hq8, hf⟩ := Option.bind_eq_some_iff.mp hf
  refine ev_sub [2, 3, 1, 0] rfl ?_
  refine loop_ev (H := (fun s : Int × Int × Mem => Ev l D cy g K yX6_readWish cX6_readWish 4 (some .int) (rmd 8 0 0) (MX D cy g K (rmd 8 0 0) Φ) 0 0 M x (L s.2.2) 8 [(0, vr g 3), (1, vr g griddle), (2, vi s.1), (3, vi s.2.1)] [])) (Hx := (fun e : Mem => Ev l D cy g K yX6_readWish cX6_readWish 4 (some .int) (rmd 8 0 0) (MX D cy g K (rmd 8 0 0) Φ) 0 0 M x (L e) 38 [(0, vr g 3)] [])) (fun s o hb hr => tX6_readWish_b8 hS hc griddle s.1 s.2.1 s.2.2 hgriddle hb hr) FU _ _ hq8 ?_
  show Ev l D cy g K yX6_readWish cX6_readWish 4 (some .int) (rmd 8 0 0) (MX D cy g K (rmd 8 0 0) Φ) 0 0 M x (L q8) 38 [(0, vr g 3)] []
  refine ev_sub [0] rfl ?_
  exact tX6_readWish_j38 hS hc griddle q8 hgriddle hf hr
theorem tX6_readWish (hS : Sd M K P L) (hc : CIn P 1 39) (griddle : Nat) (μ : Mem) (hgriddle : isGr griddle) {o : Int × Mem} (hf : fX6_readWish griddle μ = some o) : Cn l D cy g K K yX6_readWish cX6_readWish 4 (some .int) (rmd 8 0 0) [vr g 3, vr g griddle] M x (L μ) (PE (some (vi o.1)) M x (L o.2)) :=
 Cn.of (by decide) (Nat.le_of_ble_eq_true rfl) (eX6_readWish hS hc griddle μ hgriddle hf (PE_i _ _ _ _))
def fX6_readUps  (μ : Mem) : Int :=
  (μ 3 4)
set_option maxRecDepth 4000 in
theorem eX6_readUps (hS : Sd M K P L) (hc : CIn P 3 4)  (μ : Mem)  {o : Int} (hf : fX6_readUps  μ = o) (hr : (fun o : Int => Φ (some (vi o)) M x (L μ)) o) : Ev l D cy g K yX6_readUps cX6_readUps 1 (some .int) (rmd 1 0 0) (MX D cy g K (rmd 1 0 0) Φ) 0 0 M x (L μ) 0 [(0, vr g 3)] [] := by
  unfold fX6_readUps at hf
  refine ev_aload_n dX6_readUps_0 0 rfl ?_
  refine ev_getI 4 dX6_readUps_1 (hS.lt (hc 3 rfl)) rfl (hS.mem _ (hc 3 rfl)) ciX6 (by decide) rfl flX6_23 ?_
  obtain rfl := hf
  exact ev_iret dX6_readUps_4 rfl ⟨Nat.zero_le _, Nat.zero_le _⟩ hr
theorem tX6_readUps (hS : Sd M K P L) (hc : CIn P 3 4) (μ : Mem) {o : Int} (hf : fX6_readUps μ = o) : Cn l D cy g K K yX6_readUps cX6_readUps 1 (some .int) (rmd 1 0 0) [vr g 3] M x (L μ) (PE (some (vi o)) M x (L μ)) :=
 Cn.of (by decide) (Nat.le_of_ble_eq_true rfl) (eX6_readUps hS hc μ hf (PE_i _ _ _ _))
def fX11_wish  (μ : Mem) : Option (Int × Mem) :=
  gd (((μ 0 2) = 5 ∨ (μ 0 2) = 15)) <|
  lt (μ 0 2).toNat fun r2 =>
  (fX6_readWish r2 μ).bind fun q3 =>
  if w32 q3.1 = 0 then
    (fX7_stackOf 4 (q3.2 3 4) q3.2).bind fun v5 =>
    lt (upd2 q3.2 0 6 v5) fun μ6 =>
    some ((q3.1, μ6))
  else
    some ((q3.1, q3.2))
set_option maxRecDepth 4000 in
theorem eX11_wish (hS : Sd M K P L) (hc : CIn P 0 39)  (μ : Mem)  {o : Int × Mem} (hf : fX11_wish  μ = some o) (hr : (fun o : Int × Mem => Φ (some (vi o.1)) M x (L o.2)) o) : Ev l D cy g K yX11_wish cX11_wish 2 (some .int) (rmd 9 0 0) (MX D cy g K (rmd 9 0 0) Φ) 0 0 M x (L μ) 0 [(0, vr g 0)] [] := by
  unfold fX11_wish at hf
  refine ev_aload_n dX11_wish_0 0 rfl ?_
  refine ev_getK 1 dX11_wish_1 (hS.lt (hc 0 rfl)) rfl (hS.K1 (hc 0 rfl) rfl) ciX11 (by decide) rfl flX11_21 ?_
  refine ev_aload_n dX11_wish_4 0 rfl ?_
  obtain ⟨g1, hf⟩ := gd_elim hf
  refine ev_getR 2 dX11_wish_5 (hS.lt (hc 0 rfl)) rfl (hS.mem _ (hc 0 rfl)) (hS.K0 (hc 0 rfl) rfl) (dy_Gr g1).2 ciX11 (by decide) rfl flX11_28 ?_
  obtain ⟨r2, hr2, hf⟩ := lt_elim hf
  refine ev_rn (congrArg (vr g) hr2) ?_
  have kr2 : isGr r2 := by rw [hr2]; exact (dy_Gr g1).1
  obtain ⟨q3, hq3, hf⟩ := Option.bind_eq_some_iff.mp hf
  refine cl_V1 (As := [vr g r2]) (st := []) miX6_readWish (tX6_readWish hS (hc.w rfl rfl) r2 μ kr2 hq3) dX11_wish_8 lkX11_151 inX6_readWish rfl (hS.lt (hc 3 rfl)) rfl ⟨rfl, rfl⟩ ⟨⟨Nat.le_of_ble_eq_true rfl, Nat.le_of_ble_eq_true rfl⟩, Nat.zero_le _, Nat.zero_le _⟩ (Nat.le_of_ble_eq_true rfl) ?_
  refine ev_istore_n (al2 := [(1, vi q3.1), (0, vr g 0)]) dX11_wish_11 1 rfl (by decide) rfl ?_
  refine ev_iload_n dX11_wish_12 0 rfl ?_
  refine ev_if_ne 41 dX11_wish_13 (by decide) (fun h4 => ?_) (fun h4 => ?_)
  · rw [if_neg h4] at hf
    refine ev_iload_n dX11_wish_41 0 rfl ?_
    obtain rfl := Option.some.inj hf
    exact ev_iret dX11_wish_42 rfl ⟨Nat.zero_le _, Nat.zero_le _⟩ hr
  · rw [if_pos h4] at hf
    refine ev_aload_n dX11_wish_16 1 rfl ?_
    refine ev_aload_n dX11_wish_17 1 rfl ?_
    refine ev_getK 4 dX11_wish_18 (hS.lt (hc 0 rfl)) rfl (hS.K1 (hc 0 rfl) rfl) ciX11 (by decide) rfl flX11_40 ?_
    refine ev_aload_n dX11_wish_21 1 rfl ?_
    refine ev_getK 1 dX11_wish_22 (hS.lt (hc 0 rfl)) rfl (hS.K1 (hc 0 rfl) rfl) ciX11 (by decide) rfl flX11_21 ?_
    refine cl_V1 (As := []) (st := [vr g 25, vr g 0]) miX6_read (tX6_read hS (hc.w rfl rfl) q3.2 rfl) dX11_wish_25 lkX11_140 inX6_read rfl (hS.lt (hc 3 rfl)) rfl ⟨rfl, rfl⟩ ⟨⟨Nat.le_of_ble_eq_true rfl, Nat.le_of_ble_eq_true rfl⟩, Nat.zero_le _, Nat.zero_le _⟩ (Nat.le_of_ble_eq_true rfl) ?_
    refine ev_aload_n dX11_wish_28 1 rfl ?_
    refine ev_getK 1 dX11_wish_29 (hS.lt (hc 0 rfl)) rfl (hS.K1 (hc 0 rfl) rfl) ciX11 (by decide) rfl flX11_21 ?_
    refine cl_V1 (As := []) (st := [vr g 4, vr g 25, vr g 0]) miX6_readUps (tX6_readUps hS (hc.w rfl rfl) q3.2 (o := (q3.2 3 4)) rfl) dX11_wish_32 lkX11_154 inX6_readUps rfl (hS.lt (hc 3 rfl)) rfl ⟨rfl, rfl⟩ ⟨⟨Nat.le_of_ble_eq_true rfl, Nat.le_of_ble_eq_true rfl⟩, Nat.zero_le _, Nat.zero_le _⟩ (Nat.le_of_ble_eq_true rfl) ?_
    obtain ⟨v5, hv5, hf⟩ := Option.bind_eq_some_iff.mp hf
    refine cl_V1 (As := [vr g 4, vi (q3.2 3 4)]) (st := [vr g 0]) miX7_stackOf (tX7_stackOf hS (hc.w rfl rfl) 4 (q3.2 3 4) q3.2 (⟨(hc 4 rfl), rfl⟩) hv5) dX11_wish_35 lkX11_157 inX7_stackOf rfl (hS.lt (hc 25 rfl)) rfl ⟨rfl, rfl⟩ ⟨⟨Nat.le_of_ble_eq_true rfl, Nat.le_of_ble_eq_true rfl⟩, Nat.zero_le _, Nat.zero_le _⟩ (Nat.le_of_ble_eq_true rfl) ?_
    obtain ⟨μ6, hμ6, hf⟩ := lt_elim hf
    refine ev_putI 6 dX11_wish_38 (hS.lt (hc 0 rfl)) rfl ciX11 (by decide) (Or.inl rfl) rfl rfl flX11_51 (hS.up (hc 0 rfl) hμ6) ?_
    refine ev_iload_n dX11_wish_41 0 rfl ?_
    obtain rfl := Option.some.inj hf
    exact ev_iret dX11_wish_42 rfl ⟨Nat.zero_le _, Nat.zero_le _⟩ hr
theorem tX11_wish (hS : Sd M K P L) (hc : CIn P 0 39) (μ : Mem) {o : Int × Mem} (hf : fX11_wish μ = some o) : Cn l D cy g K K yX11_wish cX11_wish 2 (some .int) (rmd 9 0 0) [vr g 0] M x (L μ) (PE (some (vi o.1)) M x (L o.2)) :=
 Cn.of (by decide) (Nat.le_of_ble_eq_true rfl) (eX11_wish hS hc μ hf (PE_i _ _ _ _))
def fX5_stack (k : Nat) (μ : Mem) : Int :=
  (μ k 1)
set_option maxRecDepth 4000 in
theorem eX5_stack (hS : Sd M K P L) (hc : CIn P 1 75) (k : Nat) (μ : Mem) (hk : isMo k) {o : Int} (hf : fX5_stack k μ = o) (hr : (fun o : Int => Φ (some (vi o)) M x (L μ)) o) : Ev l D cy g K yX5_stack cX5_stack 1 (some .int) (rmd 1 0 0) (MX D cy g K (rmd 1 0 0) Φ) 0 0 M x (L μ) 0 [(0, vr g k)] [] := by
  unfold fX5_stack at hf
  refine ev_aload_n dX5_stack_0 0 rfl ?_
  refine ev_getI 1 dX5_stack_1 (hS.lt (hc _ (inR_w (i_Mo0 hk) rfl rfl))) (s_Mo0 hk) (hS.mem _ (hc _ (inR_w (i_Mo0 hk) rfl rfl))) ciX5 (by decide) rfl flX5_19 ?_
  obtain rfl := hf
  exact ev_iret dX5_stack_4 rfl ⟨Nat.zero_le _, Nat.zero_le _⟩ hr
theorem tX5_stack (hS : Sd M K P L) (hc : CIn P 1 75) (k : Nat) (μ : Mem) (hk : isMo k) {o : Int} (hf : fX5_stack k μ = o) : Cn l D cy g K K yX5_stack cX5_stack 1 (some .int) (rmd 1 0 0) [vr g k] M x (L μ) (PE (some (vi o)) M x (L μ)) :=
 Cn.of (by decide) (Nat.le_of_ble_eq_true rfl) (eX5_stack hS hc k μ hk hf (PE_i _ _ _ _))
def fX7_cakeIn (stack : Int) (place : Int) (μ : Mem) : Int :=
  lt (if w32 place < 0 then
      (-1)
    else
      if w32 place < w32 (μ 25 1) then
        (fX11_at 28 (((i_shr stack (μ 25 2)) * 5) + place) μ)
      else
        (-1)) fun v1 =>
  v1
set_option maxRecDepth 4000 in
theorem eX7_cakeIn (hS : Sd M K P L) (hc : CIn P 1 29) (stack : Int) (place : Int) (μ : Mem)  {o : Int} (hf : fX7_cakeIn stack place μ = o) (hr : (fun o : Int => Φ (some (vi o)) M x (L μ)) o) : Ev l D cy g K yX7_cakeIn cX7_cakeIn 3 (some .int) (rmd 2 0 0) (MX D cy g K (rmd 2 0 0) Φ) 0 0 M x (L μ) 0 [(0, vr g 25), (1, vi stack), (2, vi place)] [] := by
  unfold fX7_cakeIn at hf
  refine ev_iload_n dX7_cakeIn_0 2 rfl ?_
  obtain ⟨v1, hv1, hf⟩ := lt_elim hf
  have hJv1 : Ev l D cy g K yX7_cakeIn cX7_cakeIn 3 (some .int) (rmd 2 0 0) (MX D cy g K (rmd 2 0 0) Φ) 0 0 M x (L μ) 33 [(0, vr g 25), (1, vi stack), (2, vi place)] [vi v1] := by
    obtain rfl := hf
    exact ev_iret dX7_cakeIn_33 rfl ⟨Nat.zero_le _, Nat.zero_le _⟩ hr
  refine ev_if_lt 12 dX7_cakeIn_1 (by decide) (fun h2 => ?_) (fun h2 => ?_)
  · refine ev_iconst dX7_cakeIn_12 ?_
    refine ev_goto 33 dX7_cakeIn_13 (by decide) ?_
    have e9 : v1 = (-1) := hv1.trans ((if_pos h2))
    subst e9
    exact hJv1
  · refine ev_iload_n dX7_cakeIn_4 2 rfl ?_
    refine ev_aload_n dX7_cakeIn_5 0 rfl ?_
    refine ev_getI 1 dX7_cakeIn_6 (hS.lt (hc 25 rfl)) rfl (hS.mem _ (hc 25 rfl)) ciX7 (by decide) rfl flX7_65 ?_
    refine ev_icmp_lt 16 dX7_cakeIn_9 (by decide) (fun h3 => ?_) (fun h3 => ?_)
    · refine ev_aload_n dX7_cakeIn_16 0 rfl ?_
      refine ev_getK 7 dX7_cakeIn_17 (hS.lt (hc 25 rfl)) rfl (hS.K1 (hc 25 rfl) rfl) ciX7 (by decide) rfl flX7_18 ?_
      refine ev_iload_n dX7_cakeIn_20 1 rfl ?_
      refine ev_aload_n dX7_cakeIn_21 0 rfl ?_
      refine ev_getI 2 dX7_cakeIn_22 (hS.lt (hc 25 rfl)) rfl (hS.mem _ (hc 25 rfl)) ciX7 (by decide) rfl flX7_69 ?_
      refine ev_ishr dX7_cakeIn_25 ?_
      refine ev_iconst dX7_cakeIn_26 ?_
      refine ev_imul dX7_cakeIn_27 ?_
      refine ev_iload_n dX7_cakeIn_28 2 rfl ?_
      refine ev_iadd dX7_cakeIn_29 ?_
      refine cl_N1 (As := [vr g 28, vi (((i_shr stack (μ 25 2)) * 5) + place)]) (st := []) (host := "HotCakes") miX11_at (tX11_at hS (hc.w rfl rfl) 28 (((i_shr stack (μ 25 2)) * 5) + place) μ (⟨(hc 28 rfl), rfl⟩) (o := (fX11_at 28 (((i_shr stack (μ 25 2)) * 5) + place) μ)) rfl) dX7_cakeIn_30 (by decide) stX11_at rfl ⟨⟨Nat.le_of_ble_eq_true rfl, Nat.le_of_ble_eq_true rfl⟩, Nat.zero_le _, Nat.zero_le _⟩ (Nat.le_of_ble_eq_true rfl) ?_
      have e9 : v1 = (fX11_at 28 (((i_shr stack (μ 25 2)) * 5) + place) μ) := hv1.trans (((if_neg h2)).trans (if_pos h3))
      subst e9
      exact hJv1
    · refine ev_iconst dX7_cakeIn_12 ?_
      refine ev_goto 33 dX7_cakeIn_13 (by decide) ?_
      have e9 : v1 = (-1) := hv1.trans (((if_neg h2)).trans (if_neg h3))
      subst e9
      exact hJv1
theorem tX7_cakeIn (hS : Sd M K P L) (hc : CIn P 1 29) (stack : Int) (place : Int) (μ : Mem) {o : Int} (hf : fX7_cakeIn stack place μ = o) : Cn l D cy g K K yX7_cakeIn cX7_cakeIn 3 (some .int) (rmd 2 0 0) [vr g 25, vi stack, vi place] M x (L μ) (PE (some (vi o)) M x (L μ)) :=
 Cn.of (by decide) (Nat.le_of_ble_eq_true rfl) (eX7_cakeIn hS hc stack place μ hf (PE_i _ _ _ _))
def fX7_placeOf_b2 (stack : Int) (cake : Int) (v1 : Int) (μ : Mem) : Option ((Int) ⊕ (Int)) :=
  if w32 v1 < w32 (μ 25 1) then
    if w32 (fX7_cakeIn stack v1 μ) = w32 cake then
      some (.inr v1)
    else
      some (.inl (v1 + 1))
  else
    some (.inr (-1))
set_option maxRecDepth 4000 in
theorem tX7_placeOf_b2 (hS : Sd M K P L) (hc : CIn P 1 29) (stack : Int) (cake : Int) (v1 : Int) (μ : Mem)  {o : (Int) ⊕ (Int)} (hf : fX7_placeOf_b2 stack cake v1 μ = some o) (hr : (Sum.elim (fun s : Int => Ev l D cy g K yX7_placeOf cX7_placeOf 4 (some .int) (rmd 3 0 0) (MX D cy g K (rmd 3 0 0) Φ) 0 0 M x (L μ) 2 [(0, vr g 25), (1, vi stack), (2, vi cake), (3, vi s)] []) (fun o : Int => Φ (some (vi o)) M x (L μ))) o) : Ev l D cy g K yX7_placeOf cX7_placeOf 4 (some .int) (rmd 3 0 0) (MX D cy g K (rmd 3 0 0) Φ) 0 0 M x (L μ) 2 [(0, vr g 25), (1, vi stack), (2, vi cake), (3, vi v1)] [] := by
  unfold fX7_placeOf_b2 at hf
  refine ev_iload_n dX7_placeOf_2 3 rfl ?_
  refine ev_aload_n dX7_placeOf_3 0 rfl ?_
  refine ev_getI 1 dX7_placeOf_4 (hS.lt (hc 25 rfl)) rfl (hS.mem _ (hc 25 rfl)) ciX7 (by decide) rfl flX7_65 ?_
  refine ev_icmp_ge 28 dX7_placeOf_7 (by decide) (fun h2 => ?_) (fun h2 => ?_)
  · rw [if_neg h2] at hf
    refine ev_iconst dX7_placeOf_28 ?_
    obtain rfl := Option.some.inj hf
    exact ev_iret dX7_placeOf_29 rfl ⟨Nat.zero_le _, Nat.zero_le _⟩ hr
  · rw [if_pos h2] at hf
    refine ev_aload_n dX7_placeOf_10 0 rfl ?_
    refine ev_iload_n dX7_placeOf_11 1 rfl ?_
    refine ev_iload_n dX7_placeOf_12 3 rfl ?_
    refine cl_V1 (As := [vi stack, vi v1]) (st := []) miX7_cakeIn (tX7_cakeIn hS (hc.w rfl rfl) stack v1 μ (o := (fX7_cakeIn stack v1 μ)) rfl) dX7_placeOf_13 lkX7_154 inX7_cakeIn rfl (hS.lt (hc 25 rfl)) rfl ⟨rfl, rfl⟩ ⟨⟨Nat.le_of_ble_eq_true rfl, Nat.le_of_ble_eq_true rfl⟩, Nat.zero_le _, Nat.zero_le _⟩ (Nat.le_of_ble_eq_true rfl) ?_
    refine ev_iload_n dX7_placeOf_16 2 rfl ?_
    refine ev_icmp_ne 22 dX7_placeOf_17 (by decide) (fun h3 => ?_) (fun h3 => ?_)
    · rw [if_neg h3] at hf
      refine ev_iinc (al2 := [(3, vi (v1 + 1)), (0, vr g 25), (1, vi stack), (2, vi cake)]) dX7_placeOf_22 3 rfl (by decide) rfl ?_
      refine ev_goto 2 dX7_placeOf_25 (by decide) ?_
      obtain rfl := Option.some.inj hf
      refine ev_sub [1, 2, 3, 0] rfl ?_
      exact hr
    · rw [if_pos h3] at hf
      refine ev_iload_n dX7_placeOf_20 3 rfl ?_
      obtain rfl := Option.some.inj hf
      exact ev_iret dX7_placeOf_21 rfl ⟨Nat.zero_le _, Nat.zero_le _⟩ hr
def fX7_placeOf (stack : Int) (cake : Int) (μ : Mem) : Option (Int) :=
  loopN (fun s => fX7_placeOf_b2 stack cake s μ) FU 0
set_option maxRecDepth 4000 in
theorem eX7_placeOf (hS : Sd M K P L) (hc : CIn P 1 29) (stack : Int) (cake : Int) (μ : Mem)  {o : Int} (hf : fX7_placeOf stack cake μ = some o) (hr : (fun o : Int => Φ (some (vi o)) M x (L μ)) o) : Ev l D cy g K yX7_placeOf cX7_placeOf 4 (some .int) (rmd 3 0 0) (MX D cy g K (rmd 3 0 0) Φ) 0 0 M x (L μ) 0 [(0, vr g 25), (1, vi stack), (2, vi cake)] [] := by
  unfold fX7_placeOf at hf
  refine ev_iconst dX7_placeOf_0 ?_
  refine ev_istore_n (al2 := [(3, vi 0), (0, vr g 25), (1, vi stack), (2, vi cake)]) dX7_placeOf_1 3 rfl (by decide) rfl ?_
  refine ev_sub [1, 2, 3, 0] rfl ?_
  exact loop_ev (H := (fun s : Int => Ev l D cy g K yX7_placeOf cX7_placeOf 4 (some .int) (rmd 3 0 0) (MX D cy g K (rmd 3 0 0) Φ) 0 0 M x (L μ) 2 [(0, vr g 25), (1, vi stack), (2, vi cake), (3, vi s)] [])) (Hx := (fun o : Int => Φ (some (vi o)) M x (L μ))) (fun s o hb hr => tX7_placeOf_b2 hS hc stack cake s μ hb hr) FU _ _ hf hr
theorem tX7_placeOf (hS : Sd M K P L) (hc : CIn P 1 29) (stack : Int) (cake : Int) (μ : Mem) {o : Int} (hf : fX7_placeOf stack cake μ = some o) : Cn l D cy g K K yX7_placeOf cX7_placeOf 4 (some .int) (rmd 3 0 0) [vr g 25, vi stack, vi cake] M x (L μ) (PE (some (vi o)) M x (L μ)) :=
 Cn.of (by decide) (Nat.le_of_ble_eq_true rfl) (eX7_placeOf hS hc stack cake μ hf (PE_i _ _ _ _))
def fX7_sideBitsOf (stack : Int) (μ : Mem) : Int :=
  (i_and stack ((i_shl 1 (μ 25 2)) - 1))
set_option maxRecDepth 4000 in
theorem eX7_sideBitsOf (hS : Sd M K P L) (hc : CIn P 25 26) (stack : Int) (μ : Mem)  {o : Int} (hf : fX7_sideBitsOf stack μ = o) (hr : (fun o : Int => Φ (some (vi o)) M x (L μ)) o) : Ev l D cy g K yX7_sideBitsOf cX7_sideBitsOf 2 (some .int) (rmd 1 0 0) (MX D cy g K (rmd 1 0 0) Φ) 0 0 M x (L μ) 0 [(0, vr g 25), (1, vi stack)] [] := by
  unfold fX7_sideBitsOf at hf
  refine ev_iload_n dX7_sideBitsOf_0 1 rfl ?_
  refine ev_iconst dX7_sideBitsOf_1 ?_
  refine ev_aload_n dX7_sideBitsOf_2 0 rfl ?_
  refine ev_getI 2 dX7_sideBitsOf_3 (hS.lt (hc 25 rfl)) rfl (hS.mem _ (hc 25 rfl)) ciX7 (by decide) rfl flX7_69 ?_
  refine ev_ishl dX7_sideBitsOf_6 ?_
  refine ev_iconst dX7_sideBitsOf_7 ?_
  refine ev_isub dX7_sideBitsOf_8 ?_
  refine ev_iand dX7_sideBitsOf_9 ?_
  obtain rfl := hf
  exact ev_iret dX7_sideBitsOf_10 rfl ⟨Nat.zero_le _, Nat.zero_le _⟩ hr
theorem tX7_sideBitsOf (hS : Sd M K P L) (hc : CIn P 25 26) (stack : Int) (μ : Mem) {o : Int} (hf : fX7_sideBitsOf stack μ = o) : Cn l D cy g K K yX7_sideBitsOf cX7_sideBitsOf 2 (some .int) (rmd 1 0 0) [vr g 25, vi stack] M x (L μ) (PE (some (vi o)) M x (L μ)) :=
 Cn.of (by decide) (Nat.le_of_ble_eq_true rfl) (eX7_sideBitsOf hS hc stack μ hf (PE_i _ _ _ _))
def fX7_isUp (stack : Int) (cake : Int) (μ : Mem) : Bool :=
  lt (if w32 (i_and (i_and stack ((i_shl 1 (μ 25 2)) - 1)) (fX11_at 26 cake μ)) = 0 then
      false
    else
      true) fun v1 =>
  v1
set_option maxRecDepth 4000 in
theorem eX7_isUp (hS : Sd M K P L) (hc : CIn P 1 27) (stack : Int) (cake : Int) (μ : Mem)  {o : Bool} (hf : fX7_isUp stack cake μ = o) (hr : (fun o : Bool => Φ (some (vb o)) M x (L μ)) o) : Ev l D cy g K yX7_isUp cX7_isUp 3 (some .boolean) (rmd 2 0 0) (MX D cy g K (rmd 2 0 0) Φ) 0 0 M x (L μ) 0 [(0, vr g 25), (1, vi stack), (2, vi cake)] [] := by
  unfold fX7_isUp at hf
  refine ev_aload_n dX7_isUp_0 0 rfl ?_
  refine ev_iload_n dX7_isUp_1 1 rfl ?_
  refine cl_V1 (As := [vi stack]) (st := []) miX7_sideBitsOf (tX7_sideBitsOf hS (hc.w rfl rfl) stack μ (o := (i_and stack ((i_shl 1 (μ 25 2)) - 1))) rfl) dX7_isUp_2 lkX7_157 inX7_sideBitsOf rfl (hS.lt (hc 25 rfl)) rfl ⟨rfl, rfl⟩ ⟨⟨Nat.le_of_ble_eq_true rfl, Nat.le_of_ble_eq_true rfl⟩, Nat.zero_le _, Nat.zero_le _⟩ (Nat.le_of_ble_eq_true rfl) ?_
  refine ev_aload_n dX7_isUp_5 0 rfl ?_
  refine ev_getK 5 dX7_isUp_6 (hS.lt (hc 25 rfl)) rfl (hS.K1 (hc 25 rfl) rfl) ciX7 (by decide) rfl flX7_9 ?_
  refine ev_iload_n dX7_isUp_9 2 rfl ?_
  refine cl_N1 (As := [vr g 26, vi cake]) (st := [vi (i_and stack ((i_shl 1 (μ 25 2)) - 1))]) (host := "HotCakes") miX11_at (tX11_at hS (hc.w rfl rfl) 26 cake μ (⟨(hc 26 rfl), rfl⟩) (o := (fX11_at 26 cake μ)) rfl) dX7_isUp_10 (by decide) stX11_at rfl ⟨⟨Nat.le_of_ble_eq_true rfl, Nat.le_of_ble_eq_true rfl⟩, Nat.zero_le _, Nat.zero_le _⟩ (Nat.le_of_ble_eq_true rfl) ?_
  refine ev_iand dX7_isUp_13 ?_
  obtain ⟨v1, hv1, hf⟩ := lt_elim hf
  have hJv1 : Ev l D cy g K yX7_isUp cX7_isUp 3 (some .boolean) (rmd 2 0 0) (MX D cy g K (rmd 2 0 0) Φ) 0 0 M x (L μ) 22 [(0, vr g 25), (1, vi stack), (2, vi cake)] [vb v1] := by
    obtain rfl := hf
    exact ev_bret (b := v1) dX7_isUp_22 rfl ⟨Nat.zero_le _, Nat.zero_le _⟩ hr
  refine ev_if_eq 21 dX7_isUp_14 (by decide) (fun h2 => ?_) (fun h2 => ?_)
  · refine ev_iconst dX7_isUp_21 ?_
    have e9 : v1 = false := hv1.trans ((if_pos h2))
    subst e9
    exact hJv1
  · refine ev_iconst dX7_isUp_17 ?_
    refine ev_goto 22 dX7_isUp_18 (by decide) ?_
    have e9 : v1 = true := hv1.trans ((if_neg h2))
    subst e9
    exact hJv1
theorem tX7_isUp (hS : Sd M K P L) (hc : CIn P 1 27) (stack : Int) (cake : Int) (μ : Mem) {o : Bool} (hf : fX7_isUp stack cake μ = o) : Cn l D cy g K K yX7_isUp cX7_isUp 3 (some .boolean) (rmd 2 0 0) [vr g 25, vi stack, vi cake] M x (L μ) (PE (some (vb o)) M x (L μ)) :=
 Cn.of (by decide) (Nat.le_of_ble_eq_true rfl) (eX7_isUp hS hc stack cake μ hf (PE_i _ _ _ _))
def fX11_cake (cake : Int) (what : Int) (μ : Mem) : Option (Int) :=
  if w32 cake < 0 then
    some ((-1))
  else
    if w32 cake < w32 (μ 25 1) then
      if w32 what = 0 then
        gd (((μ 0 2) = 5 ∨ (μ 0 2) = 15)) <|
        lt (μ 0 2).toNat fun r5 =>
        some ((fX11_at (r5 + 2) cake μ))
      else
        if w32 what = 1 then
          gd (((μ 0 2) = 5 ∨ (μ 0 2) = 15)) <|
          lt (μ 0 2).toNat fun r8 =>
          some ((fX11_at (r8 + 3) cake μ))
        else
          if w32 what = 2 then
            (fX7_placeOf (μ 41 1) cake μ).bind fun v10 =>
            some (v10)
          else
            if w32 what = 3 then
              lt (if (fX7_isUp (μ 41 1) cake μ) = true then
                  1
                else
                  0) fun v12 =>
              some (v12)
            else
              some ((-1))
    else
      some ((-1))
set_option maxRecDepth 4000 in
theorem eX11_cake (hS : Sd M K P L) (hc : CIn P 0 75) (cake : Int) (what : Int) (μ : Mem)  {o : Int} (hf : fX11_cake cake what μ = some o) (hr : (fun o : Int => Φ (some (vi o)) M x (L μ)) o) : Ev l D cy g K yX11_cake cX11_cake 3 (some .int) (rmd 4 0 0) (MX D cy g K (rmd 4 0 0) Φ) 0 0 M x (L μ) 0 [(0, vr g 0), (1, vi cake), (2, vi what)] [] := by
  unfold fX11_cake at hf
  refine ev_iload_n dX11_cake_0 1 rfl ?_
  refine ev_if_lt 15 dX11_cake_1 (by decide) (fun h1 => ?_) (fun h1 => ?_)
  · rw [if_pos h1] at hf
    refine ev_iconst dX11_cake_15 ?_
    obtain rfl := Option.some.inj hf
    exact ev_iret dX11_cake_16 rfl ⟨Nat.zero_le _, Nat.zero_le _⟩ hr
  · rw [if_neg h1] at hf
    refine ev_iload_n dX11_cake_4 1 rfl ?_
    refine ev_aload_n dX11_cake_5 0 rfl ?_
    refine ev_getK 4 dX11_cake_6 (hS.lt (hc 0 rfl)) rfl (hS.K1 (hc 0 rfl) rfl) ciX11 (by decide) rfl flX11_40 ?_
    refine cl_V1 (As := []) (st := [vi cake]) miX7_cakes (tX7_cakes hS (hc.w rfl rfl) μ (o := (μ 25 1)) rfl) dX11_cake_9 lkX11_133 inX7_cakes rfl (hS.lt (hc 25 rfl)) rfl ⟨rfl, rfl⟩ ⟨⟨Nat.le_of_ble_eq_true rfl, Nat.le_of_ble_eq_true rfl⟩, Nat.zero_le _, Nat.zero_le _⟩ (Nat.le_of_ble_eq_true rfl) ?_
    refine ev_icmp_lt 17 dX11_cake_12 (by decide) (fun h2 => ?_) (fun h2 => ?_)
    · rw [if_pos h2] at hf
      refine ev_iload_n dX11_cake_17 2 rfl ?_
      by_cases h3 : w32 what = 0
      · rw [if_pos h3] at hf
        refine ev_tableIn 48 0 dX11_cake_18 h3 (by decide) (by decide) rfl (by decide) ?_
        refine ev_aload_n dX11_cake_48 0 rfl ?_
        obtain ⟨g4, hf⟩ := gd_elim hf
        refine ev_getR 2 dX11_cake_49 (hS.lt (hc 0 rfl)) rfl (hS.mem _ (hc 0 rfl)) (hS.K0 (hc 0 rfl) rfl) (dy_Gr g4).2 ciX11 (by decide) rfl flX11_28 ?_
        obtain ⟨r5, hr5, hf⟩ := lt_elim hf
        refine ev_rn (congrArg (vr g) hr5) ?_
        have kr5 : isGr r5 := by rw [hr5]; exact (dy_Gr g4).1
        refine ev_iload_n dX11_cake_52 1 rfl ?_
        refine cl_V1 (As := [vi cake]) (st := []) miX2_kindOf (tX2_kindOf hS (hc.w rfl rfl) r5 cake μ kr5 (o := (fX11_at (r5 + 2) cake μ)) rfl) dX11_cake_53 lkX11_161 inX2_kindOf rfl (hS.lt (hc _ (inR_w (i_Gr0 kr5) rfl rfl))) (s_Gr0 kr5) ⟨rfl, rfl⟩ ⟨⟨Nat.le_of_ble_eq_true rfl, Nat.le_of_ble_eq_true rfl⟩, Nat.zero_le _, Nat.zero_le _⟩ (Nat.le_of_ble_eq_true rfl) ?_
        obtain rfl := Option.some.inj hf
        exact ev_iret dX11_cake_56 rfl ⟨Nat.zero_le _, Nat.zero_le _⟩ hr
      · rw [if_neg h3] at hf
        by_cases h6 : w32 what = 1
        · rw [if_pos h6] at hf
          refine ev_tableIn 57 1 dX11_cake_18 h6 (by decide) (by decide) rfl (by decide) ?_
          refine ev_aload_n dX11_cake_57 0 rfl ?_
          obtain ⟨g7, hf⟩ := gd_elim hf
          refine ev_getR 2 dX11_cake_58 (hS.lt (hc 0 rfl)) rfl (hS.mem _ (hc 0 rfl)) (hS.K0 (hc 0 rfl) rfl) (dy_Gr g7).2 ciX11 (by decide) rfl flX11_28 ?_
          obtain ⟨r8, hr8, hf⟩ := lt_elim hf
          refine ev_rn (congrArg (vr g) hr8) ?_
          have kr8 : isGr r8 := by rw [hr8]; exact (dy_Gr g7).1
          refine ev_iload_n dX11_cake_61 1 rfl ?_
          refine cl_V1 (As := [vi cake]) (st := []) miX2_widthOf (tX2_widthOf hS (hc.w rfl rfl) r8 cake μ kr8 (o := (fX11_at (r8 + 3) cake μ)) rfl) dX11_cake_62 lkX11_164 inX2_widthOf rfl (hS.lt (hc _ (inR_w (i_Gr0 kr8) rfl rfl))) (s_Gr0 kr8) ⟨rfl, rfl⟩ ⟨⟨Nat.le_of_ble_eq_true rfl, Nat.le_of_ble_eq_true rfl⟩, Nat.zero_le _, Nat.zero_le _⟩ (Nat.le_of_ble_eq_true rfl) ?_
          obtain rfl := Option.some.inj hf
          exact ev_iret dX11_cake_65 rfl ⟨Nat.zero_le _, Nat.zero_le _⟩ hr
        · rw [if_neg h6] at hf
          by_cases h9 : w32 what = 2
          · rw [if_pos h9] at hf
            refine ev_tableIn 66 2 dX11_cake_18 h9 (by decide) (by decide) rfl (by decide) ?_
            refine ev_aload_n dX11_cake_66 0 rfl ?_
            refine ev_getK 4 dX11_cake_67 (hS.lt (hc 0 rfl)) rfl (hS.K1 (hc 0 rfl) rfl) ciX11 (by decide) rfl flX11_40 ?_
            refine ev_aload_n dX11_cake_70 0 rfl ?_
            refine ev_getK 7 dX11_cake_71 (hS.lt (hc 0 rfl)) rfl (hS.K1 (hc 0 rfl) rfl) ciX11 (by decide) rfl flX11_58 ?_
            refine cl_V1 (As := []) (st := [vr g 25]) miX5_stack (tX5_stack hS (hc.w rfl rfl) 41 μ (by simp [isMo]) (o := (μ 41 1)) rfl) dX11_cake_74 lkX11_167 inX5_stack rfl (hS.lt (hc 41 rfl)) rfl ⟨rfl, rfl⟩ ⟨⟨Nat.le_of_ble_eq_true rfl, Nat.le_of_ble_eq_true rfl⟩, Nat.zero_le _, Nat.zero_le _⟩ (Nat.le_of_ble_eq_true rfl) ?_
            refine ev_iload_n dX11_cake_77 1 rfl ?_
            obtain ⟨v10, hv10, hf⟩ := Option.bind_eq_some_iff.mp hf
            refine cl_V1 (As := [vi (μ 41 1), vi cake]) (st := []) miX7_placeOf (tX7_placeOf hS (hc.w rfl rfl) (μ 41 1) cake μ hv10) dX11_cake_78 lkX11_170 inX7_placeOf rfl (hS.lt (hc 25 rfl)) rfl ⟨rfl, rfl⟩ ⟨⟨Nat.le_of_ble_eq_true rfl, Nat.le_of_ble_eq_true rfl⟩, Nat.zero_le _, Nat.zero_le _⟩ (Nat.le_of_ble_eq_true rfl) ?_
            obtain rfl := Option.some.inj hf
            exact ev_iret dX11_cake_81 rfl ⟨Nat.zero_le _, Nat.zero_le _⟩ hr
          · rw [if_neg h9] at hf
            by_cases h11 : w32 what = 3
            · rw [if_pos h11] at hf
              refine ev_tableIn 82 3 dX11_cake_18 h11 (by decide) (by decide) rfl (by decide) ?_
              refine ev_aload_n dX11_cake_82 0 rfl ?_
              refine ev_getK 4 dX11_cake_83 (hS.lt (hc 0 rfl)) rfl (hS.K1 (hc 0 rfl) rfl) ciX11 (by decide) rfl flX11_40 ?_
              refine ev_aload_n dX11_cake_86 0 rfl ?_
              refine ev_getK 7 dX11_cake_87 (hS.lt (hc 0 rfl)) rfl (hS.K1 (hc 0 rfl) rfl) ciX11 (by decide) rfl flX11_58 ?_
              refine cl_V1 (As := []) (st := [vr g 25]) miX5_stack (tX5_stack hS (hc.w rfl rfl) 41 μ (by simp [isMo]) (o := (μ 41 1)) rfl) dX11_cake_90 lkX11_167 inX5_stack rfl (hS.lt (hc 41 rfl)) rfl ⟨rfl, rfl⟩ ⟨⟨Nat.le_of_ble_eq_true rfl, Nat.le_of_ble_eq_true rfl⟩, Nat.zero_le _, Nat.zero_le _⟩ (Nat.le_of_ble_eq_true rfl) ?_
              refine ev_iload_n dX11_cake_93 1 rfl ?_
              refine cl_V1 (As := [vi (μ 41 1), vi cake]) (st := []) miX7_isUp (tX7_isUp hS (hc.w rfl rfl) (μ 41 1) cake μ (o := (fX7_isUp (μ 41 1) cake μ)) rfl) dX11_cake_94 lkX11_174 inX7_isUp rfl (hS.lt (hc 25 rfl)) rfl ⟨rfl, rfl⟩ ⟨⟨Nat.le_of_ble_eq_true rfl, Nat.le_of_ble_eq_true rfl⟩, Nat.zero_le _, Nat.zero_le _⟩ (Nat.le_of_ble_eq_true rfl) ?_
              obtain ⟨v12, hv12, hf⟩ := lt_elim hf
              have hJv12 : Ev l D cy g K yX11_cake cX11_cake 3 (some .int) (rmd 4 0 0) (MX D cy g K (rmd 4 0 0) Φ) 0 0 M x (L μ) 105 [(0, vr g 0), (1, vi cake), (2, vi what)] [vi v12] := by
                obtain rfl := Option.some.inj hf
                exact ev_iret dX11_cake_105 rfl ⟨Nat.zero_le _, Nat.zero_le _⟩ hr
              refine ev_ifb_eq 104 dX11_cake_97 (by decide) (fun h13 => ?_) (fun h13 => ?_)
              · refine ev_iconst dX11_cake_104 ?_
                have e9 : v12 = 0 := hv12.trans ((if_neg h13))
                subst e9
                exact hJv12
              · refine ev_iconst dX11_cake_100 ?_
                refine ev_goto 105 dX11_cake_101 (by decide) ?_
                have e9 : v12 = 1 := hv12.trans ((if_pos h13))
                subst e9
                exact hJv12
            · rw [if_neg h11] at hf
              refine ev_tableOut 106 dX11_cake_18 (by omega) (by decide) ?_
              refine ev_iconst dX11_cake_106 ?_
              obtain rfl := Option.some.inj hf
              exact ev_iret dX11_cake_107 rfl ⟨Nat.zero_le _, Nat.zero_le _⟩ hr
    · rw [if_neg h2] at hf
      refine ev_iconst dX11_cake_15 ?_
      obtain rfl := Option.some.inj hf
      exact ev_iret dX11_cake_16 rfl ⟨Nat.zero_le _, Nat.zero_le _⟩ hr
theorem tX11_cake (hS : Sd M K P L) (hc : CIn P 0 75) (cake : Int) (what : Int) (μ : Mem) {o : Int} (hf : fX11_cake cake what μ = some o) : Cn l D cy g K K yX11_cake cX11_cake 3 (some .int) (rmd 4 0 0) [vr g 0, vi cake, vi what] M x (L μ) (PE (some (vi o)) M x (L μ)) :=
 Cn.of (by decide) (Nat.le_of_ble_eq_true rfl) (eX11_cake hS hc cake what μ hf (PE_i _ _ _ _))
def fX11_there (place : Int) (μ : Mem) : Int :=
  (fX7_cakeIn (μ 41 1) place μ)
set_option maxRecDepth 4000 in
theorem eX11_there (hS : Sd M K P L) (hc : CIn P 0 75) (place : Int) (μ : Mem)  {o : Int} (hf : fX11_there place μ = o) (hr : (fun o : Int => Φ (some (vi o)) M x (L μ)) o) : Ev l D cy g K yX11_there cX11_there 2 (some .int) (rmd 3 0 0) (MX D cy g K (rmd 3 0 0) Φ) 0 0 M x (L μ) 0 [(0, vr g 0), (1, vi place)] [] := by
  unfold fX11_there at hf
  refine ev_aload_n dX11_there_0 0 rfl ?_
  refine ev_getK 4 dX11_there_1 (hS.lt (hc 0 rfl)) rfl (hS.K1 (hc 0 rfl) rfl) ciX11 (by decide) rfl flX11_40 ?_
  refine ev_aload_n dX11_there_4 0 rfl ?_
  refine ev_getK 7 dX11_there_5 (hS.lt (hc 0 rfl)) rfl (hS.K1 (hc 0 rfl) rfl) ciX11 (by decide) rfl flX11_58 ?_
  refine cl_V1 (As := []) (st := [vr g 25]) miX5_stack (tX5_stack hS (hc.w rfl rfl) 41 μ (by simp [isMo]) (o := (μ 41 1)) rfl) dX11_there_8 lkX11_167 inX5_stack rfl (hS.lt (hc 41 rfl)) rfl ⟨rfl, rfl⟩ ⟨⟨Nat.le_of_ble_eq_true rfl, Nat.le_of_ble_eq_true rfl⟩, Nat.zero_le _, Nat.zero_le _⟩ (Nat.le_of_ble_eq_true rfl) ?_
  refine ev_iload_n dX11_there_11 1 rfl ?_
  refine cl_V1 (As := [vi (μ 41 1), vi place]) (st := []) miX7_cakeIn (tX7_cakeIn hS (hc.w rfl rfl) (μ 41 1) place μ (o := (fX7_cakeIn (μ 41 1) place μ)) rfl) dX11_there_12 lkX11_178 inX7_cakeIn rfl (hS.lt (hc 25 rfl)) rfl ⟨rfl, rfl⟩ ⟨⟨Nat.le_of_ble_eq_true rfl, Nat.le_of_ble_eq_true rfl⟩, Nat.zero_le _, Nat.zero_le _⟩ (Nat.le_of_ble_eq_true rfl) ?_
  obtain rfl := hf
  exact ev_iret dX11_there_15 rfl ⟨Nat.zero_le _, Nat.zero_le _⟩ hr
theorem tX11_there (hS : Sd M K P L) (hc : CIn P 0 75) (place : Int) (μ : Mem) {o : Int} (hf : fX11_there place μ = o) : Cn l D cy g K K yX11_there cX11_there 2 (some .int) (rmd 3 0 0) [vr g 0, vi place] M x (L μ) (PE (some (vi o)) M x (L μ)) :=
 Cn.of (by decide) (Nat.le_of_ble_eq_true rfl) (eX11_there hS hc place μ hf (PE_i _ _ _ _))
def fX7_turnEntry (stack : Int) (many : Int) (μ : Mem) : Int :=
  ((((i_shr stack (μ 25 2)) * 5) + many) - 1)
set_option maxRecDepth 4000 in
theorem eX7_turnEntry (hS : Sd M K P L) (hc : CIn P 25 26) (stack : Int) (many : Int) (μ : Mem)  {o : Int} (hf : fX7_turnEntry stack many μ = o) (hr : (fun o : Int => Φ (some (vi o)) M x (L μ)) o) : Ev l D cy g K yX7_turnEntry cX7_turnEntry 3 (some .int) (rmd 1 0 0) (MX D cy g K (rmd 1 0 0) Φ) 0 0 M x (L μ) 0 [(0, vr g 25), (1, vi stack), (2, vi many)] [] := by
  unfold fX7_turnEntry at hf
  refine ev_iload_n dX7_turnEntry_0 1 rfl ?_
  refine ev_aload_n dX7_turnEntry_1 0 rfl ?_
  refine ev_getI 2 dX7_turnEntry_2 (hS.lt (hc 25 rfl)) rfl (hS.mem _ (hc 25 rfl)) ciX7 (by decide) rfl flX7_69 ?_
  refine ev_ishr dX7_turnEntry_5 ?_
  refine ev_iconst dX7_turnEntry_6 ?_
  refine ev_imul dX7_turnEntry_7 ?_
  refine ev_iload_n dX7_turnEntry_8 2 rfl ?_
  refine ev_iadd dX7_turnEntry_9 ?_
  refine ev_iconst dX7_turnEntry_10 ?_
  refine ev_isub dX7_turnEntry_11 ?_
  obtain rfl := hf
  exact ev_iret dX7_turnEntry_12 rfl ⟨Nat.zero_le _, Nat.zero_le _⟩ hr
theorem tX7_turnEntry (hS : Sd M K P L) (hc : CIn P 25 26) (stack : Int) (many : Int) (μ : Mem) {o : Int} (hf : fX7_turnEntry stack many μ = o) : Cn l D cy g K K yX7_turnEntry cX7_turnEntry 3 (some .int) (rmd 1 0 0) [vr g 25, vi stack, vi many] M x (L μ) (PE (some (vi o)) M x (L μ)) :=
 Cn.of (by decide) (Nat.le_of_ble_eq_true rfl) (eX7_turnEntry hS hc stack many μ hf (PE_i _ _ _ _))
def fX7_lawEntry (stack : Int) (many : Int) (μ : Mem) : Int :=
  lt (fX7_turnEntry stack many μ) fun v1 =>
  lt (fJ6_bitCount_0f7a4 (i_and (i_and stack ((i_shl 1 (μ 25 2)) - 1)) (fX11_at 31 v1 μ))) fun v2 =>
  (((fX11_at 30 v1 μ) * 6) + v2)
set_option maxRecDepth 4000 in
theorem eX7_lawEntry (hS : Sd M K P L) (hc : CIn P 1 32) (stack : Int) (many : Int) (μ : Mem)  {o : Int} (hf : fX7_lawEntry stack many μ = o) (hr : (fun o : Int => Φ (some (vi o)) M x (L μ)) o) : Ev l D cy g K yX7_lawEntry cX7_lawEntry 5 (some .int) (rmd 2 0 0) (MX D cy g K (rmd 2 0 0) Φ) 0 0 M x (L μ) 0 [(0, vr g 25), (1, vi stack), (2, vi many)] [] := by
  unfold fX7_lawEntry at hf
  refine ev_aload_n dX7_lawEntry_0 0 rfl ?_
  refine ev_iload_n dX7_lawEntry_1 1 rfl ?_
  refine ev_iload_n dX7_lawEntry_2 2 rfl ?_
  refine cl_V1 (As := [vi stack, vi many]) (st := []) miX7_turnEntry (tX7_turnEntry hS (hc.w rfl rfl) stack many μ (o := (fX7_turnEntry stack many μ)) rfl) dX7_lawEntry_3 lkX7_160 inX7_turnEntry rfl (hS.lt (hc 25 rfl)) rfl ⟨rfl, rfl⟩ ⟨⟨Nat.le_of_ble_eq_true rfl, Nat.le_of_ble_eq_true rfl⟩, Nat.zero_le _, Nat.zero_le _⟩ (Nat.le_of_ble_eq_true rfl) ?_
  obtain ⟨v1, hv1, hf⟩ := lt_elim hf
  refine ev_rni hv1 ?_
  refine ev_istore_n (al2 := [(3, vi v1), (0, vr g 25), (1, vi stack), (2, vi many)]) dX7_lawEntry_6 3 rfl (by decide) rfl ?_
  refine ev_aload_n dX7_lawEntry_7 1 rfl ?_
  refine ev_iload_n dX7_lawEntry_8 2 rfl ?_
  refine cl_V1 (As := [vi stack]) (st := []) miX7_sideBitsOf (tX7_sideBitsOf hS (hc.w rfl rfl) stack μ (o := (i_and stack ((i_shl 1 (μ 25 2)) - 1))) rfl) dX7_lawEntry_9 lkX7_157 inX7_sideBitsOf rfl (hS.lt (hc 25 rfl)) rfl ⟨rfl, rfl⟩ ⟨⟨Nat.le_of_ble_eq_true rfl, Nat.le_of_ble_eq_true rfl⟩, Nat.zero_le _, Nat.zero_le _⟩ (Nat.le_of_ble_eq_true rfl) ?_
  refine ev_aload_n dX7_lawEntry_12 1 rfl ?_
  refine ev_getK 10 dX7_lawEntry_13 (hS.lt (hc 25 rfl)) rfl (hS.K1 (hc 25 rfl) rfl) ciX7 (by decide) rfl flX7_27 ?_
  refine ev_iload_n dX7_lawEntry_16 0 rfl ?_
  refine cl_N1 (As := [vr g 31, vi v1]) (st := [vi (i_and stack ((i_shl 1 (μ 25 2)) - 1))]) (host := "HotCakes") miX11_at (tX11_at hS (hc.w rfl rfl) 31 v1 μ (⟨(hc 31 rfl), rfl⟩) (o := (fX11_at 31 v1 μ)) rfl) dX7_lawEntry_17 (by decide) stX11_at rfl ⟨⟨Nat.le_of_ble_eq_true rfl, Nat.le_of_ble_eq_true rfl⟩, Nat.zero_le _, Nat.zero_le _⟩ (Nat.le_of_ble_eq_true rfl) ?_
  refine ev_iand dX7_lawEntry_20 ?_
  obtain ⟨v2, hv2, hf⟩ := lt_elim hf
  refine cl_S1 (As := [vi (i_and (i_and stack ((i_shl 1 (μ 25 2)) - 1)) (fX11_at 31 v1 μ))]) (st := []) miJ6_bitCount_0f7a4 (tJ6_bitCount_0f7a4 (i_and (i_and stack ((i_shl 1 (μ 25 2)) - 1)) (fX11_at 31 v1 μ)) (L μ) hv2.symm) dX7_lawEntry_21 lkX7_122 stJ6_bitCount_0f7a4 rfl ⟨⟨Nat.le_of_ble_eq_true rfl, Nat.le_of_ble_eq_true rfl⟩, Nat.zero_le _, Nat.zero_le _⟩ (Nat.le_of_ble_eq_true rfl) ?_
  refine ev_istore (al2 := [(4, vi v2), (3, vi v1), (0, vr g 25), (1, vi stack), (2, vi many)]) dX7_lawEntry_24 (by decide) rfl ?_
  refine ev_aload_n dX7_lawEntry_26 2 rfl ?_
  refine ev_getK 9 dX7_lawEntry_27 (hS.lt (hc 25 rfl)) rfl (hS.K1 (hc 25 rfl) rfl) ciX7 (by decide) rfl flX7_24 ?_
  refine ev_iload_n dX7_lawEntry_30 1 rfl ?_
  refine cl_N1 (As := [vr g 30, vi v1]) (st := []) (host := "HotCakes") miX11_at (tX11_at hS (hc.w rfl rfl) 30 v1 μ (⟨(hc 30 rfl), rfl⟩) (o := (fX11_at 30 v1 μ)) rfl) dX7_lawEntry_31 (by decide) stX11_at rfl ⟨⟨Nat.le_of_ble_eq_true rfl, Nat.le_of_ble_eq_true rfl⟩, Nat.zero_le _, Nat.zero_le _⟩ (Nat.le_of_ble_eq_true rfl) ?_
  refine ev_bipush dX7_lawEntry_34 (by decide) ?_
  refine ev_imul dX7_lawEntry_36 ?_
  refine ev_iload dX7_lawEntry_37 0 rfl ?_
  refine ev_iadd dX7_lawEntry_39 ?_
  obtain rfl := hf
  exact ev_iret dX7_lawEntry_40 rfl ⟨Nat.zero_le _, Nat.zero_le _⟩ hr
theorem tX7_lawEntry (hS : Sd M K P L) (hc : CIn P 1 32) (stack : Int) (many : Int) (μ : Mem) {o : Int} (hf : fX7_lawEntry stack many μ = o) : Cn l D cy g K K yX7_lawEntry cX7_lawEntry 5 (some .int) (rmd 2 0 0) [vr g 25, vi stack, vi many] M x (L μ) (PE (some (vi o)) M x (L μ)) :=
 Cn.of (by decide) (Nat.le_of_ble_eq_true rfl) (eX7_lawEntry hS hc stack many μ hf (PE_i _ _ _ _))
def fX7_isOpen (stack : Int) (many : Int) (μ : Mem) : Bool :=
  lt (if w32 many < w32 1 then
      false
    else
      if w32 many ≤ w32 (μ 25 1) then
        if w32 (fX11_at 32 (fX7_turnEntry stack many μ) μ) = 0 then
          if w32 (fX11_at 33 (fX7_lawEntry stack many μ) μ) = 0 then
            true
          else
            false
        else
          false
      else
        false) fun v1 =>
  v1
set_option maxRecDepth 4000 in
theorem eX7_isOpen (hS : Sd M K P L) (hc : CIn P 1 34) (stack : Int) (many : Int) (μ : Mem)  {o : Bool} (hf : fX7_isOpen stack many μ = o) (hr : (fun o : Bool => Φ (some (vb o)) M x (L μ)) o) : Ev l D cy g K yX7_isOpen cX7_isOpen 3 (some .boolean) (rmd 3 0 0) (MX D cy g K (rmd 3 0 0) Φ) 0 0 M x (L μ) 0 [(0, vr g 25), (1, vi stack), (2, vi many)] [] := by
  unfold fX7_isOpen at hf
  refine ev_iload_n dX7_isOpen_0 2 rfl ?_
  refine ev_iconst dX7_isOpen_1 ?_
  obtain ⟨v1, hv1, hf⟩ := lt_elim hf
  have hJv1 : Ev l D cy g K yX7_isOpen cX7_isOpen 3 (some .boolean) (rmd 3 0 0) (MX D cy g K (rmd 3 0 0) Φ) 0 0 M x (L μ) 50 [(0, vr g 25), (1, vi stack), (2, vi many)] [vb v1] := by
    obtain rfl := hf
    exact ev_bret (b := v1) dX7_isOpen_50 rfl ⟨Nat.zero_le _, Nat.zero_le _⟩ hr
  refine ev_icmp_lt 49 dX7_isOpen_2 (by decide) (fun h2 => ?_) (fun h2 => ?_)
  · refine ev_iconst dX7_isOpen_49 ?_
    have e9 : v1 = false := hv1.trans ((if_pos h2))
    subst e9
    exact hJv1
  · refine ev_iload_n dX7_isOpen_5 2 rfl ?_
    refine ev_aload_n dX7_isOpen_6 0 rfl ?_
    refine ev_getI 1 dX7_isOpen_7 (hS.lt (hc 25 rfl)) rfl (hS.mem _ (hc 25 rfl)) ciX7 (by decide) rfl flX7_65 ?_
    refine ev_icmp_gt 49 dX7_isOpen_10 (by decide) (fun h3 => ?_) (fun h3 => ?_)
    · refine ev_iconst dX7_isOpen_49 ?_
      have e9 : v1 = false := hv1.trans (((if_neg h2)).trans (if_neg h3))
      subst e9
      exact hJv1
    · refine ev_aload_n dX7_isOpen_13 0 rfl ?_
      refine ev_getK 11 dX7_isOpen_14 (hS.lt (hc 25 rfl)) rfl (hS.K1 (hc 25 rfl) rfl) ciX7 (by decide) rfl flX7_30 ?_
      refine ev_aload_n dX7_isOpen_17 0 rfl ?_
      refine ev_iload_n dX7_isOpen_18 1 rfl ?_
      refine ev_iload_n dX7_isOpen_19 2 rfl ?_
      refine cl_V1 (As := [vi stack, vi many]) (st := [vr g 32]) miX7_turnEntry (tX7_turnEntry hS (hc.w rfl rfl) stack many μ (o := (fX7_turnEntry stack many μ)) rfl) dX7_isOpen_20 lkX7_160 inX7_turnEntry rfl (hS.lt (hc 25 rfl)) rfl ⟨rfl, rfl⟩ ⟨⟨Nat.le_of_ble_eq_true rfl, Nat.le_of_ble_eq_true rfl⟩, Nat.zero_le _, Nat.zero_le _⟩ (Nat.le_of_ble_eq_true rfl) ?_
      refine cl_N1 (As := [vr g 32, vi (fX7_turnEntry stack many μ)]) (st := []) (host := "HotCakes") miX11_at (tX11_at hS (hc.w rfl rfl) 32 (fX7_turnEntry stack many μ) μ (⟨(hc 32 rfl), rfl⟩) (o := (fX11_at 32 (fX7_turnEntry stack many μ) μ)) rfl) dX7_isOpen_23 (by decide) stX11_at rfl ⟨⟨Nat.le_of_ble_eq_true rfl, Nat.le_of_ble_eq_true rfl⟩, Nat.zero_le _, Nat.zero_le _⟩ (Nat.le_of_ble_eq_true rfl) ?_
      refine ev_if_ne 49 dX7_isOpen_26 (by decide) (fun h4 => ?_) (fun h4 => ?_)
      · refine ev_iconst dX7_isOpen_49 ?_
        have e9 : v1 = false := hv1.trans (((if_neg h2)).trans (((if_pos h3)).trans (if_neg h4)))
        subst e9
        exact hJv1
      · refine ev_aload_n dX7_isOpen_29 0 rfl ?_
        refine ev_getK 12 dX7_isOpen_30 (hS.lt (hc 25 rfl)) rfl (hS.K1 (hc 25 rfl) rfl) ciX7 (by decide) rfl flX7_33 ?_
        refine ev_aload_n dX7_isOpen_33 0 rfl ?_
        refine ev_iload_n dX7_isOpen_34 1 rfl ?_
        refine ev_iload_n dX7_isOpen_35 2 rfl ?_
        refine cl_V1 (As := [vi stack, vi many]) (st := [vr g 33]) miX7_lawEntry (tX7_lawEntry hS (hc.w rfl rfl) stack many μ (o := (fX7_lawEntry stack many μ)) rfl) dX7_isOpen_36 lkX7_163 inX7_lawEntry rfl (hS.lt (hc 25 rfl)) rfl ⟨rfl, rfl⟩ ⟨⟨Nat.le_of_ble_eq_true rfl, Nat.le_of_ble_eq_true rfl⟩, Nat.zero_le _, Nat.zero_le _⟩ (Nat.le_of_ble_eq_true rfl) ?_
        refine cl_N1 (As := [vr g 33, vi (fX7_lawEntry stack many μ)]) (st := []) (host := "HotCakes") miX11_at (tX11_at hS (hc.w rfl rfl) 33 (fX7_lawEntry stack many μ) μ (⟨(hc 33 rfl), rfl⟩) (o := (fX11_at 33 (fX7_lawEntry stack many μ) μ)) rfl) dX7_isOpen_39 (by decide) stX11_at rfl ⟨⟨Nat.le_of_ble_eq_true rfl, Nat.le_of_ble_eq_true rfl⟩, Nat.zero_le _, Nat.zero_le _⟩ (Nat.le_of_ble_eq_true rfl) ?_
        refine ev_if_ne 49 dX7_isOpen_42 (by decide) (fun h5 => ?_) (fun h5 => ?_)
        · refine ev_iconst dX7_isOpen_49 ?_
          have e9 : v1 = false := hv1.trans (((if_neg h2)).trans (((if_pos h3)).trans (((if_pos h4)).trans (if_neg h5))))
          subst e9
          exact hJv1
        · refine ev_iconst dX7_isOpen_45 ?_
          refine ev_goto 50 dX7_isOpen_46 (by decide) ?_
          have e9 : v1 = true := hv1.trans (((if_neg h2)).trans (((if_pos h3)).trans (((if_pos h4)).trans (if_pos h5))))
          subst e9
          exact hJv1
theorem tX7_isOpen (hS : Sd M K P L) (hc : CIn P 1 34) (stack : Int) (many : Int) (μ : Mem) {o : Bool} (hf : fX7_isOpen stack many μ = o) : Cn l D cy g K K yX7_isOpen cX7_isOpen 3 (some .boolean) (rmd 3 0 0) [vr g 25, vi stack, vi many] M x (L μ) (PE (some (vb o)) M x (L μ)) :=
 Cn.of (by decide) (Nat.le_of_ble_eq_true rfl) (eX7_isOpen hS hc stack many μ hf (PE_i _ _ _ _))
def fX7_priceOf (stack : Int) (many : Int) (μ : Mem) : Int :=
  lt (fX11_at 34 (fX7_lawEntry stack many μ) μ) fun v1 =>
  v1
set_option maxRecDepth 4000 in
theorem eX7_priceOf (hS : Sd M K P L) (hc : CIn P 1 35) (stack : Int) (many : Int) (μ : Mem)  {o : Int} (hf : fX7_priceOf stack many μ = o) (hr : (fun o : Int => Φ (some (vi o)) M x (L μ)) o) : Ev l D cy g K yX7_priceOf cX7_priceOf 3 (some .int) (rmd 3 0 0) (MX D cy g K (rmd 3 0 0) Φ) 0 0 M x (L μ) 0 [(0, vr g 25), (1, vi stack), (2, vi many)] [] := by
  unfold fX7_priceOf at hf
  refine ev_aload_n dX7_priceOf_0 0 rfl ?_
  refine ev_getK 13 dX7_priceOf_1 (hS.lt (hc 25 rfl)) rfl (hS.K1 (hc 25 rfl) rfl) ciX7 (by decide) rfl flX7_36 ?_
  refine ev_aload_n dX7_priceOf_4 0 rfl ?_
  refine ev_iload_n dX7_priceOf_5 1 rfl ?_
  refine ev_iload_n dX7_priceOf_6 2 rfl ?_
  refine cl_V1 (As := [vi stack, vi many]) (st := [vr g 34]) miX7_lawEntry (tX7_lawEntry hS (hc.w rfl rfl) stack many μ (o := (fX7_lawEntry stack many μ)) rfl) dX7_priceOf_7 lkX7_163 inX7_lawEntry rfl (hS.lt (hc 25 rfl)) rfl ⟨rfl, rfl⟩ ⟨⟨Nat.le_of_ble_eq_true rfl, Nat.le_of_ble_eq_true rfl⟩, Nat.zero_le _, Nat.zero_le _⟩ (Nat.le_of_ble_eq_true rfl) ?_
  obtain ⟨v1, hv1, hf⟩ := lt_elim hf
  refine cl_N1 (As := [vr g 34, vi (fX7_lawEntry stack many μ)]) (st := []) (host := "HotCakes") miX11_at (tX11_at hS (hc.w rfl rfl) 34 (fX7_lawEntry stack many μ) μ (⟨(hc 34 rfl), rfl⟩) hv1.symm) dX7_priceOf_10 (by decide) stX11_at rfl ⟨⟨Nat.le_of_ble_eq_true rfl, Nat.le_of_ble_eq_true rfl⟩, Nat.zero_le _, Nat.zero_le _⟩ (Nat.le_of_ble_eq_true rfl) ?_
  obtain rfl := hf
  exact ev_iret dX7_priceOf_13 rfl ⟨Nat.zero_le _, Nat.zero_le _⟩ hr
theorem tX7_priceOf (hS : Sd M K P L) (hc : CIn P 1 35) (stack : Int) (many : Int) (μ : Mem) {o : Int} (hf : fX7_priceOf stack many μ = o) : Cn l D cy g K K yX7_priceOf cX7_priceOf 3 (some .int) (rmd 3 0 0) [vr g 25, vi stack, vi many] M x (L μ) (PE (some (vi o)) M x (L μ)) :=
 Cn.of (by decide) (Nat.le_of_ble_eq_true rfl) (eX7_priceOf hS hc stack many μ hf (PE_i _ _ _ _))
def fX7_turned (stack : Int) (many : Int) (μ : Mem) : Int :=
  if w32 many < w32 1 then
    stack
  else
    if w32 many ≤ w32 (μ 25 1) then
      lt (fX7_turnEntry stack many μ) fun v3 =>
      (i_or (i_shl (fX11_at 29 v3 μ) (μ 25 2)) (i_xor (i_and stack ((i_shl 1 (μ 25 2)) - 1)) (fX11_at 31 v3 μ)))
    else
      stack
set_option maxRecDepth 4000 in
theorem eX7_turned (hS : Sd M K P L) (hc : CIn P 1 32) (stack : Int) (many : Int) (μ : Mem)  {o : Int} (hf : fX7_turned stack many μ = o) (hr : (fun o : Int => Φ (some (vi o)) M x (L μ)) o) : Ev l D cy g K yX7_turned cX7_turned 4 (some .int) (rmd 2 0 0) (MX D cy g K (rmd 2 0 0) Φ) 0 0 M x (L μ) 0 [(0, vr g 25), (1, vi stack), (2, vi many)] [] := by
  unfold fX7_turned at hf
  refine ev_iload_n dX7_turned_0 2 rfl ?_
  refine ev_iconst dX7_turned_1 ?_
  refine ev_icmp_lt 13 dX7_turned_2 (by decide) (fun h1 => ?_) (fun h1 => ?_)
  · rw [if_pos h1] at hf
    refine ev_iload_n dX7_turned_13 1 rfl ?_
    obtain rfl := hf
    exact ev_iret dX7_turned_14 rfl ⟨Nat.zero_le _, Nat.zero_le _⟩ hr
  · rw [if_neg h1] at hf
    refine ev_iload_n dX7_turned_5 2 rfl ?_
    refine ev_aload_n dX7_turned_6 0 rfl ?_
    refine ev_getI 1 dX7_turned_7 (hS.lt (hc 25 rfl)) rfl (hS.mem _ (hc 25 rfl)) ciX7 (by decide) rfl flX7_65 ?_
    refine ev_icmp_le 15 dX7_turned_10 (by decide) (fun h2 => ?_) (fun h2 => ?_)
    · rw [if_pos h2] at hf
      refine ev_aload_n dX7_turned_15 0 rfl ?_
      refine ev_iload_n dX7_turned_16 1 rfl ?_
      refine ev_iload_n dX7_turned_17 2 rfl ?_
      refine cl_V1 (As := [vi stack, vi many]) (st := []) miX7_turnEntry (tX7_turnEntry hS (hc.w rfl rfl) stack many μ (o := (fX7_turnEntry stack many μ)) rfl) dX7_turned_18 lkX7_160 inX7_turnEntry rfl (hS.lt (hc 25 rfl)) rfl ⟨rfl, rfl⟩ ⟨⟨Nat.le_of_ble_eq_true rfl, Nat.le_of_ble_eq_true rfl⟩, Nat.zero_le _, Nat.zero_le _⟩ (Nat.le_of_ble_eq_true rfl) ?_
      obtain ⟨v3, hv3, hf⟩ := lt_elim hf
      refine ev_rni hv3 ?_
      refine ev_istore_n (al2 := [(3, vi v3), (0, vr g 25), (1, vi stack), (2, vi many)]) dX7_turned_21 3 rfl (by decide) rfl ?_
      refine ev_aload_n dX7_turned_22 1 rfl ?_
      refine ev_getK 8 dX7_turned_23 (hS.lt (hc 25 rfl)) rfl (hS.K1 (hc 25 rfl) rfl) ciX7 (by decide) rfl flX7_21 ?_
      refine ev_iload_n dX7_turned_26 0 rfl ?_
      refine cl_N1 (As := [vr g 29, vi v3]) (st := []) (host := "HotCakes") miX11_at (tX11_at hS (hc.w rfl rfl) 29 v3 μ (⟨(hc 29 rfl), rfl⟩) (o := (fX11_at 29 v3 μ)) rfl) dX7_turned_27 (by decide) stX11_at rfl ⟨⟨Nat.le_of_ble_eq_true rfl, Nat.le_of_ble_eq_true rfl⟩, Nat.zero_le _, Nat.zero_le _⟩ (Nat.le_of_ble_eq_true rfl) ?_
      refine ev_aload_n dX7_turned_30 1 rfl ?_
      refine ev_getI 2 dX7_turned_31 (hS.lt (hc 25 rfl)) rfl (hS.mem _ (hc 25 rfl)) ciX7 (by decide) rfl flX7_69 ?_
      refine ev_ishl dX7_turned_34 ?_
      refine ev_aload_n dX7_turned_35 1 rfl ?_
      refine ev_iload_n dX7_turned_36 2 rfl ?_
      refine cl_V1 (As := [vi stack]) (st := [vi (i_shl (fX11_at 29 v3 μ) (μ 25 2))]) miX7_sideBitsOf (tX7_sideBitsOf hS (hc.w rfl rfl) stack μ (o := (i_and stack ((i_shl 1 (μ 25 2)) - 1))) rfl) dX7_turned_37 lkX7_157 inX7_sideBitsOf rfl (hS.lt (hc 25 rfl)) rfl ⟨rfl, rfl⟩ ⟨⟨Nat.le_of_ble_eq_true rfl, Nat.le_of_ble_eq_true rfl⟩, Nat.zero_le _, Nat.zero_le _⟩ (Nat.le_of_ble_eq_true rfl) ?_
      refine ev_aload_n dX7_turned_40 1 rfl ?_
      refine ev_getK 10 dX7_turned_41 (hS.lt (hc 25 rfl)) rfl (hS.K1 (hc 25 rfl) rfl) ciX7 (by decide) rfl flX7_27 ?_
      refine ev_iload_n dX7_turned_44 0 rfl ?_
      refine cl_N1 (As := [vr g 31, vi v3]) (st := [vi (i_and stack ((i_shl 1 (μ 25 2)) - 1)), vi (i_shl (fX11_at 29 v3 μ) (μ 25 2))]) (host := "HotCakes") miX11_at (tX11_at hS (hc.w rfl rfl) 31 v3 μ (⟨(hc 31 rfl), rfl⟩) (o := (fX11_at 31 v3 μ)) rfl) dX7_turned_45 (by decide) stX11_at rfl ⟨⟨Nat.le_of_ble_eq_true rfl, Nat.le_of_ble_eq_true rfl⟩, Nat.zero_le _, Nat.zero_le _⟩ (Nat.le_of_ble_eq_true rfl) ?_
      refine ev_ixor dX7_turned_48 ?_
      refine ev_ior dX7_turned_49 ?_
      obtain rfl := hf
      exact ev_iret dX7_turned_50 rfl ⟨Nat.zero_le _, Nat.zero_le _⟩ hr
    · rw [if_neg h2] at hf
      refine ev_iload_n dX7_turned_13 1 rfl ?_
      obtain rfl := hf
      exact ev_iret dX7_turned_14 rfl ⟨Nat.zero_le _, Nat.zero_le _⟩ hr
theorem tX7_turned (hS : Sd M K P L) (hc : CIn P 1 32) (stack : Int) (many : Int) (μ : Mem) {o : Int} (hf : fX7_turned stack many μ = o) : Cn l D cy g K K yX7_turned cX7_turned 4 (some .int) (rmd 2 0 0) [vr g 25, vi stack, vi many] M x (L μ) (PE (some (vi o)) M x (L μ)) :=
 Cn.of (by decide) (Nat.le_of_ble_eq_true rfl) (eX7_turned hS hc stack many μ hf (PE_i _ _ _ _))
def fX5_move (k : Nat) (next : Int) (moreTurns : Int) (moreSpent : Int) (μ : Mem) : Mem :=
  lt (upd2 μ k 1 next) fun μ1 =>
  lt (upd2 μ1 k 2 ((μ1 k 2) + moreTurns)) fun μ2 =>
  lt (upd2 μ2 k 3 ((μ2 k 3) + moreSpent)) fun μ3 =>
  μ3
set_option maxRecDepth 4000 in
theorem eX5_move (hS : Sd M K P L) (hc : CIn P 1 75) (k : Nat) (next : Int) (moreTurns : Int) (moreSpent : Int) (μ : Mem) (hk : isMo k) {o : Mem} (hf : fX5_move k next moreTurns moreSpent μ = o) (hr : (fun o : Mem => Φ none M x (L o)) o) : Ev l D cy g K yX5_move cX5_move 4 none (rmd 1 0 0) (MX D cy g K (rmd 1 0 0) Φ) 0 0 M x (L μ) 0 [(0, vr g k), (1, vi next), (2, vi moreTurns), (3, vi moreSpent)] [] := by
  unfold fX5_move at hf
  refine ev_aload_n dX5_move_0 0 rfl ?_
  refine ev_iload_n dX5_move_1 1 rfl ?_
  obtain ⟨μ1, hμ1, hf⟩ := lt_elim hf
  refine ev_putI 1 dX5_move_2 (hS.lt (hc _ (inR_w (i_Mo0 hk) rfl rfl))) (s_Mo0 hk) ciX5 (by decide) (Or.inl rfl) rfl rfl flX5_19 (hS.up (hc _ (inR_w (i_Mo0 hk) rfl rfl)) hμ1) ?_
  refine ev_aload_n dX5_move_5 0 rfl ?_
  refine ev_dup dX5_move_6 rfl ?_
  refine ev_getI 2 dX5_move_7 (hS.lt (hc _ (inR_w (i_Mo0 hk) rfl rfl))) (s_Mo0 hk) (hS.mem _ (hc _ (inR_w (i_Mo0 hk) rfl rfl))) ciX5 (by decide) rfl flX5_23 ?_
  refine ev_iload_n dX5_move_10 2 rfl ?_
  refine ev_iadd dX5_move_11 ?_
  obtain ⟨μ2, hμ2, hf⟩ := lt_elim hf
  refine ev_putI 2 dX5_move_12 (hS.lt (hc _ (inR_w (i_Mo0 hk) rfl rfl))) (s_Mo0 hk) ciX5 (by decide) (Or.inl rfl) rfl rfl flX5_23 (hS.up (hc _ (inR_w (i_Mo0 hk) rfl rfl)) hμ2) ?_
  refine ev_aload_n dX5_move_15 0 rfl ?_
  refine ev_dup dX5_move_16 rfl ?_
  refine ev_getI 3 dX5_move_17 (hS.lt (hc _ (inR_w (i_Mo0 hk) rfl rfl))) (s_Mo0 hk) (hS.mem _ (hc _ (inR_w (i_Mo0 hk) rfl rfl))) ciX5 (by decide) rfl flX5_26 ?_
  refine ev_iload_n dX5_move_20 3 rfl ?_
  refine ev_iadd dX5_move_21 ?_
  obtain ⟨μ3, hμ3, hf⟩ := lt_elim hf
  refine ev_putI 3 dX5_move_22 (hS.lt (hc _ (inR_w (i_Mo0 hk) rfl rfl))) (s_Mo0 hk) ciX5 (by decide) (Or.inl rfl) rfl rfl flX5_26 (hS.up (hc _ (inR_w (i_Mo0 hk) rfl rfl)) hμ3) ?_
  obtain rfl := hf
  exact ev_vret dX5_move_25 rfl ⟨Nat.zero_le _, Nat.zero_le _⟩ hr
theorem tX5_move (hS : Sd M K P L) (hc : CIn P 1 75) (k : Nat) (next : Int) (moreTurns : Int) (moreSpent : Int) (μ : Mem) (hk : isMo k) {o : Mem} (hf : fX5_move k next moreTurns moreSpent μ = o) : Cn l D cy g K K yX5_move cX5_move 4 none (rmd 1 0 0) [vr g k, vi next, vi moreTurns, vi moreSpent] M x (L μ) (PE none M x (L o)) :=
 Cn.of (by decide) (Nat.le_of_ble_eq_true rfl) (eX5_move hS hc k next moreTurns moreSpent μ hk hf (PE_i _ _ _ _))
def fX11_keepForUndo_j69 (many : Int) (price : Int) (μ : Mem) : Option (Mem) :=
  lt (fX11_put 44 (μ 0 11) many μ) fun μ2 =>
  lt (fX11_put 45 (μ2 0 11) price μ2) fun μ3 =>
  lt (upd2 μ3 0 11 ((μ3 0 11) + 1)) fun μ4 =>
  some (μ4)
set_option maxRecDepth 4000 in
theorem tX11_keepForUndo_j69 (hS : Sd M K P L) (hc : CIn P 0 46) (many : Int) (price : Int) (μ : Mem)  {o : Mem} (hf : fX11_keepForUndo_j69 many price μ = some o) (hr : (fun o : Mem => Φ none M x (L o)) o) : Ev l D cy g K yX11_keepForUndo cX11_keepForUndo 4 none (rmd 2 0 0) (MX D cy g K (rmd 2 0 0) Φ) 0 0 M x (L μ) 69 [(0, vr g 0), (1, vi many), (2, vi price)] [] := by
  unfold fX11_keepForUndo_j69 at hf
  refine ev_aload_n dX11_keepForUndo_69 0 rfl ?_
  refine ev_getK 9 dX11_keepForUndo_70 (hS.lt (hc 0 rfl)) rfl (hS.K1 (hc 0 rfl) rfl) ciX11 (by decide) rfl flX11_66 ?_
  refine ev_aload_n dX11_keepForUndo_73 0 rfl ?_
  refine ev_getI 11 dX11_keepForUndo_74 (hS.lt (hc 0 rfl)) rfl (hS.mem _ (hc 0 rfl)) ciX11 (by decide) rfl flX11_198 ?_
  refine ev_iload_n dX11_keepForUndo_77 1 rfl ?_
  obtain ⟨μ2, hμ2, hf⟩ := lt_elim hf
  refine cl_S0 (As := [vr g 44, vi (μ 0 11), vi many]) (st := []) miX11_put (tX11_put hS (hc.w rfl rfl) 44 (μ 0 11) many μ (⟨(hc 44 rfl), rfl⟩) hμ2.symm) dX11_keepForUndo_78 lkX11_368 stX11_put rfl ⟨⟨Nat.le_of_ble_eq_true rfl, Nat.le_of_ble_eq_true rfl⟩, Nat.zero_le _, Nat.zero_le _⟩ (Nat.le_of_ble_eq_true rfl) ?_
  refine ev_aload_n dX11_keepForUndo_81 0 rfl ?_
  refine ev_getK 10 dX11_keepForUndo_82 (hS.lt (hc 0 rfl)) rfl (hS.K1 (hc 0 rfl) rfl) ciX11 (by decide) rfl flX11_70 ?_
  refine ev_aload_n dX11_keepForUndo_85 0 rfl ?_
  refine ev_getI 11 dX11_keepForUndo_86 (hS.lt (hc 0 rfl)) rfl (hS.mem _ (hc 0 rfl)) ciX11 (by decide) rfl flX11_198 ?_
  refine ev_iload_n dX11_keepForUndo_89 2 rfl ?_
  obtain ⟨μ3, hμ3, hf⟩ := lt_elim hf
  refine cl_S0 (As := [vr g 45, vi (μ2 0 11), vi price]) (st := []) miX11_put (tX11_put hS (hc.w rfl rfl) 45 (μ2 0 11) price μ2 (⟨(hc 45 rfl), rfl⟩) hμ3.symm) dX11_keepForUndo_90 lkX11_368 stX11_put rfl ⟨⟨Nat.le_of_ble_eq_true rfl, Nat.le_of_ble_eq_true rfl⟩, Nat.zero_le _, Nat.zero_le _⟩ (Nat.le_of_ble_eq_true rfl) ?_
  refine ev_aload_n dX11_keepForUndo_93 0 rfl ?_
  refine ev_dup dX11_keepForUndo_94 rfl ?_
  refine ev_getI 11 dX11_keepForUndo_95 (hS.lt (hc 0 rfl)) rfl (hS.mem _ (hc 0 rfl)) ciX11 (by decide) rfl flX11_198 ?_
  refine ev_iconst dX11_keepForUndo_98 ?_
  refine ev_iadd dX11_keepForUndo_99 ?_
  obtain ⟨μ4, hμ4, hf⟩ := lt_elim hf
  refine ev_putI 11 dX11_keepForUndo_100 (hS.lt (hc 0 rfl)) rfl ciX11 (by decide) (Or.inl rfl) rfl rfl flX11_198 (hS.up (hc 0 rfl) hμ4) ?_
  obtain rfl := Option.some.inj hf
  exact ev_vret dX11_keepForUndo_103 rfl ⟨Nat.zero_le _, Nat.zero_le _⟩ hr
def fX11_keepForUndo_b11 (many : Int) (price : Int) (v5 : Int) (μ : Mem) : Option ((Int × Mem) ⊕ (Mem)) :=
  if w32 v5 < w32 16 then
    if w32 v5 < w32 16 then
      gd (0 ≤ w32 v5 ∧ w32 v5 < 16) <|
      gd (0 ≤ w32 (v5 - 1) ∧ w32 (v5 - 1) < 16) <|
      lt (upd2 μ 44 ((w32 (v5 - 1)).toNat) (μ 44 (w32 v5).toNat)) fun μ10 =>
      gd (0 ≤ w32 v5 ∧ w32 v5 < 16) <|
      gd (0 ≤ w32 (v5 - 1) ∧ w32 (v5 - 1) < 16) <|
      lt (upd2 μ10 45 ((w32 (v5 - 1)).toNat) (μ10 45 (w32 v5).toNat)) fun μ13 =>
      some (.inl ((v5 + 1), μ13))
    else
      some (.inr μ)
  else
    some (.inr μ)
set_option maxRecDepth 4000 in
theorem tX11_keepForUndo_b11 (hS : Sd M K P L) (hc : CIn P 0 46) (many : Int) (price : Int) (v5 : Int) (μ : Mem)  {o : (Int × Mem) ⊕ (Mem)} (hf : fX11_keepForUndo_b11 many price v5 μ = some o) (hr : (Sum.elim (fun s : Int × Mem => Ev l D cy g K yX11_keepForUndo cX11_keepForUndo 4 none (rmd 2 0 0) (MX D cy g K (rmd 2 0 0) Φ) 0 0 M x (L s.2) 11 [(0, vr g 0), (1, vi many), (2, vi price), (3, vi s.1)] []) (fun e : Mem => Ev l D cy g K yX11_keepForUndo cX11_keepForUndo 4 none (rmd 2 0 0) (MX D cy g K (rmd 2 0 0) Φ) 0 0 M x (L e) 63 [(0, vr g 0), (1, vi many), (2, vi price)] [])) o) : Ev l D cy g K yX11_keepForUndo cX11_keepForUndo 4 none (rmd 2 0 0) (MX D cy g K (rmd 2 0 0) Φ) 0 0 M x (L μ) 11 [(0, vr g 0), (1, vi many), (2, vi price), (3, vi v5)] [] := by
  unfold fX11_keepForUndo_b11 at hf
  refine ev_iload_n dX11_keepForUndo_11 3 rfl ?_
  refine ev_aload_n dX11_keepForUndo_12 0 rfl ?_
  refine ev_getK 9 dX11_keepForUndo_13 (hS.lt (hc 0 rfl)) rfl (hS.K1 (hc 0 rfl) rfl) ciX11 (by decide) rfl flX11_66 ?_
  refine ev_alen dX11_keepForUndo_16 (hS.lt (hc 44 rfl)) rfl (by decide) ?_
  refine ev_rn (w := vi 16) rfl ?_
  refine ev_icmp_ge 63 dX11_keepForUndo_17 (by decide) (fun h6 => ?_) (fun h6 => ?_)
  · rw [if_neg h6] at hf
    obtain rfl := Option.some.inj hf
    refine ev_sub [0, 1, 2] rfl ?_
    exact hr
  · rw [if_pos h6] at hf
    refine ev_iload_n dX11_keepForUndo_20 3 rfl ?_
    refine ev_aload_n dX11_keepForUndo_21 0 rfl ?_
    refine ev_getK 10 dX11_keepForUndo_22 (hS.lt (hc 0 rfl)) rfl (hS.K1 (hc 0 rfl) rfl) ciX11 (by decide) rfl flX11_70 ?_
    refine ev_alen dX11_keepForUndo_25 (hS.lt (hc 45 rfl)) rfl (by decide) ?_
    refine ev_rn (w := vi 16) rfl ?_
    refine ev_icmp_ge 63 dX11_keepForUndo_26 (by decide) (fun h7 => ?_) (fun h7 => ?_)
    · rw [if_neg h7] at hf
      obtain rfl := Option.some.inj hf
      refine ev_sub [0, 1, 2] rfl ?_
      exact hr
    · rw [if_pos h7] at hf
      refine ev_aload_n dX11_keepForUndo_29 0 rfl ?_
      refine ev_getK 9 dX11_keepForUndo_30 (hS.lt (hc 0 rfl)) rfl (hS.K1 (hc 0 rfl) rfl) ciX11 (by decide) rfl flX11_66 ?_
      refine ev_iload_n dX11_keepForUndo_33 3 rfl ?_
      refine ev_iconst dX11_keepForUndo_34 ?_
      refine ev_isub dX11_keepForUndo_35 ?_
      refine ev_aload_n dX11_keepForUndo_36 0 rfl ?_
      refine ev_getK 9 dX11_keepForUndo_37 (hS.lt (hc 0 rfl)) rfl (hS.K1 (hc 0 rfl) rfl) ciX11 (by decide) rfl flX11_66 ?_
      refine ev_iload_n dX11_keepForUndo_40 3 rfl ?_
      obtain ⟨g8, hf⟩ := gd_elim hf
      refine ev_iald dX11_keepForUndo_41 (hS.lt (hc 44 rfl)) rfl (hS.mem _ (hc 44 rfl)) g8 ?_
      obtain ⟨g9, hf⟩ := gd_elim hf
      obtain ⟨μ10, hμ10, hf⟩ := lt_elim hf
      refine ev_iast dX11_keepForUndo_42 (hS.lt (hc 44 rfl)) rfl g9 (hS.up (hc 44 rfl) hμ10) ?_
      refine ev_aload_n dX11_keepForUndo_43 0 rfl ?_
      refine ev_getK 10 dX11_keepForUndo_44 (hS.lt (hc 0 rfl)) rfl (hS.K1 (hc 0 rfl) rfl) ciX11 (by decide) rfl flX11_70 ?_
      refine ev_iload_n dX11_keepForUndo_47 3 rfl ?_
      refine ev_iconst dX11_keepForUndo_48 ?_
      refine ev_isub dX11_keepForUndo_49 ?_
      refine ev_aload_n dX11_keepForUndo_50 0 rfl ?_
      refine ev_getK 10 dX11_keepForUndo_51 (hS.lt (hc 0 rfl)) rfl (hS.K1 (hc 0 rfl) rfl) ciX11 (by decide) rfl flX11_70 ?_
      refine ev_iload_n dX11_keepForUndo_54 3 rfl ?_
      obtain ⟨g11, hf⟩ := gd_elim hf
      refine ev_iald dX11_keepForUndo_55 (hS.lt (hc 45 rfl)) rfl (hS.mem _ (hc 45 rfl)) g11 ?_
      obtain ⟨g12, hf⟩ := gd_elim hf
      obtain ⟨μ13, hμ13, hf⟩ := lt_elim hf
      refine ev_iast dX11_keepForUndo_56 (hS.lt (hc 45 rfl)) rfl g12 (hS.up (hc 45 rfl) hμ13) ?_
      refine ev_iinc (al2 := [(3, vi (v5 + 1)), (0, vr g 0), (1, vi many), (2, vi price)]) dX11_keepForUndo_57 3 rfl (by decide) rfl ?_
      refine ev_goto 11 dX11_keepForUndo_60 (by decide) ?_
      obtain rfl := Option.some.inj hf
      refine ev_sub [1, 2, 3, 0] rfl ?_
      exact hr
def fX11_keepForUndo_j63 (many : Int) (price : Int) (μ : Mem) : Option (Mem) :=
  lt (upd2 μ 0 11 15) fun μ15 =>
  fX11_keepForUndo_j69 many price μ15
set_option maxRecDepth 4000 in
theorem tX11_keepForUndo_j63 (hS : Sd M K P L) (hc : CIn P 0 46) (many : Int) (price : Int) (μ : Mem)  {o : Mem} (hf : fX11_keepForUndo_j63 many price μ = some o) (hr : (fun o : Mem => Φ none M x (L o)) o) : Ev l D cy g K yX11_keepForUndo cX11_keepForUndo 4 none (rmd 2 0 0) (MX D cy g K (rmd 2 0 0) Φ) 0 0 M x (L μ) 63 [(0, vr g 0), (1, vi many), (2, vi price)] [] := by
  unfold fX11_keepForUndo_j63 at hf
  refine ev_aload_n dX11_keepForUndo_63 0 rfl ?_
  refine ev_bipush dX11_keepForUndo_64 (by decide) ?_
  obtain ⟨μ15, hμ15, hf⟩ := lt_elim hf
  refine ev_putI 11 dX11_keepForUndo_66 (hS.lt (hc 0 rfl)) rfl ciX11 (by decide) (Or.inl rfl) rfl rfl flX11_198 (hS.up (hc 0 rfl) hμ15) ?_
  refine ev_sub [0, 1, 2] rfl ?_
  exact tX11_keepForUndo_j69 hS hc many price μ15 hf hr
def fX11_keepForUndo (many : Int) (price : Int) (μ : Mem) : Option (Mem) :=
  if w32 (μ 0 11) < w32 16 then
    fX11_keepForUndo_j69 many price μ
  else
    (loopN (fun s => fX11_keepForUndo_b11 many price s.1 s.2) FU (1, μ)).bind fun q14 =>
    fX11_keepForUndo_j63 many price q14
set_option maxRecDepth 4000 in
theorem eX11_keepForUndo (hS : Sd M K P L) (hc : CIn P 0 46) (many : Int) (price : Int) (μ : Mem)  {o : Mem} (hf : fX11_keepForUndo many price μ = some o) (hr : (fun o : Mem => Φ none M x (L o)) o) : Ev l D cy g K yX11_keepForUndo cX11_keepForUndo 4 none (rmd 2 0 0) (MX D cy g K (rmd 2 0 0) Φ) 0 0 M x (L μ) 0 [(0, vr g 0), (1, vi many), (2, vi price)] [] := by
  unfold fX11_keepForUndo at hf
  refine ev_aload_n dX11_keepForUndo_0 0 rfl ?_
  refine ev_getI 11 dX11_keepForUndo_1 (hS.lt (hc 0 rfl)) rfl (hS.mem _ (hc 0 rfl)) ciX11 (by decide) rfl flX11_198 ?_
  refine ev_bipush dX11_keepForUndo_4 (by decide) ?_
  refine ev_icmp_lt 69 dX11_keepForUndo_6 (by decide) (fun h1 => ?_) (fun h1 => ?_)
  · rw [if_pos h1] at hf
    refine ev_sub [0, 1, 2] rfl ?_
    exact tX11_keepForUndo_j69 hS hc many price μ hf hr
  · rw [if_neg h1] at hf
    refine ev_iconst dX11_keepForUndo_9 ?_
    refine ev_istore_n (al2 := [(3, vi 1), (0, vr g 0), (1, vi many), (2, vi price)]) dX11_keepForUndo_10 3 rfl (by decide) rfl ?_
    obtain ⟨q14, hq14, hf⟩ := Option.bind_eq_some_iff.mp hf
    refine ev_sub [1, 2, 3, 0] rfl ?_
    refine loop_ev (H := (fun s : Int × Mem => Ev l D cy g K yX11_keepForUndo cX11_keepForUndo 4 none (rmd 2 0 0) (MX D cy g K (rmd 2 0 0) Φ) 0 0 M x (L s.2) 11 [(0, vr g 0), (1, vi many), (2, vi price), (3, vi s.1)] [])) (Hx := (fun e : Mem => Ev l D cy g K yX11_keepForUndo cX11_keepForUndo 4 none (rmd 2 0 0) (MX D cy g K (rmd 2 0 0) Φ) 0 0 M x (L e) 63 [(0, vr g 0), (1, vi many), (2, vi price)] [])) (fun s o hb hr => tX11_keepForUndo_b11 hS hc many price s.1 s.2 hb hr) FU _ _ hq14 ?_
    show Ev l D cy g K yX11_keepForUndo cX11_keepForUndo 4 none (rmd 2 0 0) (MX D cy g K (rmd 2 0 0) Φ) 0 0 M x (L q14) 63 [(0, vr g 0), (1, vi many), (2, vi price)] []
    refine ev_sub [0, 1, 2] rfl ?_
    exact tX11_keepForUndo_j63 hS hc many price q14 hf hr
theorem tX11_keepForUndo (hS : Sd M K P L) (hc : CIn P 0 46) (many : Int) (price : Int) (μ : Mem) {o : Mem} (hf : fX11_keepForUndo many price μ = some o) : Cn l D cy g K K yX11_keepForUndo cX11_keepForUndo 4 none (rmd 2 0 0) [vr g 0, vi many, vi price] M x (L μ) (PE none M x (L o)) :=
 Cn.of (by decide) (Nat.le_of_ble_eq_true rfl) (eX11_keepForUndo hS hc many price μ hf (PE_i _ _ _ _))
def fX11_turn (many : Int) (μ : Mem) : Option (Int × Mem) :=
  lt (μ 41 1) fun v1 =>
  if (fX7_isOpen v1 many μ) = true then
    lt (fX7_priceOf v1 many μ) fun v3 =>
    lt (fX5_move 41 (fX7_turned v1 many μ) 1 v3 μ) fun μ4 =>
    (fX11_keepForUndo many v3 μ4).bind fun μ5 =>
    some ((v3, μ5))
  else
    some (((-1), μ))
set_option maxRecDepth 4000 in
theorem eX11_turn (hS : Sd M K P L) (hc : CIn P 0 75) (many : Int) (μ : Mem)  {o : Int × Mem} (hf : fX11_turn many μ = some o) (hr : (fun o : Int × Mem => Φ (some (vi o.1)) M x (L o.2)) o) : Ev l D cy g K yX11_turn cX11_turn 4 (some .int) (rmd 4 0 0) (MX D cy g K (rmd 4 0 0) Φ) 0 0 M x (L μ) 0 [(0, vr g 0), (1, vi many)] [] := by
  unfold fX11_turn at hf
  refine ev_aload_n dX11_turn_0 0 rfl ?_
  refine ev_getK 7 dX11_turn_1 (hS.lt (hc 0 rfl)) rfl (hS.K1 (hc 0 rfl) rfl) ciX11 (by decide) rfl flX11_58 ?_
  refine cl_V1 (As := []) (st := []) miX5_stack (tX5_stack hS (hc.w rfl rfl) 41 μ (by simp [isMo]) (o := (μ 41 1)) rfl) dX11_turn_4 lkX11_167 inX5_stack rfl (hS.lt (hc 41 rfl)) rfl ⟨rfl, rfl⟩ ⟨⟨Nat.le_of_ble_eq_true rfl, Nat.le_of_ble_eq_true rfl⟩, Nat.zero_le _, Nat.zero_le _⟩ (Nat.le_of_ble_eq_true rfl) ?_
  obtain ⟨v1, hv1, hf⟩ := lt_elim hf
  refine ev_rni hv1 ?_
  refine ev_istore_n (al2 := [(2, vi v1), (0, vr g 0), (1, vi many)]) dX11_turn_7 2 rfl (by decide) rfl ?_
  refine ev_aload_n dX11_turn_8 1 rfl ?_
  refine ev_getK 4 dX11_turn_9 (hS.lt (hc 0 rfl)) rfl (hS.K1 (hc 0 rfl) rfl) ciX11 (by decide) rfl flX11_40 ?_
  refine ev_iload_n dX11_turn_12 0 rfl ?_
  refine ev_iload_n dX11_turn_13 2 rfl ?_
  refine cl_V1 (As := [vi v1, vi many]) (st := []) miX7_isOpen (tX7_isOpen hS (hc.w rfl rfl) v1 many μ (o := (fX7_isOpen v1 many μ)) rfl) dX11_turn_14 lkX11_181 inX7_isOpen rfl (hS.lt (hc 25 rfl)) rfl ⟨rfl, rfl⟩ ⟨⟨Nat.le_of_ble_eq_true rfl, Nat.le_of_ble_eq_true rfl⟩, Nat.zero_le _, Nat.zero_le _⟩ (Nat.le_of_ble_eq_true rfl) ?_
  refine ev_ifb_ne 22 dX11_turn_17 (by decide) (fun h2 => ?_) (fun h2 => ?_)
  · rw [if_pos h2] at hf
    refine ev_aload_n dX11_turn_22 1 rfl ?_
    refine ev_getK 4 dX11_turn_23 (hS.lt (hc 0 rfl)) rfl (hS.K1 (hc 0 rfl) rfl) ciX11 (by decide) rfl flX11_40 ?_
    refine ev_iload_n dX11_turn_26 0 rfl ?_
    refine ev_iload_n dX11_turn_27 2 rfl ?_
    refine cl_V1 (As := [vi v1, vi many]) (st := []) miX7_priceOf (tX7_priceOf hS (hc.w rfl rfl) v1 many μ (o := (fX7_priceOf v1 many μ)) rfl) dX11_turn_28 lkX11_184 inX7_priceOf rfl (hS.lt (hc 25 rfl)) rfl ⟨rfl, rfl⟩ ⟨⟨Nat.le_of_ble_eq_true rfl, Nat.le_of_ble_eq_true rfl⟩, Nat.zero_le _, Nat.zero_le _⟩ (Nat.le_of_ble_eq_true rfl) ?_
    obtain ⟨v3, hv3, hf⟩ := lt_elim hf
    refine ev_rni hv3 ?_
    refine ev_istore_n (al2 := [(3, vi v3), (2, vi v1), (0, vr g 0), (1, vi many)]) dX11_turn_31 3 rfl (by decide) rfl ?_
    refine ev_aload_n dX11_turn_32 2 rfl ?_
    refine ev_getK 7 dX11_turn_33 (hS.lt (hc 0 rfl)) rfl (hS.K1 (hc 0 rfl) rfl) ciX11 (by decide) rfl flX11_58 ?_
    refine ev_aload_n dX11_turn_36 2 rfl ?_
    refine ev_getK 4 dX11_turn_37 (hS.lt (hc 0 rfl)) rfl (hS.K1 (hc 0 rfl) rfl) ciX11 (by decide) rfl flX11_40 ?_
    refine ev_iload_n dX11_turn_40 1 rfl ?_
    refine ev_iload_n dX11_turn_41 3 rfl ?_
    refine cl_V1 (As := [vi v1, vi many]) (st := [vr g 41]) miX7_turned (tX7_turned hS (hc.w rfl rfl) v1 many μ (o := (fX7_turned v1 many μ)) rfl) dX11_turn_42 lkX11_187 inX7_turned rfl (hS.lt (hc 25 rfl)) rfl ⟨rfl, rfl⟩ ⟨⟨Nat.le_of_ble_eq_true rfl, Nat.le_of_ble_eq_true rfl⟩, Nat.zero_le _, Nat.zero_le _⟩ (Nat.le_of_ble_eq_true rfl) ?_
    refine ev_iconst dX11_turn_45 ?_
    refine ev_iload_n dX11_turn_46 0 rfl ?_
    obtain ⟨μ4, hμ4, hf⟩ := lt_elim hf
    refine cl_V0 (As := [vi (fX7_turned v1 many μ), vi 1, vi v3]) (st := []) miX5_move (tX5_move hS (hc.w rfl rfl) 41 (fX7_turned v1 many μ) 1 v3 μ (by simp [isMo]) hμ4.symm) dX11_turn_47 lkX11_190 inX5_move rfl (hS.lt (hc 41 rfl)) rfl ⟨rfl, rfl⟩ ⟨⟨Nat.le_of_ble_eq_true rfl, Nat.le_of_ble_eq_true rfl⟩, Nat.zero_le _, Nat.zero_le _⟩ (Nat.le_of_ble_eq_true rfl) ?_
    refine ev_aload_n dX11_turn_50 2 rfl ?_
    refine ev_iload_n dX11_turn_51 3 rfl ?_
    refine ev_iload_n dX11_turn_52 0 rfl ?_
    obtain ⟨μ5, hμ5, hf⟩ := Option.bind_eq_some_iff.mp hf
    refine cl_V0 (As := [vi many, vi v3]) (st := []) miX11_keepForUndo (tX11_keepForUndo hS (hc.w rfl rfl) many v3 μ4 hμ5) dX11_turn_53 lkX11_194 inX11_keepForUndo rfl (hS.lt (hc 0 rfl)) rfl ⟨rfl, rfl⟩ ⟨⟨Nat.le_of_ble_eq_true rfl, Nat.le_of_ble_eq_true rfl⟩, Nat.zero_le _, Nat.zero_le _⟩ (Nat.le_of_ble_eq_true rfl) ?_
    refine ev_iload_n dX11_turn_56 0 rfl ?_
    obtain rfl := Option.some.inj hf
    exact ev_iret dX11_turn_57 rfl ⟨Nat.zero_le _, Nat.zero_le _⟩ hr
  · rw [if_neg h2] at hf
    refine ev_iconst dX11_turn_20 ?_
    obtain rfl := Option.some.inj hf
    exact ev_iret dX11_turn_21 rfl ⟨Nat.zero_le _, Nat.zero_le _⟩ hr
theorem tX11_turn (hS : Sd M K P L) (hc : CIn P 0 75) (many : Int) (μ : Mem) {o : Int × Mem} (hf : fX11_turn many μ = some o) : Cn l D cy g K K yX11_turn cX11_turn 4 (some .int) (rmd 4 0 0) [vr g 0, vi many] M x (L μ) (PE (some (vi o.1)) M x (L o.2)) :=
 Cn.of (by decide) (Nat.le_of_ble_eq_true rfl) (eX11_turn hS hc many μ hf (PE_i _ _ _ _))
def fX11_undo  (μ : Mem) : Bool × Mem :=
  if w32 (μ 0 11) ≤ 0 then
    (false, μ)
  else
    lt (upd2 μ 0 11 ((μ 0 11) - 1)) fun μ2 =>
    lt (fX7_turned (μ2 41 1) (fX11_at 44 (μ2 0 11) μ2) μ2) fun v3 =>
    lt (fX5_move 41 v3 (-1) (-(fX11_at 45 (μ2 0 11) μ2)) μ2) fun μ4 =>
    (true, μ4)
set_option maxRecDepth 4000 in
theorem eX11_undo (hS : Sd M K P L) (hc : CIn P 0 75)  (μ : Mem)  {o : Bool × Mem} (hf : fX11_undo  μ = o) (hr : (fun o : Bool × Mem => Φ (some (vb o.1)) M x (L o.2)) o) : Ev l D cy g K yX11_undo cX11_undo 2 (some .boolean) (rmd 3 0 0) (MX D cy g K (rmd 3 0 0) Φ) 0 0 M x (L μ) 0 [(0, vr g 0)] [] := by
  unfold fX11_undo at hf
  refine ev_aload_n dX11_undo_0 0 rfl ?_
  refine ev_getI 11 dX11_undo_1 (hS.lt (hc 0 rfl)) rfl (hS.mem _ (hc 0 rfl)) ciX11 (by decide) rfl flX11_198 ?_
  refine ev_if_gt 9 dX11_undo_4 (by decide) (fun h1 => ?_) (fun h1 => ?_)
  · rw [if_neg h1] at hf
    refine ev_aload_n dX11_undo_9 0 rfl ?_
    refine ev_dup dX11_undo_10 rfl ?_
    refine ev_getI 11 dX11_undo_11 (hS.lt (hc 0 rfl)) rfl (hS.mem _ (hc 0 rfl)) ciX11 (by decide) rfl flX11_198 ?_
    refine ev_iconst dX11_undo_14 ?_
    refine ev_isub dX11_undo_15 ?_
    obtain ⟨μ2, hμ2, hf⟩ := lt_elim hf
    refine ev_putI 11 dX11_undo_16 (hS.lt (hc 0 rfl)) rfl ciX11 (by decide) (Or.inl rfl) rfl rfl flX11_198 (hS.up (hc 0 rfl) hμ2) ?_
    refine ev_aload_n dX11_undo_19 0 rfl ?_
    refine ev_getK 4 dX11_undo_20 (hS.lt (hc 0 rfl)) rfl (hS.K1 (hc 0 rfl) rfl) ciX11 (by decide) rfl flX11_40 ?_
    refine ev_aload_n dX11_undo_23 0 rfl ?_
    refine ev_getK 7 dX11_undo_24 (hS.lt (hc 0 rfl)) rfl (hS.K1 (hc 0 rfl) rfl) ciX11 (by decide) rfl flX11_58 ?_
    refine cl_V1 (As := []) (st := [vr g 25]) miX5_stack (tX5_stack hS (hc.w rfl rfl) 41 μ2 (by simp [isMo]) (o := (μ2 41 1)) rfl) dX11_undo_27 lkX11_167 inX5_stack rfl (hS.lt (hc 41 rfl)) rfl ⟨rfl, rfl⟩ ⟨⟨Nat.le_of_ble_eq_true rfl, Nat.le_of_ble_eq_true rfl⟩, Nat.zero_le _, Nat.zero_le _⟩ (Nat.le_of_ble_eq_true rfl) ?_
    refine ev_aload_n dX11_undo_30 0 rfl ?_
    refine ev_getK 9 dX11_undo_31 (hS.lt (hc 0 rfl)) rfl (hS.K1 (hc 0 rfl) rfl) ciX11 (by decide) rfl flX11_66 ?_
    refine ev_aload_n dX11_undo_34 0 rfl ?_
    refine ev_getI 11 dX11_undo_35 (hS.lt (hc 0 rfl)) rfl (hS.mem _ (hc 0 rfl)) ciX11 (by decide) rfl flX11_198 ?_
    refine cl_S1 (As := [vr g 44, vi (μ2 0 11)]) (st := [vi (μ2 41 1), vr g 25]) miX11_at (tX11_at hS (hc.w rfl rfl) 44 (μ2 0 11) μ2 (⟨(hc 44 rfl), rfl⟩) (o := (fX11_at 44 (μ2 0 11) μ2)) rfl) dX11_undo_38 lkX11_201 stX11_at rfl ⟨⟨Nat.le_of_ble_eq_true rfl, Nat.le_of_ble_eq_true rfl⟩, Nat.zero_le _, Nat.zero_le _⟩ (Nat.le_of_ble_eq_true rfl) ?_
    obtain ⟨v3, hv3, hf⟩ := lt_elim hf
    refine cl_V1 (As := [vi (μ2 41 1), vi (fX11_at 44 (μ2 0 11) μ2)]) (st := []) miX7_turned (tX7_turned hS (hc.w rfl rfl) (μ2 41 1) (fX11_at 44 (μ2 0 11) μ2) μ2 hv3.symm) dX11_undo_41 lkX11_187 inX7_turned rfl (hS.lt (hc 25 rfl)) rfl ⟨rfl, rfl⟩ ⟨⟨Nat.le_of_ble_eq_true rfl, Nat.le_of_ble_eq_true rfl⟩, Nat.zero_le _, Nat.zero_le _⟩ (Nat.le_of_ble_eq_true rfl) ?_
    refine ev_istore_n (al2 := [(1, vi v3), (0, vr g 0)]) dX11_undo_44 1 rfl (by decide) rfl ?_
    refine ev_aload_n dX11_undo_45 1 rfl ?_
    refine ev_getK 7 dX11_undo_46 (hS.lt (hc 0 rfl)) rfl (hS.K1 (hc 0 rfl) rfl) ciX11 (by decide) rfl flX11_58 ?_
    refine ev_iload_n dX11_undo_49 0 rfl ?_
    refine ev_iconst dX11_undo_50 ?_
    refine ev_aload_n dX11_undo_51 1 rfl ?_
    refine ev_getK 10 dX11_undo_52 (hS.lt (hc 0 rfl)) rfl (hS.K1 (hc 0 rfl) rfl) ciX11 (by decide) rfl flX11_70 ?_
    refine ev_aload_n dX11_undo_55 1 rfl ?_
    refine ev_getI 11 dX11_undo_56 (hS.lt (hc 0 rfl)) rfl (hS.mem _ (hc 0 rfl)) ciX11 (by decide) rfl flX11_198 ?_
    refine cl_S1 (As := [vr g 45, vi (μ2 0 11)]) (st := [vi (-1), vi v3, vr g 41]) miX11_at (tX11_at hS (hc.w rfl rfl) 45 (μ2 0 11) μ2 (⟨(hc 45 rfl), rfl⟩) (o := (fX11_at 45 (μ2 0 11) μ2)) rfl) dX11_undo_59 lkX11_201 stX11_at rfl ⟨⟨Nat.le_of_ble_eq_true rfl, Nat.le_of_ble_eq_true rfl⟩, Nat.zero_le _, Nat.zero_le _⟩ (Nat.le_of_ble_eq_true rfl) ?_
    refine ev_ineg dX11_undo_62 ?_
    obtain ⟨μ4, hμ4, hf⟩ := lt_elim hf
    refine cl_V0 (As := [vi v3, vi (-1), vi (-(fX11_at 45 (μ2 0 11) μ2))]) (st := []) miX5_move (tX5_move hS (hc.w rfl rfl) 41 v3 (-1) (-(fX11_at 45 (μ2 0 11) μ2)) μ2 (by simp [isMo]) hμ4.symm) dX11_undo_63 lkX11_190 inX5_move rfl (hS.lt (hc 41 rfl)) rfl ⟨rfl, rfl⟩ ⟨⟨Nat.le_of_ble_eq_true rfl, Nat.le_of_ble_eq_true rfl⟩, Nat.zero_le _, Nat.zero_le _⟩ (Nat.le_of_ble_eq_true rfl) ?_
    refine ev_iconst dX11_undo_66 ?_
    obtain rfl := hf
    exact ev_bret (b := true) dX11_undo_67 rfl ⟨Nat.zero_le _, Nat.zero_le _⟩ hr
  · rw [if_pos h1] at hf
    refine ev_iconst dX11_undo_7 ?_
    obtain rfl := hf
    exact ev_bret (b := false) dX11_undo_8 rfl ⟨Nat.zero_le _, Nat.zero_le _⟩ hr
theorem tX11_undo (hS : Sd M K P L) (hc : CIn P 0 75) (μ : Mem) {o : Bool × Mem} (hf : fX11_undo μ = o) : Cn l D cy g K K yX11_undo cX11_undo 2 (some .boolean) (rmd 3 0 0) [vr g 0] M x (L μ) (PE (some (vb o.1)) M x (L o.2)) :=
 Cn.of (by decide) (Nat.le_of_ble_eq_true rfl) (eX11_undo hS hc μ hf (PE_i _ _ _ _))
def fX11_can (many : Int) (μ : Mem) : Bool :=
  (fX7_isOpen (μ 41 1) many μ)
set_option maxRecDepth 4000 in
theorem eX11_can (hS : Sd M K P L) (hc : CIn P 0 75) (many : Int) (μ : Mem)  {o : Bool} (hf : fX11_can many μ = o) (hr : (fun o : Bool => Φ (some (vb o)) M x (L μ)) o) : Ev l D cy g K yX11_can cX11_can 2 (some .boolean) (rmd 4 0 0) (MX D cy g K (rmd 4 0 0) Φ) 0 0 M x (L μ) 0 [(0, vr g 0), (1, vi many)] [] := by
  unfold fX11_can at hf
  refine ev_aload_n dX11_can_0 0 rfl ?_
  refine ev_getK 4 dX11_can_1 (hS.lt (hc 0 rfl)) rfl (hS.K1 (hc 0 rfl) rfl) ciX11 (by decide) rfl flX11_40 ?_
  refine ev_aload_n dX11_can_4 0 rfl ?_
  refine ev_getK 7 dX11_can_5 (hS.lt (hc 0 rfl)) rfl (hS.K1 (hc 0 rfl) rfl) ciX11 (by decide) rfl flX11_58 ?_
  refine cl_V1 (As := []) (st := [vr g 25]) miX5_stack (tX5_stack hS (hc.w rfl rfl) 41 μ (by simp [isMo]) (o := (μ 41 1)) rfl) dX11_can_8 lkX11_167 inX5_stack rfl (hS.lt (hc 41 rfl)) rfl ⟨rfl, rfl⟩ ⟨⟨Nat.le_of_ble_eq_true rfl, Nat.le_of_ble_eq_true rfl⟩, Nat.zero_le _, Nat.zero_le _⟩ (Nat.le_of_ble_eq_true rfl) ?_
  refine ev_iload_n dX11_can_11 1 rfl ?_
  refine cl_V1 (As := [vi (μ 41 1), vi many]) (st := []) miX7_isOpen (tX7_isOpen hS (hc.w rfl rfl) (μ 41 1) many μ (o := (fX7_isOpen (μ 41 1) many μ)) rfl) dX11_can_12 lkX11_181 inX7_isOpen rfl (hS.lt (hc 25 rfl)) rfl ⟨rfl, rfl⟩ ⟨⟨Nat.le_of_ble_eq_true rfl, Nat.le_of_ble_eq_true rfl⟩, Nat.zero_le _, Nat.zero_le _⟩ (Nat.le_of_ble_eq_true rfl) ?_
  obtain rfl := hf
  exact ev_bret (b := (fX7_isOpen (μ 41 1) many μ)) dX11_can_15 rfl ⟨Nat.zero_le _, Nat.zero_le _⟩ hr
theorem tX11_can (hS : Sd M K P L) (hc : CIn P 0 75) (many : Int) (μ : Mem) {o : Bool} (hf : fX11_can many μ = o) : Cn l D cy g K K yX11_can cX11_can 2 (some .boolean) (rmd 4 0 0) [vr g 0, vi many] M x (L μ) (PE (some (vb o)) M x (L μ)) :=
 Cn.of (by decide) (Nat.le_of_ble_eq_true rfl) (eX11_can hS hc many μ hf (PE_i _ _ _ _))
def fX11_isTurn (many : Int) (μ : Mem) : Bool :=
  lt (if w32 many < w32 1 then
      false
    else
      if w32 many ≤ w32 (μ 25 1) then
        true
      else
        false) fun v1 =>
  v1
set_option maxRecDepth 4000 in
theorem eX11_isTurn (hS : Sd M K P L) (hc : CIn P 0 26) (many : Int) (μ : Mem)  {o : Bool} (hf : fX11_isTurn many μ = o) (hr : (fun o : Bool => Φ (some (vb o)) M x (L μ)) o) : Ev l D cy g K yX11_isTurn cX11_isTurn 2 (some .boolean) (rmd 2 0 0) (MX D cy g K (rmd 2 0 0) Φ) 0 0 M x (L μ) 0 [(0, vr g 0), (1, vi many)] [] := by
  unfold fX11_isTurn at hf
  refine ev_iload_n dX11_isTurn_0 1 rfl ?_
  refine ev_iconst dX11_isTurn_1 ?_
  obtain ⟨v1, hv1, hf⟩ := lt_elim hf
  have hJv1 : Ev l D cy g K yX11_isTurn cX11_isTurn 2 (some .boolean) (rmd 2 0 0) (MX D cy g K (rmd 2 0 0) Φ) 0 0 M x (L μ) 21 [(0, vr g 0), (1, vi many)] [vb v1] := by
    obtain rfl := hf
    exact ev_bret (b := v1) dX11_isTurn_21 rfl ⟨Nat.zero_le _, Nat.zero_le _⟩ hr
  refine ev_icmp_lt 20 dX11_isTurn_2 (by decide) (fun h2 => ?_) (fun h2 => ?_)
  · refine ev_iconst dX11_isTurn_20 ?_
    have e9 : v1 = false := hv1.trans ((if_pos h2))
    subst e9
    exact hJv1
  · refine ev_iload_n dX11_isTurn_5 1 rfl ?_
    refine ev_aload_n dX11_isTurn_6 0 rfl ?_
    refine ev_getK 4 dX11_isTurn_7 (hS.lt (hc 0 rfl)) rfl (hS.K1 (hc 0 rfl) rfl) ciX11 (by decide) rfl flX11_40 ?_
    refine cl_V1 (As := []) (st := [vi many]) miX7_cakes (tX7_cakes hS (hc.w rfl rfl) μ (o := (μ 25 1)) rfl) dX11_isTurn_10 lkX11_133 inX7_cakes rfl (hS.lt (hc 25 rfl)) rfl ⟨rfl, rfl⟩ ⟨⟨Nat.le_of_ble_eq_true rfl, Nat.le_of_ble_eq_true rfl⟩, Nat.zero_le _, Nat.zero_le _⟩ (Nat.le_of_ble_eq_true rfl) ?_
    refine ev_icmp_gt 20 dX11_isTurn_13 (by decide) (fun h3 => ?_) (fun h3 => ?_)
    · refine ev_iconst dX11_isTurn_20 ?_
      have e9 : v1 = false := hv1.trans (((if_neg h2)).trans (if_neg h3))
      subst e9
      exact hJv1
    · refine ev_iconst dX11_isTurn_16 ?_
      refine ev_goto 21 dX11_isTurn_17 (by decide) ?_
      have e9 : v1 = true := hv1.trans (((if_neg h2)).trans (if_pos h3))
      subst e9
      exact hJv1
theorem tX11_isTurn (hS : Sd M K P L) (hc : CIn P 0 26) (many : Int) (μ : Mem) {o : Bool} (hf : fX11_isTurn many μ = o) : Cn l D cy g K K yX11_isTurn cX11_isTurn 2 (some .boolean) (rmd 2 0 0) [vr g 0, vi many] M x (L μ) (PE (some (vb o)) M x (L μ)) :=
 Cn.of (by decide) (Nat.le_of_ble_eq_true rfl) (eX11_isTurn hS hc many μ hf (PE_i _ _ _ _))
def fX11_cost (many : Int) (μ : Mem) : Int :=
  lt (if (fX11_isTurn many μ) = true then
      (fX7_priceOf (μ 41 1) many μ)
    else
      (-1)) fun v1 =>
  v1
set_option maxRecDepth 4000 in
theorem eX11_cost (hS : Sd M K P L) (hc : CIn P 0 75) (many : Int) (μ : Mem)  {o : Int} (hf : fX11_cost many μ = o) (hr : (fun o : Int => Φ (some (vi o)) M x (L μ)) o) : Ev l D cy g K yX11_cost cX11_cost 2 (some .int) (rmd 4 0 0) (MX D cy g K (rmd 4 0 0) Φ) 0 0 M x (L μ) 0 [(0, vr g 0), (1, vi many)] [] := by
  unfold fX11_cost at hf
  refine ev_aload_n dX11_cost_0 0 rfl ?_
  refine ev_iload_n dX11_cost_1 1 rfl ?_
  refine cl_V1 (As := [vi many]) (st := []) miX11_isTurn (tX11_isTurn hS (hc.w rfl rfl) many μ (o := (fX11_isTurn many μ)) rfl) dX11_cost_2 lkX11_204 inX11_isTurn rfl (hS.lt (hc 0 rfl)) rfl ⟨rfl, rfl⟩ ⟨⟨Nat.le_of_ble_eq_true rfl, Nat.le_of_ble_eq_true rfl⟩, Nat.zero_le _, Nat.zero_le _⟩ (Nat.le_of_ble_eq_true rfl) ?_
  obtain ⟨v1, hv1, hf⟩ := lt_elim hf
  have hJv1 : Ev l D cy g K yX11_cost cX11_cost 2 (some .int) (rmd 4 0 0) (MX D cy g K (rmd 4 0 0) Φ) 0 0 M x (L μ) 27 [(0, vr g 0), (1, vi many)] [vi v1] := by
    obtain rfl := hf
    exact ev_iret dX11_cost_27 rfl ⟨Nat.zero_le _, Nat.zero_le _⟩ hr
  refine ev_ifb_eq 26 dX11_cost_5 (by decide) (fun h2 => ?_) (fun h2 => ?_)
  · refine ev_iconst dX11_cost_26 ?_
    have e9 : v1 = (-1) := hv1.trans ((if_neg h2))
    subst e9
    exact hJv1
  · refine ev_aload_n dX11_cost_8 0 rfl ?_
    refine ev_getK 4 dX11_cost_9 (hS.lt (hc 0 rfl)) rfl (hS.K1 (hc 0 rfl) rfl) ciX11 (by decide) rfl flX11_40 ?_
    refine ev_aload_n dX11_cost_12 0 rfl ?_
    refine ev_getK 7 dX11_cost_13 (hS.lt (hc 0 rfl)) rfl (hS.K1 (hc 0 rfl) rfl) ciX11 (by decide) rfl flX11_58 ?_
    refine cl_V1 (As := []) (st := [vr g 25]) miX5_stack (tX5_stack hS (hc.w rfl rfl) 41 μ (by simp [isMo]) (o := (μ 41 1)) rfl) dX11_cost_16 lkX11_167 inX5_stack rfl (hS.lt (hc 41 rfl)) rfl ⟨rfl, rfl⟩ ⟨⟨Nat.le_of_ble_eq_true rfl, Nat.le_of_ble_eq_true rfl⟩, Nat.zero_le _, Nat.zero_le _⟩ (Nat.le_of_ble_eq_true rfl) ?_
    refine ev_iload_n dX11_cost_19 1 rfl ?_
    refine cl_V1 (As := [vi (μ 41 1), vi many]) (st := []) miX7_priceOf (tX7_priceOf hS (hc.w rfl rfl) (μ 41 1) many μ (o := (fX7_priceOf (μ 41 1) many μ)) rfl) dX11_cost_20 lkX11_184 inX7_priceOf rfl (hS.lt (hc 25 rfl)) rfl ⟨rfl, rfl⟩ ⟨⟨Nat.le_of_ble_eq_true rfl, Nat.le_of_ble_eq_true rfl⟩, Nat.zero_le _, Nat.zero_le _⟩ (Nat.le_of_ble_eq_true rfl) ?_
    refine ev_goto 27 dX11_cost_23 (by decide) ?_
    have e9 : v1 = (fX7_priceOf (μ 41 1) many μ) := hv1.trans ((if_pos h2))
    subst e9
    exact hJv1
theorem tX11_cost (hS : Sd M K P L) (hc : CIn P 0 75) (many : Int) (μ : Mem) {o : Int} (hf : fX11_cost many μ = o) : Cn l D cy g K K yX11_cost cX11_cost 2 (some .int) (rmd 4 0 0) [vr g 0, vi many] M x (L μ) (PE (some (vi o)) M x (L μ)) :=
 Cn.of (by decide) (Nat.le_of_ble_eq_true rfl) (eX11_cost hS hc many μ hf (PE_i _ _ _ _))
def fX7_goal  (μ : Mem) : Int :=
  (μ 25 4)
set_option maxRecDepth 4000 in
theorem eX7_goal (hS : Sd M K P L) (hc : CIn P 25 26)  (μ : Mem)  {o : Int} (hf : fX7_goal  μ = o) (hr : (fun o : Int => Φ (some (vi o)) M x (L μ)) o) : Ev l D cy g K yX7_goal cX7_goal 1 (some .int) (rmd 1 0 0) (MX D cy g K (rmd 1 0 0) Φ) 0 0 M x (L μ) 0 [(0, vr g 25)] [] := by
  unfold fX7_goal at hf
  refine ev_aload_n dX7_goal_0 0 rfl ?_
  refine ev_getI 4 dX7_goal_1 (hS.lt (hc 25 rfl)) rfl (hS.mem _ (hc 25 rfl)) ciX7 (by decide) rfl flX7_108 ?_
  obtain rfl := hf
  exact ev_iret dX7_goal_4 rfl ⟨Nat.zero_le _, Nat.zero_le _⟩ hr
theorem tX7_goal (hS : Sd M K P L) (hc : CIn P 25 26) (μ : Mem) {o : Int} (hf : fX7_goal μ = o) : Cn l D cy g K K yX7_goal cX7_goal 1 (some .int) (rmd 1 0 0) [vr g 25] M x (L μ) (PE (some (vi o)) M x (L μ)) :=
 Cn.of (by decide) (Nat.le_of_ble_eq_true rfl) (eX7_goal hS hc μ hf (PE_i _ _ _ _))
def fX11_served  (μ : Mem) : Bool :=
  lt (if w32 (μ 41 1) = w32 (μ 25 4) then
      true
    else
      false) fun v1 =>
  v1
set_option maxRecDepth 4000 in
theorem eX11_served (hS : Sd M K P L) (hc : CIn P 0 75)  (μ : Mem)  {o : Bool} (hf : fX11_served  μ = o) (hr : (fun o : Bool => Φ (some (vb o)) M x (L μ)) o) : Ev l D cy g K yX11_served cX11_served 1 (some .boolean) (rmd 2 0 0) (MX D cy g K (rmd 2 0 0) Φ) 0 0 M x (L μ) 0 [(0, vr g 0)] [] := by
  unfold fX11_served at hf
  refine ev_aload_n dX11_served_0 0 rfl ?_
  refine ev_getK 7 dX11_served_1 (hS.lt (hc 0 rfl)) rfl (hS.K1 (hc 0 rfl) rfl) ciX11 (by decide) rfl flX11_58 ?_
  refine cl_V1 (As := []) (st := []) miX5_stack (tX5_stack hS (hc.w rfl rfl) 41 μ (by simp [isMo]) (o := (μ 41 1)) rfl) dX11_served_4 lkX11_167 inX5_stack rfl (hS.lt (hc 41 rfl)) rfl ⟨rfl, rfl⟩ ⟨⟨Nat.le_of_ble_eq_true rfl, Nat.le_of_ble_eq_true rfl⟩, Nat.zero_le _, Nat.zero_le _⟩ (Nat.le_of_ble_eq_true rfl) ?_
  refine ev_aload_n dX11_served_7 0 rfl ?_
  refine ev_getK 4 dX11_served_8 (hS.lt (hc 0 rfl)) rfl (hS.K1 (hc 0 rfl) rfl) ciX11 (by decide) rfl flX11_40 ?_
  refine cl_V1 (As := []) (st := [vi (μ 41 1)]) miX7_goal (tX7_goal hS (hc.w rfl rfl) μ (o := (μ 25 4)) rfl) dX11_served_11 lkX11_208 inX7_goal rfl (hS.lt (hc 25 rfl)) rfl ⟨rfl, rfl⟩ ⟨⟨Nat.le_of_ble_eq_true rfl, Nat.le_of_ble_eq_true rfl⟩, Nat.zero_le _, Nat.zero_le _⟩ (Nat.le_of_ble_eq_true rfl) ?_
  obtain ⟨v1, hv1, hf⟩ := lt_elim hf
  have hJv1 : Ev l D cy g K yX11_served cX11_served 1 (some .boolean) (rmd 2 0 0) (MX D cy g K (rmd 2 0 0) Φ) 0 0 M x (L μ) 22 [(0, vr g 0)] [vb v1] := by
    obtain rfl := hf
    exact ev_bret (b := v1) dX11_served_22 rfl ⟨Nat.zero_le _, Nat.zero_le _⟩ hr
  refine ev_icmp_ne 21 dX11_served_14 (by decide) (fun h2 => ?_) (fun h2 => ?_)
  · refine ev_iconst dX11_served_21 ?_
    have e9 : v1 = false := hv1.trans ((if_neg h2))
    subst e9
    exact hJv1
  · refine ev_iconst dX11_served_17 ?_
    refine ev_goto 22 dX11_served_18 (by decide) ?_
    have e9 : v1 = true := hv1.trans ((if_pos h2))
    subst e9
    exact hJv1
theorem tX11_served (hS : Sd M K P L) (hc : CIn P 0 75) (μ : Mem) {o : Bool} (hf : fX11_served μ = o) : Cn l D cy g K K yX11_served cX11_served 1 (some .boolean) (rmd 2 0 0) [vr g 0] M x (L μ) (PE (some (vb o)) M x (L μ)) :=
 Cn.of (by decide) (Nat.le_of_ble_eq_true rfl) (eX11_served hS hc μ hf (PE_i _ _ _ _))
def fX4_judge_j80 (what : Int) (v11 : Int) (v12 : Int) (v13 : Int) (v14 : Int) (v15 : Int) (μ : Mem) : Option ((Int × Int × Int × Int × Int × Mem) ⊕ (Int × Int × Int × Mem)) :=
  if w32 v13 = w32 (-1) then
    if w32 v11 = w32 (μ 25 4) then
      some (.inl (v11, v12, v15, v14, (v15 + 1), μ))
    else
      some (.inl (v11, v12, v13, v14, (v15 + 1), μ))
  else
    some (.inl (v11, v12, v13, v14, (v15 + 1), μ))
set_option maxRecDepth 4000 in
theorem tX4_judge_j80 (hS : Sd M K P L) (hc : CIn P 1 41) (what : Int) (v11 : Int) (v12 : Int) (v13 : Int) (v14 : Int) (v15 : Int) (μ : Mem)  {o : (Int × Int × Int × Int × Int × Mem) ⊕ (Int × Int × Int × Mem)} (hf : fX4_judge_j80 what v11 v12 v13 v14 v15 μ = some o) (hr : (Sum.elim (fun s : Int × Int × Int × Int × Int × Mem => Ev l D cy g K yX4_judge cX4_judge 9 (some .int) (rmd 5 0 0) (MX D cy g K (rmd 5 0 0) Φ) 0 0 M x (L s.2.2.2.2.2) 17 [(0, vr g 39), (1, vr g 25), (2, vi what), (3, vi s.1), (4, vi s.2.1), (5, vi s.2.2.1), (6, vi s.2.2.2.1), (7, vi s.2.2.2.2.1)] []) (fun e : Int × Int × Int × Mem => Ev l D cy g K yX4_judge cX4_judge 9 (some .int) (rmd 5 0 0) (MX D cy g K (rmd 5 0 0) Φ) 0 0 M x (L e.2.2.2) 104 [(2, vi what), (4, vi e.1), (5, vi e.2.1), (6, vi e.2.2.1)] [])) o) : Ev l D cy g K yX4_judge cX4_judge 9 (some .int) (rmd 5 0 0) (MX D cy g K (rmd 5 0 0) Φ) 0 0 M x (L μ) 80 [(0, vr g 39), (1, vr g 25), (2, vi what), (3, vi v11), (4, vi v12), (5, vi v13), (6, vi v14), (7, vi v15)] [] := by
  unfold fX4_judge_j80 at hf
  refine ev_iload dX4_judge_80 5 rfl ?_
  refine ev_iconst dX4_judge_82 ?_
  refine ev_icmp_ne 98 dX4_judge_83 (by decide) (fun h16 => ?_) (fun h16 => ?_)
  · rw [if_neg h16] at hf
    refine ev_iinc (al2 := [(7, vi (v15 + 1)), (0, vr g 39), (1, vr g 25), (2, vi what), (3, vi v11), (4, vi v12), (5, vi v13), (6, vi v14)]) dX4_judge_98 7 rfl (by decide) rfl ?_
    refine ev_goto 17 dX4_judge_101 (by decide) ?_
    obtain rfl := Option.some.inj hf
    refine ev_sub [1, 2, 3, 4, 5, 6, 7, 0] rfl ?_
    exact hr
  · rw [if_pos h16] at hf
    refine ev_iload_n dX4_judge_86 3 rfl ?_
    refine ev_aload_n dX4_judge_87 1 rfl ?_
    refine cl_V1 (As := []) (st := [vi v11]) miX7_goal (tX7_goal hS (hc.w rfl rfl) μ (o := (μ 25 4)) rfl) dX4_judge_88 lkX4_49 inX7_goal rfl (hS.lt (hc 25 rfl)) rfl ⟨rfl, rfl⟩ ⟨⟨Nat.le_of_ble_eq_true rfl, Nat.le_of_ble_eq_true rfl⟩, Nat.zero_le _, Nat.zero_le _⟩ (Nat.le_of_ble_eq_true rfl) ?_
    refine ev_icmp_ne 98 dX4_judge_91 (by decide) (fun h17 => ?_) (fun h17 => ?_)
    · rw [if_neg h17] at hf
      refine ev_iinc (al2 := [(7, vi (v15 + 1)), (0, vr g 39), (1, vr g 25), (2, vi what), (3, vi v11), (4, vi v12), (5, vi v13), (6, vi v14)]) dX4_judge_98 7 rfl (by decide) rfl ?_
      refine ev_goto 17 dX4_judge_101 (by decide) ?_
      obtain rfl := Option.some.inj hf
      refine ev_sub [1, 2, 3, 4, 5, 6, 7, 0] rfl ?_
      exact hr
    · rw [if_pos h17] at hf
      refine ev_iload dX4_judge_94 7 rfl ?_
      refine ev_istore (al2 := [(5, vi v15), (0, vr g 39), (1, vr g 25), (2, vi what), (3, vi v11), (4, vi v12), (6, vi v14), (7, vi v15)]) dX4_judge_96 (by decide) rfl ?_
      refine ev_iinc (al2 := [(7, vi (v15 + 1)), (5, vi v15), (0, vr g 39), (1, vr g 25), (2, vi what), (3, vi v11), (4, vi v12), (6, vi v14)]) dX4_judge_98 7 rfl (by decide) rfl ?_
      refine ev_goto 17 dX4_judge_101 (by decide) ?_
      obtain rfl := Option.some.inj hf
      refine ev_sub [2, 3, 4, 5, 6, 1, 7, 0] rfl ?_
      exact hr
def fX4_judge_b17 (what : Int) (v2 : Int) (v3 : Int) (v4 : Int) (v5 : Int) (v6 : Int) (μ : Mem) : Option ((Int × Int × Int × Int × Int × Mem) ⊕ (Int × Int × Int × Mem)) :=
  if w32 v6 < w32 (μ 39 1) then
    lt (fX11_at 40 v6 μ) fun v8 =>
    if (fX7_isOpen v2 v8 μ) = true then
      lt (v5 + (fX7_priceOf v2 v8 μ)) fun v23 =>
      lt (fX7_turned v2 v8 μ) fun v24 =>
      fX4_judge_j80 what v24 v3 v4 v23 v6 μ
    else
      if w32 v3 = w32 (-1) then
        fX4_judge_j80 what v2 v6 v4 v5 v6 μ
      else
        fX4_judge_j80 what v2 v3 v4 v5 v6 μ
  else
    some (.inr (v3, v4, v5, μ))
set_option maxRecDepth 4000 in
theorem tX4_judge_b17 (hS : Sd M K P L) (hc : CIn P 1 41) (what : Int) (v2 : Int) (v3 : Int) (v4 : Int) (v5 : Int) (v6 : Int) (μ : Mem)  {o : (Int × Int × Int × Int × Int × Mem) ⊕ (Int × Int × Int × Mem)} (hf : fX4_judge_b17 what v2 v3 v4 v5 v6 μ = some o) (hr : (Sum.elim (fun s : Int × Int × Int × Int × Int × Mem => Ev l D cy g K yX4_judge cX4_judge 9 (some .int) (rmd 5 0 0) (MX D cy g K (rmd 5 0 0) Φ) 0 0 M x (L s.2.2.2.2.2) 17 [(0, vr g 39), (1, vr g 25), (2, vi what), (3, vi s.1), (4, vi s.2.1), (5, vi s.2.2.1), (6, vi s.2.2.2.1), (7, vi s.2.2.2.2.1)] []) (fun e : Int × Int × Int × Mem => Ev l D cy g K yX4_judge cX4_judge 9 (some .int) (rmd 5 0 0) (MX D cy g K (rmd 5 0 0) Φ) 0 0 M x (L e.2.2.2) 104 [(2, vi what), (4, vi e.1), (5, vi e.2.1), (6, vi e.2.2.1)] [])) o) : Ev l D cy g K yX4_judge cX4_judge 9 (some .int) (rmd 5 0 0) (MX D cy g K (rmd 5 0 0) Φ) 0 0 M x (L μ) 17 [(0, vr g 39), (1, vr g 25), (2, vi what), (3, vi v2), (4, vi v3), (5, vi v4), (6, vi v5), (7, vi v6)] [] := by
  unfold fX4_judge_b17 at hf
  refine ev_iload dX4_judge_17 7 rfl ?_
  refine ev_aload_n dX4_judge_19 0 rfl ?_
  refine ev_getI 1 dX4_judge_20 (hS.lt (hc 39 rfl)) rfl (hS.mem _ (hc 39 rfl)) ciX4 (by decide) rfl flX4_15 ?_
  refine ev_icmp_ge 104 dX4_judge_23 (by decide) (fun h7 => ?_) (fun h7 => ?_)
  · rw [if_neg h7] at hf
    obtain rfl := Option.some.inj hf
    refine ev_sub [2, 4, 5, 6] rfl ?_
    exact hr
  · rw [if_pos h7] at hf
    refine ev_aload_n dX4_judge_26 0 rfl ?_
    refine ev_getK 0 dX4_judge_27 (hS.lt (hc 39 rfl)) rfl (hS.K1 (hc 39 rfl) rfl) ciX4 (by decide) rfl flX4_9 ?_
    refine ev_iload dX4_judge_30 7 rfl ?_
    refine cl_N1 (As := [vr g 40, vi v6]) (st := []) (host := "HotCakes") miX11_at (tX11_at hS (hc.w rfl rfl) 40 v6 μ (⟨(hc 40 rfl), rfl⟩) (o := (fX11_at 40 v6 μ)) rfl) dX4_judge_32 (by decide) stX11_at rfl ⟨⟨Nat.le_of_ble_eq_true rfl, Nat.le_of_ble_eq_true rfl⟩, Nat.zero_le _, Nat.zero_le _⟩ (Nat.le_of_ble_eq_true rfl) ?_
    obtain ⟨v8, hv8, hf⟩ := lt_elim hf
    refine ev_rni hv8 ?_
    refine ev_istore (al2 := [(8, vi v8), (0, vr g 39), (1, vr g 25), (2, vi what), (3, vi v2), (4, vi v3), (5, vi v4), (6, vi v5), (7, vi v6)]) dX4_judge_35 (by decide) rfl ?_
    refine ev_aload_n dX4_judge_37 2 rfl ?_
    refine ev_iload_n dX4_judge_38 4 rfl ?_
    refine ev_iload dX4_judge_39 0 rfl ?_
    refine cl_V1 (As := [vi v2, vi v8]) (st := []) miX7_isOpen (tX7_isOpen hS (hc.w rfl rfl) v2 v8 μ (o := (fX7_isOpen v2 v8 μ)) rfl) dX4_judge_41 lkX4_33 inX7_isOpen rfl (hS.lt (hc 25 rfl)) rfl ⟨rfl, rfl⟩ ⟨⟨Nat.le_of_ble_eq_true rfl, Nat.le_of_ble_eq_true rfl⟩, Nat.zero_le _, Nat.zero_le _⟩ (Nat.le_of_ble_eq_true rfl) ?_
    refine ev_ifb_eq 70 dX4_judge_44 (by decide) (fun h9 => ?_) (fun h9 => ?_)
    · rw [if_neg h9] at hf
      refine ev_iload dX4_judge_70 5 rfl ?_
      refine ev_iconst dX4_judge_72 ?_
      refine ev_icmp_ne 80 dX4_judge_73 (by decide) (fun h10 => ?_) (fun h10 => ?_)
      · rw [if_neg h10] at hf
        refine ev_sub [1, 2, 3, 4, 5, 6, 7, 8] rfl ?_
        exact tX4_judge_j80 hS hc what v2 v3 v4 v5 v6 μ hf hr
      · rw [if_pos h10] at hf
        refine ev_iload dX4_judge_76 8 rfl ?_
        refine ev_istore (al2 := [(4, vi v6), (8, vi v8), (0, vr g 39), (1, vr g 25), (2, vi what), (3, vi v2), (5, vi v4), (6, vi v5), (7, vi v6)]) dX4_judge_78 (by decide) rfl ?_
        refine ev_sub [2, 3, 4, 5, 0, 6, 7, 8] rfl ?_
        exact tX4_judge_j80 hS hc what v2 v6 v4 v5 v6 μ hf hr
    · rw [if_pos h9] at hf
      refine ev_iload dX4_judge_47 7 rfl ?_
      refine ev_aload_n dX4_judge_49 2 rfl ?_
      refine ev_iload_n dX4_judge_50 4 rfl ?_
      refine ev_iload dX4_judge_51 0 rfl ?_
      refine cl_V1 (As := [vi v2, vi v8]) (st := [vi v5]) miX7_priceOf (tX7_priceOf hS (hc.w rfl rfl) v2 v8 μ (o := (fX7_priceOf v2 v8 μ)) rfl) dX4_judge_53 lkX4_46 inX7_priceOf rfl (hS.lt (hc 25 rfl)) rfl ⟨rfl, rfl⟩ ⟨⟨Nat.le_of_ble_eq_true rfl, Nat.le_of_ble_eq_true rfl⟩, Nat.zero_le _, Nat.zero_le _⟩ (Nat.le_of_ble_eq_true rfl) ?_
      refine ev_iadd dX4_judge_56 ?_
      obtain ⟨v23, hv23, hf⟩ := lt_elim hf
      refine ev_rni hv23 ?_
      refine ev_istore (al2 := [(6, vi v23), (8, vi v8), (0, vr g 39), (1, vr g 25), (2, vi what), (3, vi v2), (4, vi v3), (5, vi v4), (7, vi v6)]) dX4_judge_57 (by decide) rfl ?_
      refine ev_aload_n dX4_judge_59 3 rfl ?_
      refine ev_iload_n dX4_judge_60 5 rfl ?_
      refine ev_iload dX4_judge_61 1 rfl ?_
      refine cl_V1 (As := [vi v2, vi v8]) (st := []) miX7_turned (tX7_turned hS (hc.w rfl rfl) v2 v8 μ (o := (fX7_turned v2 v8 μ)) rfl) dX4_judge_63 lkX4_39 inX7_turned rfl (hS.lt (hc 25 rfl)) rfl ⟨rfl, rfl⟩ ⟨⟨Nat.le_of_ble_eq_true rfl, Nat.le_of_ble_eq_true rfl⟩, Nat.zero_le _, Nat.zero_le _⟩ (Nat.le_of_ble_eq_true rfl) ?_
      obtain ⟨v24, hv24, hf⟩ := lt_elim hf
      refine ev_rni hv24 ?_
      refine ev_istore_n (al2 := [(3, vi v24), (6, vi v23), (8, vi v8), (0, vr g 39), (1, vr g 25), (2, vi what), (4, vi v3), (5, vi v4), (7, vi v6)]) dX4_judge_66 3 rfl (by decide) rfl ?_
      refine ev_goto 80 dX4_judge_67 (by decide) ?_
      refine ev_sub [3, 4, 5, 0, 6, 7, 1, 8] rfl ?_
      exact tX4_judge_j80 hS hc what v24 v3 v4 v23 v6 μ hf hr
def fX4_judge (what : Int) (μ : Mem) : Option (Int × Mem) :=
  (fX7_told μ).bind fun q1 =>
  (loopN (fun s => fX4_judge_b17 what s.1 s.2.1 s.2.2.1 s.2.2.2.1 s.2.2.2.2.1 s.2.2.2.2.2) FU (q1.1, (-1), (-1), 0, 0, q1.2)).bind fun q30 =>
  if w32 what = 0 then
    some ((q30.1, q30.2.2.2))
  else
    if w32 what = 1 then
      some ((q30.2.1, q30.2.2.2))
    else
      some ((q30.2.2.1, q30.2.2.2))
set_option maxRecDepth 4000 in
theorem eX4_judge (hS : Sd M K P L) (hc : CIn P 1 41) (what : Int) (μ : Mem)  {o : Int × Mem} (hf : fX4_judge what μ = some o) (hr : (fun o : Int × Mem => Φ (some (vi o.1)) M x (L o.2)) o) : Ev l D cy g K yX4_judge cX4_judge 9 (some .int) (rmd 5 0 0) (MX D cy g K (rmd 5 0 0) Φ) 0 0 M x (L μ) 0 [(0, vr g 39), (1, vr g 25), (2, vi what)] [] := by
  unfold fX4_judge at hf
  refine ev_aload_n dX4_judge_0 1 rfl ?_
  obtain ⟨q1, hq1, hf⟩ := Option.bind_eq_some_iff.mp hf
  refine cl_V1 (As := []) (st := []) miX7_told (tX7_told hS (hc.w rfl rfl) μ hq1) dX4_judge_1 lkX4_42 inX7_told rfl (hS.lt (hc 25 rfl)) rfl ⟨rfl, rfl⟩ ⟨⟨Nat.le_of_ble_eq_true rfl, Nat.le_of_ble_eq_true rfl⟩, Nat.zero_le _, Nat.zero_le _⟩ (Nat.le_of_ble_eq_true rfl) ?_
  refine ev_istore_n (al2 := [(3, vi q1.1), (0, vr g 39), (1, vr g 25), (2, vi what)]) dX4_judge_4 3 rfl (by decide) rfl ?_
  refine ev_iconst dX4_judge_5 ?_
  refine ev_istore (al2 := [(4, vi (-1)), (3, vi q1.1), (0, vr g 39), (1, vr g 25), (2, vi what)]) dX4_judge_6 (by decide) rfl ?_
  refine ev_iconst dX4_judge_8 ?_
  refine ev_istore (al2 := [(5, vi (-1)), (4, vi (-1)), (3, vi q1.1), (0, vr g 39), (1, vr g 25), (2, vi what)]) dX4_judge_9 (by decide) rfl ?_
  refine ev_iconst dX4_judge_11 ?_
  refine ev_istore (al2 := [(6, vi 0), (5, vi (-1)), (4, vi (-1)), (3, vi q1.1), (0, vr g 39), (1, vr g 25), (2, vi what)]) dX4_judge_12 (by decide) rfl ?_
  refine ev_iconst dX4_judge_14 ?_
  refine ev_istore (al2 := [(7, vi 0), (6, vi 0), (5, vi (-1)), (4, vi (-1)), (3, vi q1.1), (0, vr g 39), (1, vr g 25), (2, vi what)]) dX4_judge_15 (by decide) rfl ?_
  obtain ⟨q30, hq30, hf⟩ := Option.bind_eq_some_iff.mp hf
  refine ev_sub [5, 6, 7, 4, 3, 2, 1, 0] rfl ?_
  refine loop_ev (H := (fun s : Int × Int × Int × Int × Int × Mem => Ev l D cy g K yX4_judge cX4_judge 9 (some .int) (rmd 5 0 0) (MX D cy g K (rmd 5 0 0) Φ) 0 0 M x (L s.2.2.2.2.2) 17 [(0, vr g 39), (1, vr g 25), (2, vi what), (3, vi s.1), (4, vi s.2.1), (5, vi s.2.2.1), (6, vi s.2.2.2.1), (7, vi s.2.2.2.2.1)] [])) (Hx := (fun e : Int × Int × Int × Mem => Ev l D cy g K yX4_judge cX4_judge 9 (some .int) (rmd 5 0 0) (MX D cy g K (rmd 5 0 0) Φ) 0 0 M x (L e.2.2.2) 104 [(2, vi what), (4, vi e.1), (5, vi e.2.1), (6, vi e.2.2.1)] [])) (fun s o hb hr => tX4_judge_b17 hS hc what s.1 s.2.1 s.2.2.1 s.2.2.2.1 s.2.2.2.2.1 s.2.2.2.2.2 hb hr) FU _ _ hq30 ?_
  show Ev l D cy g K yX4_judge cX4_judge 9 (some .int) (rmd 5 0 0) (MX D cy g K (rmd 5 0 0) Φ) 0 0 M x (L q30.2.2.2) 104 [(2, vi what), (4, vi q30.1), (5, vi q30.2.1), (6, vi q30.2.2.1)] []
  refine ev_iload_n dX4_judge_104 0 rfl ?_
  by_cases h31 : w32 what = 0
  · rw [if_pos h31] at hf
    refine ev_lookup (off := 27) 132 dX4_judge_105 (by decide) (by rw [h31] <;> rfl) (by decide) ?_
    refine ev_iload dX4_judge_132 1 rfl ?_
    obtain rfl := Option.some.inj hf
    exact ev_iret dX4_judge_134 rfl ⟨Nat.zero_le _, Nat.zero_le _⟩ hr
  · rw [if_neg h31] at hf
    by_cases h32 : w32 what = 1
    · rw [if_pos h32] at hf
      refine ev_lookup (off := 30) 135 dX4_judge_105 (by decide) (by rw [h32] <;> rfl) (by decide) ?_
      refine ev_iload dX4_judge_135 2 rfl ?_
      obtain rfl := Option.some.inj hf
      exact ev_iret dX4_judge_137 rfl ⟨Nat.zero_le _, Nat.zero_le _⟩ hr
    · rw [if_neg h32] at hf
      refine ev_lookup (off := 33) 138 dX4_judge_105 (by decide) (by simp [Op.lookupswitch.offset_cons, Op.lookupswitch.offset_nil, h31, h32, Ne.symm h31, Ne.symm h32]) (by decide) ?_
      refine ev_iload dX4_judge_138 3 rfl ?_
      obtain rfl := Option.some.inj hf
      exact ev_iret dX4_judge_140 rfl ⟨Nat.zero_le _, Nat.zero_le _⟩ hr
theorem tX4_judge (hS : Sd M K P L) (hc : CIn P 1 41) (what : Int) (μ : Mem) {o : Int × Mem} (hf : fX4_judge what μ = some o) : Cn l D cy g K K yX4_judge cX4_judge 9 (some .int) (rmd 5 0 0) [vr g 39, vr g 25, vi what] M x (L μ) (PE (some (vi o.1)) M x (L o.2)) :=
 Cn.of (by decide) (Nat.le_of_ble_eq_true rfl) (eX4_judge hS hc what μ hf (PE_i _ _ _ _))
def fX11_judged (what : Int) (μ : Mem) : Option (Int × Mem) :=
  if w32 what < 0 then
    some (((-2), μ))
  else
    if w32 what ≤ w32 2 then
      (fX4_judge what μ).bind fun q3 =>
      some ((q3.1, q3.2))
    else
      some (((-2), μ))
set_option maxRecDepth 4000 in
theorem eX11_judged (hS : Sd M K P L) (hc : CIn P 0 41) (what : Int) (μ : Mem)  {o : Int × Mem} (hf : fX11_judged what μ = some o) (hr : (fun o : Int × Mem => Φ (some (vi o.1)) M x (L o.2)) o) : Ev l D cy g K yX11_judged cX11_judged 2 (some .int) (rmd 6 0 0) (MX D cy g K (rmd 6 0 0) Φ) 0 0 M x (L μ) 0 [(0, vr g 0), (1, vi what)] [] := by
  unfold fX11_judged at hf
  refine ev_iload_n dX11_judged_0 1 rfl ?_
  refine ev_if_lt 9 dX11_judged_1 (by decide) (fun h1 => ?_) (fun h1 => ?_)
  · rw [if_pos h1] at hf
    refine ev_bipush dX11_judged_9 (by decide) ?_
    obtain rfl := Option.some.inj hf
    exact ev_iret dX11_judged_11 rfl ⟨Nat.zero_le _, Nat.zero_le _⟩ hr
  · rw [if_neg h1] at hf
    refine ev_iload_n dX11_judged_4 1 rfl ?_
    refine ev_iconst dX11_judged_5 ?_
    refine ev_icmp_le 12 dX11_judged_6 (by decide) (fun h2 => ?_) (fun h2 => ?_)
    · rw [if_pos h2] at hf
      refine ev_aload_n dX11_judged_12 0 rfl ?_
      refine ev_getK 5 dX11_judged_13 (hS.lt (hc 0 rfl)) rfl (hS.K1 (hc 0 rfl) rfl) ciX11 (by decide) rfl flX11_47 ?_
      refine ev_aload_n dX11_judged_16 0 rfl ?_
      refine ev_getK 4 dX11_judged_17 (hS.lt (hc 0 rfl)) rfl (hS.K1 (hc 0 rfl) rfl) ciX11 (by decide) rfl flX11_40 ?_
      refine ev_iload_n dX11_judged_20 1 rfl ?_
      obtain ⟨q3, hq3, hf⟩ := Option.bind_eq_some_iff.mp hf
      refine cl_V1 (As := [vr g 25, vi what]) (st := []) miX4_judge (tX4_judge hS (hc.w rfl rfl) what μ hq3) dX11_judged_21 lkX11_211 inX4_judge rfl (hS.lt (hc 39 rfl)) rfl ⟨rfl, rfl⟩ ⟨⟨Nat.le_of_ble_eq_true rfl, Nat.le_of_ble_eq_true rfl⟩, Nat.zero_le _, Nat.zero_le _⟩ (Nat.le_of_ble_eq_true rfl) ?_
      obtain rfl := Option.some.inj hf
      exact ev_iret dX11_judged_24 rfl ⟨Nat.zero_le _, Nat.zero_le _⟩ hr
    · rw [if_neg h2] at hf
      refine ev_bipush dX11_judged_9 (by decide) ?_
      obtain rfl := Option.some.inj hf
      exact ev_iret dX11_judged_11 rfl ⟨Nat.zero_le _, Nat.zero_le _⟩ hr
theorem tX11_judged (hS : Sd M K P L) (hc : CIn P 0 41) (what : Int) (μ : Mem) {o : Int × Mem} (hf : fX11_judged what μ = some o) : Cn l D cy g K K yX11_judged cX11_judged 2 (some .int) (rmd 6 0 0) [vr g 0, vi what] M x (L μ) (PE (some (vi o.1)) M x (L o.2)) :=
 Cn.of (by decide) (Nat.le_of_ble_eq_true rfl) (eX11_judged hS hc what μ hf (PE_i _ _ _ _))
def fX7_all  (μ : Mem) : Int :=
  (i_shl (μ 25 3) (μ 25 2))
set_option maxRecDepth 4000 in
theorem eX7_all (hS : Sd M K P L) (hc : CIn P 25 26)  (μ : Mem)  {o : Int} (hf : fX7_all  μ = o) (hr : (fun o : Int => Φ (some (vi o)) M x (L μ)) o) : Ev l D cy g K yX7_all cX7_all 1 (some .int) (rmd 1 0 0) (MX D cy g K (rmd 1 0 0) Φ) 0 0 M x (L μ) 0 [(0, vr g 25)] [] := by
  unfold fX7_all at hf
  refine ev_aload_n dX7_all_0 0 rfl ?_
  refine ev_getI 3 dX7_all_1 (hS.lt (hc 25 rfl)) rfl (hS.mem _ (hc 25 rfl)) ciX7 (by decide) rfl flX7_87 ?_
  refine ev_aload_n dX7_all_4 0 rfl ?_
  refine ev_getI 2 dX7_all_5 (hS.lt (hc 25 rfl)) rfl (hS.mem _ (hc 25 rfl)) ciX7 (by decide) rfl flX7_69 ?_
  refine ev_ishl dX7_all_8 ?_
  obtain rfl := hf
  exact ev_iret dX7_all_9 rfl ⟨Nat.zero_le _, Nat.zero_le _⟩ hr
theorem tX7_all (hS : Sd M K P L) (hc : CIn P 25 26) (μ : Mem) {o : Int} (hf : fX7_all μ = o) : Cn l D cy g K K yX7_all cX7_all 1 (some .int) (rmd 1 0 0) [vr g 25] M x (L μ) (PE (some (vi o)) M x (L μ)) :=
 Cn.of (by decide) (Nat.le_of_ble_eq_true rfl) (eX7_all hS hc μ hf (PE_i _ _ _ _))
end L1
