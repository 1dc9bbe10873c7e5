section L1
variable {l : Launch} {D : va_G} {cy : Nat → ClassId} {g : Nat → Nat} {K : KT} {M : Nat} {x : Bool} {P : Nat → Prop} {L : Mem → Mem} {Φ : Post}
def fX11_isPlace (place : Int) (μ : Mem) : Bool :=
  lt (if w32 place < 0 then
      false
    else
      if w32 place < w32 (μ 25 1) then
        true
      else
        false) fun v1 =>
  v1
set_option maxRecDepth 4000 in
theorem eX11_isPlace (hS : Sd M K P L) (hc : CIn P 0 26) (place : Int) (μ : Mem)  {o : Bool} (hf : fX11_isPlace place μ = o) (hr : (fun o : Bool => Φ (some (vb o)) M x (L μ)) o) : Ev l D cy g K yX11_isPlace cX11_isPlace 2 (some .boolean) (rmd 2 0 0) (MX D cy g K (rmd 2 0 0) Φ) 0 0 M x (L μ) 0 [(0, vr g 0), (1, vi place)] [] := by
  unfold fX11_isPlace at hf
  refine ev_iload_n dX11_isPlace_0 1 rfl ?_
  obtain ⟨v1, hv1, hf⟩ := lt_elim hf
  have hJv1 : Ev l D cy g K yX11_isPlace cX11_isPlace 2 (some .boolean) (rmd 2 0 0) (MX D cy g K (rmd 2 0 0) Φ) 0 0 M x (L μ) 20 [(0, vr g 0), (1, vi place)] [vb v1] := by
    obtain rfl := hf
    exact ev_bret (b := v1) dX11_isPlace_20 rfl ⟨Nat.zero_le _, Nat.zero_le _⟩ hr
  refine ev_if_lt 19 dX11_isPlace_1 (by decide) (fun h2 => ?_) (fun h2 => ?_)
  · refine ev_iconst dX11_isPlace_19 ?_
    have e9 : v1 = false := hv1.trans ((if_pos h2))
    subst e9
    exact hJv1
  · refine ev_iload_n dX11_isPlace_4 1 rfl ?_
    refine ev_aload_n dX11_isPlace_5 0 rfl ?_
    refine ev_getK 4 dX11_isPlace_6 (hS.lt (hc 0 rfl)) rfl (hS.K1 (hc 0 rfl) rfl) ciX11 (by decide) rfl flX11_40 ?_
    refine cl_V1 (As := []) (st := [vi place]) miX7_cakes (tX7_cakes hS (hc.w rfl rfl) μ (o := (μ 25 1)) rfl) dX11_isPlace_9 lkX11_133 inX7_cakes rfl (hS.lt (hc 25 rfl)) rfl ⟨rfl, rfl⟩ ⟨⟨Nat.le_of_ble_eq_true rfl, Nat.le_of_ble_eq_true rfl⟩, Nat.zero_le _, Nat.zero_le _⟩ (Nat.le_of_ble_eq_true rfl) ?_
    refine ev_icmp_ge 19 dX11_isPlace_12 (by decide) (fun h3 => ?_) (fun h3 => ?_)
    · refine ev_iconst dX11_isPlace_19 ?_
      have e9 : v1 = false := hv1.trans (((if_neg h2)).trans (if_neg h3))
      subst e9
      exact hJv1
    · refine ev_iconst dX11_isPlace_15 ?_
      refine ev_goto 20 dX11_isPlace_16 (by decide) ?_
      have e9 : v1 = true := hv1.trans (((if_neg h2)).trans (if_pos h3))
      subst e9
      exact hJv1
theorem tX11_isPlace (hS : Sd M K P L) (hc : CIn P 0 26) (place : Int) (μ : Mem) {o : Bool} (hf : fX11_isPlace place μ = o) : Cn l D cy g K K yX11_isPlace cX11_isPlace 2 (some .boolean) (rmd 2 0 0) [vr g 0, vi place] M x (L μ) (PE (some (vb o)) M x (L μ)) :=
 Cn.of (by decide) (Nat.le_of_ble_eq_true rfl) (eX11_isPlace hS hc place μ hf (PE_i _ _ _ _))
def fX5_addClue (k : Nat) (place : Int) (cake : Int) (so0 : Bool) (μ : Mem) : Bool × Mem :=
  if w32 (μ k 4) < w32 8 then
    lt (if so0 = true then
        1
      else
        0) fun v2 =>
    lt (fX11_put (k + 1) (μ k 4) (((((place * 8) + cake) + 1) * 2) + v2) μ) fun μ4 =>
    lt (upd2 μ4 k 4 ((μ4 k 4) + 1)) fun μ5 =>
    (true, μ5)
  else
    (false, μ)
set_option maxRecDepth 4000 in
theorem eX5_addClue (hS : Sd M K P L) (hc : CIn P 1 75) (k : Nat) (place : Int) (cake : Int) (so0 : Bool) (μ : Mem) (hk : isMo k) {o : Bool × Mem} (hf : fX5_addClue k place cake so0 μ = o) (hr : (fun o : Bool × Mem => Φ (some (vb o.1)) M x (L o.2)) o) : Ev l D cy g K yX5_addClue cX5_addClue 4 (some .boolean) (rmd 2 0 0) (MX D cy g K (rmd 2 0 0) Φ) 0 0 M x (L μ) 0 [(0, vr g k), (1, vi place), (2, vi cake), (3, vb so0)] [] := by
  unfold fX5_addClue at hf
  refine ev_aload_n dX5_addClue_0 0 rfl ?_
  refine ev_getI 4 dX5_addClue_1 (hS.lt (hc _ (inR_w (i_Mo0 hk) rfl rfl))) (s_Mo0 hk) (hS.mem _ (hc _ (inR_w (i_Mo0 hk) rfl rfl))) ciX5 (by decide) rfl flX5_29 ?_
  refine ev_bipush dX5_addClue_4 (by decide) ?_
  refine ev_icmp_lt 11 dX5_addClue_6 (by decide) (fun h1 => ?_) (fun h1 => ?_)
  · rw [if_pos h1] at hf
    refine ev_aload_n dX5_addClue_11 0 rfl ?_
    refine ev_getK 5 dX5_addClue_12 (hS.lt (hc _ (inR_w (i_Mo0 hk) rfl rfl))) (s_Mo0 hk) (hS.K1 (hc _ (inR_w (i_Mo0 hk) rfl rfl)) (K_Mo5 hk)) ciX5 (by decide) rfl flX5_9 ?_
    refine ev_aload_n dX5_addClue_15 0 rfl ?_
    refine ev_getI 4 dX5_addClue_16 (hS.lt (hc _ (inR_w (i_Mo0 hk) rfl rfl))) (s_Mo0 hk) (hS.mem _ (hc _ (inR_w (i_Mo0 hk) rfl rfl))) ciX5 (by decide) rfl flX5_29 ?_
    refine ev_iload_n dX5_addClue_19 1 rfl ?_
    refine ev_bipush dX5_addClue_20 (by decide) ?_
    refine ev_imul dX5_addClue_22 ?_
    refine ev_iload_n dX5_addClue_23 2 rfl ?_
    refine ev_iadd dX5_addClue_24 ?_
    refine ev_iconst dX5_addClue_25 ?_
    refine ev_iadd dX5_addClue_26 ?_
    refine ev_iconst dX5_addClue_27 ?_
    refine ev_imul dX5_addClue_28 ?_
    refine ev_iload_n dX5_addClue_29 3 rfl ?_
    obtain ⟨v2, hv2, hf⟩ := lt_elim hf
    have hJv2 : Ev l D cy g K yX5_addClue cX5_addClue 4 (some .boolean) (rmd 2 0 0) (MX D cy g K (rmd 2 0 0) Φ) 0 0 M x (L μ) 38 [(0, vr g k), (1, vi place), (2, vi cake), (3, vb so0)] [vi v2, vi ((((place * 8) + cake) + 1) * 2), vi (μ k 4), vr g (k + 1)] := by
      refine ev_iadd dX5_addClue_38 ?_
      obtain ⟨μ4, hμ4, hf⟩ := lt_elim hf
      refine cl_N0 (As := [vr g (k + 1), vi (μ k 4), vi (((((place * 8) + cake) + 1) * 2) + v2)]) (st := []) (host := "HotCakes") miX11_put (tX11_put hS (hc.w rfl rfl) (k + 1) (μ k 4) (((((place * 8) + cake) + 1) * 2) + v2) μ (⟨(hc _ (inR_w (i_Mo1 hk) rfl rfl)), (ia_of (s_Mo1 hk))⟩) hμ4.symm) dX5_addClue_39 (by decide) stX11_put rfl ⟨⟨Nat.le_of_ble_eq_true rfl, Nat.le_of_ble_eq_true rfl⟩, Nat.zero_le _, Nat.zero_le _⟩ (Nat.le_of_ble_eq_true rfl) ?_
      refine ev_aload_n dX5_addClue_42 0 rfl ?_
      refine ev_dup dX5_addClue_43 rfl ?_
      refine ev_getI 4 dX5_addClue_44 (hS.lt (hc _ (inR_w (i_Mo0 hk) rfl rfl))) (s_Mo0 hk) (hS.mem _ (hc _ (inR_w (i_Mo0 hk) rfl rfl))) ciX5 (by decide) rfl flX5_29 ?_
      refine ev_iconst dX5_addClue_47 ?_
      refine ev_iadd dX5_addClue_48 ?_
      obtain ⟨μ5, hμ5, hf⟩ := lt_elim hf
      refine ev_putI 4 dX5_addClue_49 (hS.lt (hc _ (inR_w (i_Mo0 hk) rfl rfl))) (s_Mo0 hk) ciX5 (by decide) (Or.inl rfl) rfl rfl flX5_29 (hS.up (hc _ (inR_w (i_Mo0 hk) rfl rfl)) hμ5) ?_
      refine ev_iconst dX5_addClue_52 ?_
      obtain rfl := hf
      exact ev_bret (b := true) dX5_addClue_53 rfl ⟨Nat.zero_le _, Nat.zero_le _⟩ hr
    refine ev_ifb_eq 37 dX5_addClue_30 (by decide) (fun h3 => ?_) (fun h3 => ?_)
    · refine ev_iconst dX5_addClue_37 ?_
      have e9 : v2 = 0 := hv2.trans ((if_neg h3))
      subst e9
      exact hJv2
    · refine ev_iconst dX5_addClue_33 ?_
      refine ev_goto 38 dX5_addClue_34 (by decide) ?_
      have e9 : v2 = 1 := hv2.trans ((if_pos h3))
      subst e9
      exact hJv2
  · rw [if_neg h1] at hf
    refine ev_iconst dX5_addClue_9 ?_
    obtain rfl := hf
    exact ev_bret (b := false) dX5_addClue_10 rfl ⟨Nat.zero_le _, Nat.zero_le _⟩ hr
theorem tX5_addClue (hS : Sd M K P L) (hc : CIn P 1 75) (k : Nat) (place : Int) (cake : Int) (so0 : Bool) (μ : Mem) (hk : isMo k) {o : Bool × Mem} (hf : fX5_addClue k place cake so0 μ = o) : Cn l D cy g K K yX5_addClue cX5_addClue 4 (some .boolean) (rmd 2 0 0) [vr g k, vi place, vi cake, vb so0] M x (L μ) (PE (some (vb o.1)) M x (L o.2)) :=
 Cn.of (by decide) (Nat.le_of_ble_eq_true rfl) (eX5_addClue hS hc k place cake so0 μ hk hf (PE_i _ _ _ _))
def fX11_see (place : Int) (cake : Int) (is0 : Bool) (μ : Mem) : Bool × Mem :=
  if (fX11_isPlace place μ) = true then
    if w32 cake < 0 then
      (false, μ)
    else
      if w32 cake < w32 (μ 25 1) then
        lt (fX5_addClue 41 place cake is0 μ) fun q4 =>
        lt (if q4.1 = true then
            true
          else
            false) fun v5 =>
        (v5, q4.2)
      else
        (false, μ)
  else
    (false, μ)
set_option maxRecDepth 4000 in
theorem eX11_see (hS : Sd M K P L) (hc : CIn P 0 75) (place : Int) (cake : Int) (is0 : Bool) (μ : Mem)  {o : Bool × Mem} (hf : fX11_see place cake is0 μ = o) (hr : (fun o : Bool × Mem => Φ (some (vb o.1)) M x (L o.2)) o) : Ev l D cy g K yX11_see cX11_see 4 (some .boolean) (rmd 3 0 0) (MX D cy g K (rmd 3 0 0) Φ) 0 0 M x (L μ) 0 [(0, vr g 0), (1, vi place), (2, vi cake), (3, vb is0)] [] := by
  unfold fX11_see at hf
  refine ev_aload_n dX11_see_0 0 rfl ?_
  refine ev_iload_n dX11_see_1 1 rfl ?_
  refine cl_V1 (As := [vi place]) (st := []) miX11_isPlace (tX11_isPlace hS (hc.w rfl rfl) place μ (o := (fX11_isPlace place μ)) rfl) dX11_see_2 lkX11_282 inX11_isPlace rfl (hS.lt (hc 0 rfl)) rfl ⟨rfl, rfl⟩ ⟨⟨Nat.le_of_ble_eq_true rfl, Nat.le_of_ble_eq_true rfl⟩, Nat.zero_le _, Nat.zero_le _⟩ (Nat.le_of_ble_eq_true rfl) ?_
  refine ev_ifb_eq 40 dX11_see_5 (by decide) (fun h1 => ?_) (fun h1 => ?_)
  · rw [if_neg h1] at hf
    refine ev_iconst dX11_see_40 ?_
    obtain rfl := hf
    exact ev_bret (b := false) dX11_see_41 rfl ⟨Nat.zero_le _, Nat.zero_le _⟩ hr
  · rw [if_pos h1] at hf
    refine ev_iload_n dX11_see_8 2 rfl ?_
    refine ev_if_lt 40 dX11_see_9 (by decide) (fun h2 => ?_) (fun h2 => ?_)
    · rw [if_pos h2] at hf
      refine ev_iconst dX11_see_40 ?_
      obtain rfl := hf
      exact ev_bret (b := false) dX11_see_41 rfl ⟨Nat.zero_le _, Nat.zero_le _⟩ hr
    · rw [if_neg h2] at hf
      refine ev_iload_n dX11_see_12 2 rfl ?_
      refine ev_aload_n dX11_see_13 0 rfl ?_
      refine ev_getK 4 dX11_see_14 (hS.lt (hc 0 rfl)) rfl (hS.K1 (hc 0 rfl) rfl) ciX11 (by decide) rfl flX11_40 ?_
      refine cl_V1 (As := []) (st := [vi cake]) miX7_cakes (tX7_cakes hS (hc.w rfl rfl) μ (o := (μ 25 1)) rfl) dX11_see_17 lkX11_133 inX7_cakes rfl (hS.lt (hc 25 rfl)) rfl ⟨rfl, rfl⟩ ⟨⟨Nat.le_of_ble_eq_true rfl, Nat.le_of_ble_eq_true rfl⟩, Nat.zero_le _, Nat.zero_le _⟩ (Nat.le_of_ble_eq_true rfl) ?_
      refine ev_icmp_ge 40 dX11_see_20 (by decide) (fun h3 => ?_) (fun h3 => ?_)
      · rw [if_neg h3] at hf
        refine ev_iconst dX11_see_40 ?_
        obtain rfl := hf
        exact ev_bret (b := false) dX11_see_41 rfl ⟨Nat.zero_le _, Nat.zero_le _⟩ hr
      · rw [if_pos h3] at hf
        refine ev_aload_n dX11_see_23 0 rfl ?_
        refine ev_getK 7 dX11_see_24 (hS.lt (hc 0 rfl)) rfl (hS.K1 (hc 0 rfl) rfl) ciX11 (by decide) rfl flX11_58 ?_
        refine ev_iload_n dX11_see_27 1 rfl ?_
        refine ev_iload_n dX11_see_28 2 rfl ?_
        refine ev_iload_n dX11_see_29 3 rfl ?_
        obtain ⟨q4, hq4, hf⟩ := lt_elim hf
        refine cl_V1 (As := [vi place, vi cake, vb is0]) (st := []) miX5_addClue (tX5_addClue hS (hc.w rfl rfl) 41 place cake is0 μ (by simp [isMo]) hq4.symm) dX11_see_30 lkX11_285 inX5_addClue rfl (hS.lt (hc 41 rfl)) rfl ⟨rfl, rfl⟩ ⟨⟨Nat.le_of_ble_eq_true rfl, Nat.le_of_ble_eq_true rfl⟩, Nat.zero_le _, Nat.zero_le _⟩ (Nat.le_of_ble_eq_true rfl) ?_
        obtain ⟨v5, hv5, hf⟩ := lt_elim hf
        have hJv5 : Ev l D cy g K yX11_see cX11_see 4 (some .boolean) (rmd 3 0 0) (MX D cy g K (rmd 3 0 0) Φ) 0 0 M x (L q4.2) 41 [(0, vr g 0), (1, vi place), (2, vi cake), (3, vb is0)] [vb v5] := by
          obtain rfl := hf
          exact ev_bret (b := v5) dX11_see_41 rfl ⟨Nat.zero_le _, Nat.zero_le _⟩ hr
        refine ev_ifb_eq 40 dX11_see_33 (by decide) (fun h6 => ?_) (fun h6 => ?_)
        · refine ev_iconst dX11_see_40 ?_
          have e9 : v5 = false := hv5.trans ((if_neg h6))
          subst e9
          exact hJv5
        · refine ev_iconst dX11_see_36 ?_
          refine ev_goto 41 dX11_see_37 (by decide) ?_
          have e9 : v5 = true := hv5.trans ((if_pos h6))
          subst e9
          exact hJv5
theorem tX11_see (hS : Sd M K P L) (hc : CIn P 0 75) (place : Int) (cake : Int) (is0 : Bool) (μ : Mem) {o : Bool × Mem} (hf : fX11_see place cake is0 μ = o) : Cn l D cy g K K yX11_see cX11_see 4 (some .boolean) (rmd 3 0 0) [vr g 0, vi place, vi cake, vb is0] M x (L μ) (PE (some (vb o.1)) M x (L o.2)) :=
 Cn.of (by decide) (Nat.le_of_ble_eq_true rfl) (eX11_see hS hc place cake is0 μ hf (PE_i _ _ _ _))
def fX11_lies (place : Int) (up0 : Bool) (μ : Mem) : Bool × Mem :=
  if (fX11_isPlace place μ) = true then
    lt (fX5_addClue 41 place (-1) up0 μ) fun q2 =>
    lt (if q2.1 = true then
        true
      else
        false) fun v3 =>
    (v3, q2.2)
  else
    (false, μ)
set_option maxRecDepth 4000 in
theorem eX11_lies (hS : Sd M K P L) (hc : CIn P 0 75) (place : Int) (up0 : Bool) (μ : Mem)  {o : Bool × Mem} (hf : fX11_lies place up0 μ = o) (hr : (fun o : Bool × Mem => Φ (some (vb o.1)) M x (L o.2)) o) : Ev l D cy g K yX11_lies cX11_lies 3 (some .boolean) (rmd 3 0 0) (MX D cy g K (rmd 3 0 0) Φ) 0 0 M x (L μ) 0 [(0, vr g 0), (1, vi place), (2, vb up0)] [] := by
  unfold fX11_lies at hf
  refine ev_aload_n dX11_lies_0 0 rfl ?_
  refine ev_iload_n dX11_lies_1 1 rfl ?_
  refine cl_V1 (As := [vi place]) (st := []) miX11_isPlace (tX11_isPlace hS (hc.w rfl rfl) place μ (o := (fX11_isPlace place μ)) rfl) dX11_lies_2 lkX11_282 inX11_isPlace rfl (hS.lt (hc 0 rfl)) rfl ⟨rfl, rfl⟩ ⟨⟨Nat.le_of_ble_eq_true rfl, Nat.le_of_ble_eq_true rfl⟩, Nat.zero_le _, Nat.zero_le _⟩ (Nat.le_of_ble_eq_true rfl) ?_
  refine ev_ifb_eq 25 dX11_lies_5 (by decide) (fun h1 => ?_) (fun h1 => ?_)
  · rw [if_neg h1] at hf
    refine ev_iconst dX11_lies_25 ?_
    obtain rfl := hf
    exact ev_bret (b := false) dX11_lies_26 rfl ⟨Nat.zero_le _, Nat.zero_le _⟩ hr
  · rw [if_pos h1] at hf
    refine ev_aload_n dX11_lies_8 0 rfl ?_
    refine ev_getK 7 dX11_lies_9 (hS.lt (hc 0 rfl)) rfl (hS.K1 (hc 0 rfl) rfl) ciX11 (by decide) rfl flX11_58 ?_
    refine ev_iload_n dX11_lies_12 1 rfl ?_
    refine ev_iconst dX11_lies_13 ?_
    refine ev_iload_n dX11_lies_14 2 rfl ?_
    obtain ⟨q2, hq2, hf⟩ := lt_elim hf
    refine cl_V1 (As := [vi place, vi (-1), vb up0]) (st := []) miX5_addClue (tX5_addClue hS (hc.w rfl rfl) 41 place (-1) up0 μ (by simp [isMo]) hq2.symm) dX11_lies_15 lkX11_285 inX5_addClue rfl (hS.lt (hc 41 rfl)) rfl ⟨rfl, rfl⟩ ⟨⟨Nat.le_of_ble_eq_true rfl, Nat.le_of_ble_eq_true rfl⟩, Nat.zero_le _, Nat.zero_le _⟩ (Nat.le_of_ble_eq_true rfl) ?_
    obtain ⟨v3, hv3, hf⟩ := lt_elim hf
    have hJv3 : Ev l D cy g K yX11_lies cX11_lies 3 (some .boolean) (rmd 3 0 0) (MX D cy g K (rmd 3 0 0) Φ) 0 0 M x (L q2.2) 26 [(0, vr g 0), (1, vi place), (2, vb up0)] [vb v3] := by
      obtain rfl := hf
      exact ev_bret (b := v3) dX11_lies_26 rfl ⟨Nat.zero_le _, Nat.zero_le _⟩ hr
    refine ev_ifb_eq 25 dX11_lies_18 (by decide) (fun h4 => ?_) (fun h4 => ?_)
    · refine ev_iconst dX11_lies_25 ?_
      have e9 : v3 = false := hv3.trans ((if_neg h4))
      subst e9
      exact hJv3
    · refine ev_iconst dX11_lies_21 ?_
      refine ev_goto 26 dX11_lies_22 (by decide) ?_
      have e9 : v3 = true := hv3.trans ((if_pos h4))
      subst e9
      exact hJv3
theorem tX11_lies (hS : Sd M K P L) (hc : CIn P 0 75) (place : Int) (up0 : Bool) (μ : Mem) {o : Bool × Mem} (hf : fX11_lies place up0 μ = o) : Cn l D cy g K K yX11_lies cX11_lies 3 (some .boolean) (rmd 3 0 0) [vr g 0, vi place, vb up0] M x (L μ) (PE (some (vb o.1)) M x (L o.2)) :=
 Cn.of (by decide) (Nat.le_of_ble_eq_true rfl) (eX11_lies hS hc place up0 μ hf (PE_i _ _ _ _))
def fX5_holds (other : Int) (clue : Int) (μ : Mem) : Bool :=
  lt (fX7_cakeIn other (i_shr clue 4) μ) fun v1 =>
  lt ((i_and (i_shr clue 1) 7) - 1) fun v2 =>
  lt (if w32 (i_and clue 1) = w32 1 then
      1
    else
      0) fun v3 =>
  lt (if w32 v2 = w32 (-1) then
      (fX7_isUp other v1 μ)
    else
      if w32 v1 = w32 v2 then
        true
      else
        false) fun v5 =>
  lt (if w32 (b2i v5) = w32 v3 then
      true
    else
      false) fun v8 =>
  v8
set_option maxRecDepth 4000 in
theorem eX5_holds (hS : Sd M K P L) (hc : CIn P 1 29) (other : Int) (clue : Int) (μ : Mem)  {o : Bool} (hf : fX5_holds other clue μ = o) (hr : (fun o : Bool => Φ (some (vb o)) M x (L μ)) o) : Ev l D cy g K yX5_holds cX5_holds 6 (some .boolean) (rmd 3 0 0) (MX D cy g K (rmd 3 0 0) Φ) 0 0 M x (L μ) 0 [(0, vr g 25), (1, vi other), (2, vi clue)] [] := by
  unfold fX5_holds at hf
  refine ev_aload_n dX5_holds_0 0 rfl ?_
  refine ev_iload_n dX5_holds_1 1 rfl ?_
  refine ev_iload_n dX5_holds_2 2 rfl ?_
  refine ev_iconst dX5_holds_3 ?_
  refine ev_ishr dX5_holds_4 ?_
  obtain ⟨v1, hv1, hf⟩ := lt_elim hf
  refine cl_V1 (As := [vi other, vi (i_shr clue 4)]) (st := []) miX7_cakeIn (tX7_cakeIn hS (hc.w rfl rfl) other (i_shr clue 4) μ hv1.symm) dX5_holds_5 lkX5_44 inX7_cakeIn rfl (hS.lt (hc 25 rfl)) rfl ⟨rfl, rfl⟩ ⟨⟨Nat.le_of_ble_eq_true rfl, Nat.le_of_ble_eq_true rfl⟩, Nat.zero_le _, Nat.zero_le _⟩ (Nat.le_of_ble_eq_true rfl) ?_
  refine ev_istore_n (al2 := [(3, vi v1), (0, vr g 25), (1, vi other), (2, vi clue)]) dX5_holds_8 3 rfl (by decide) rfl ?_
  refine ev_iload_n dX5_holds_9 3 rfl ?_
  refine ev_iconst dX5_holds_10 ?_
  refine ev_ishr dX5_holds_11 ?_
  refine ev_bipush dX5_holds_12 (by decide) ?_
  refine ev_iand dX5_holds_14 ?_
  refine ev_iconst dX5_holds_15 ?_
  refine ev_isub dX5_holds_16 ?_
  obtain ⟨v2, hv2, hf⟩ := lt_elim hf
  refine ev_rni hv2 ?_
  refine ev_istore (al2 := [(4, vi v2), (3, vi v1), (0, vr g 25), (1, vi other), (2, vi clue)]) dX5_holds_17 (by decide) rfl ?_
  refine ev_iload_n dX5_holds_19 4 rfl ?_
  refine ev_iconst dX5_holds_20 ?_
  refine ev_iand dX5_holds_21 ?_
  refine ev_iconst dX5_holds_22 ?_
  obtain ⟨v3, hv3, hf⟩ := lt_elim hf
  have hJv3 : Ev l D cy g K yX5_holds cX5_holds 6 (some .boolean) (rmd 3 0 0) (MX D cy g K (rmd 3 0 0) Φ) 0 0 M x (L μ) 31 [(4, vi v2), (3, vi v1), (0, vr g 25), (1, vi other), (2, vi clue)] [vi v3] := by
    refine ev_istore (al2 := [(5, vi v3), (4, vi v2), (3, vi v1), (0, vr g 25), (1, vi other), (2, vi clue)]) dX5_holds_31 (by decide) rfl ?_
    refine ev_iload dX5_holds_33 1 rfl ?_
    refine ev_iconst dX5_holds_35 ?_
    obtain ⟨v5, hv5, hf⟩ := lt_elim hf
    have hJv5 : Ev l D cy g K yX5_holds cX5_holds 6 (some .boolean) (rmd 3 0 0) (MX D cy g K (rmd 3 0 0) Φ) 0 0 M x (L μ) 59 [(5, vi v3), (4, vi v2), (3, vi v1), (0, vr g 25), (1, vi other), (2, vi clue)] [vb v5] := by
      refine ev_iload dX5_holds_59 0 rfl ?_
      obtain ⟨v8, hv8, hf⟩ := lt_elim hf
      have hJv8 : Ev l D cy g K yX5_holds cX5_holds 6 (some .boolean) (rmd 3 0 0) (MX D cy g K (rmd 3 0 0) Φ) 0 0 M x (L μ) 69 [(5, vi v3), (4, vi v2), (3, vi v1), (0, vr g 25), (1, vi other), (2, vi clue)] [vb v8] := by
        obtain rfl := hf
        exact ev_bret (b := v8) dX5_holds_69 rfl ⟨Nat.zero_le _, Nat.zero_le _⟩ hr
      refine ev_icmp_ne 68 dX5_holds_61 (by decide) (fun h9 => ?_) (fun h9 => ?_)
      · refine ev_iconst dX5_holds_68 ?_
        have e9 : v8 = false := hv8.trans ((if_neg h9))
        subst e9
        exact hJv8
      · refine ev_iconst dX5_holds_64 ?_
        refine ev_goto 69 dX5_holds_65 (by decide) ?_
        have e9 : v8 = true := hv8.trans ((if_pos h9))
        subst e9
        exact hJv8
    refine ev_icmp_ne 48 dX5_holds_36 (by decide) (fun h6 => ?_) (fun h6 => ?_)
    · refine ev_iload_n dX5_holds_48 2 rfl ?_
      refine ev_iload dX5_holds_49 1 rfl ?_
      refine ev_icmp_ne 58 dX5_holds_51 (by decide) (fun h7 => ?_) (fun h7 => ?_)
      · refine ev_iconst dX5_holds_58 ?_
        have e9 : v5 = false := hv5.trans (((if_neg h6)).trans (if_neg h7))
        subst e9
        exact hJv5
      · refine ev_iconst dX5_holds_54 ?_
        refine ev_goto 59 dX5_holds_55 (by decide) ?_
        have e9 : v5 = true := hv5.trans (((if_neg h6)).trans (if_pos h7))
        subst e9
        exact hJv5
    · refine ev_aload_n dX5_holds_39 3 rfl ?_
      refine ev_iload_n dX5_holds_40 4 rfl ?_
      refine ev_iload_n dX5_holds_41 2 rfl ?_
      refine cl_V1 (As := [vi other, vi v1]) (st := []) miX7_isUp (tX7_isUp hS (hc.w rfl rfl) other v1 μ (o := (fX7_isUp other v1 μ)) rfl) dX5_holds_42 lkX5_50 inX7_isUp rfl (hS.lt (hc 25 rfl)) rfl ⟨rfl, rfl⟩ ⟨⟨Nat.le_of_ble_eq_true rfl, Nat.le_of_ble_eq_true rfl⟩, Nat.zero_le _, Nat.zero_le _⟩ (Nat.le_of_ble_eq_true rfl) ?_
      refine ev_goto 59 dX5_holds_45 (by decide) ?_
      have e9 : v5 = (fX7_isUp other v1 μ) := hv5.trans ((if_pos h6))
      subst e9
      exact hJv5
  refine ev_icmp_ne 30 dX5_holds_23 (by decide) (fun h4 => ?_) (fun h4 => ?_)
  · refine ev_iconst dX5_holds_30 ?_
    have e9 : v3 = 0 := hv3.trans ((if_neg h4))
    subst e9
    exact hJv3
  · refine ev_iconst dX5_holds_26 ?_
    refine ev_goto 31 dX5_holds_27 (by decide) ?_
    have e9 : v3 = 1 := hv3.trans ((if_pos h4))
    subst e9
    exact hJv3
theorem tX5_holds (hS : Sd M K P L) (hc : CIn P 1 29) (other : Int) (clue : Int) (μ : Mem) {o : Bool} (hf : fX5_holds other clue μ = o) : Cn l D cy g K K yX5_holds cX5_holds 6 (some .boolean) (rmd 3 0 0) [vr g 25, vi other, vi clue] M x (L μ) (PE (some (vb o)) M x (L μ)) :=
 Cn.of (by decide) (Nat.le_of_ble_eq_true rfl) (eX5_holds hS hc other clue μ hf (PE_i _ _ _ _))
def fX5_fits_b2 (k : Nat) (other : Int) (v1 : Int) (μ : Mem) : Option ((Int) ⊕ (Bool)) :=
  if w32 v1 < w32 (μ k 4) then
    lt (fX5_holds other (fX11_at (k + 1) v1 μ) μ) fun v3 =>
    if v3 = true then
      some (.inl (v1 + 1))
    else
      some (.inr false)
  else
    some (.inr true)
set_option maxRecDepth 4000 in
theorem tX5_fits_b2 (hS : Sd M K P L) (hc : CIn P 1 75) (k : Nat) (other : Int) (v1 : Int) (μ : Mem) (hk : isMo k) {o : (Int) ⊕ (Bool)} (hf : fX5_fits_b2 k other v1 μ = some o) (hr : (Sum.elim (fun s : Int => Ev l D cy g K yX5_fits cX5_fits 4 (some .boolean) (rmd 4 0 0) (MX D cy g K (rmd 4 0 0) Φ) 0 0 M x (L μ) 2 [(0, vr g k), (1, vr g 25), (2, vi other), (3, vi s)] []) (fun o : Bool => Φ (some (vb o)) M x (L μ))) o) : Ev l D cy g K yX5_fits cX5_fits 4 (some .boolean) (rmd 4 0 0) (MX D cy g K (rmd 4 0 0) Φ) 0 0 M x (L μ) 2 [(0, vr g k), (1, vr g 25), (2, vi other), (3, vi v1)] [] := by
  unfold fX5_fits_b2 at hf
  refine ev_iload_n dX5_fits_2 3 rfl ?_
  refine ev_aload_n dX5_fits_3 0 rfl ?_
  refine ev_getI 4 dX5_fits_4 (hS.lt (hc _ (inR_w (i_Mo0 hk) rfl rfl))) (s_Mo0 hk) (hS.mem _ (hc _ (inR_w (i_Mo0 hk) rfl rfl))) ciX5 (by decide) rfl flX5_29 ?_
  refine ev_icmp_ge 34 dX5_fits_7 (by decide) (fun h2 => ?_) (fun h2 => ?_)
  · rw [if_neg h2] at hf
    refine ev_iconst dX5_fits_34 ?_
    obtain rfl := Option.some.inj hf
    exact ev_bret (b := true) dX5_fits_35 rfl ⟨Nat.zero_le _, Nat.zero_le _⟩ hr
  · rw [if_pos h2] at hf
    refine ev_aload_n dX5_fits_10 1 rfl ?_
    refine ev_iload_n dX5_fits_11 2 rfl ?_
    refine ev_aload_n dX5_fits_12 0 rfl ?_
    refine ev_getK 5 dX5_fits_13 (hS.lt (hc _ (inR_w (i_Mo0 hk) rfl rfl))) (s_Mo0 hk) (hS.K1 (hc _ (inR_w (i_Mo0 hk) rfl rfl)) (K_Mo5 hk)) ciX5 (by decide) rfl flX5_9 ?_
    refine ev_iload_n dX5_fits_16 3 rfl ?_
    refine cl_N1 (As := [vr g (k + 1), vi v1]) (st := [vi other, vr g 25]) (host := "HotCakes") miX11_at (tX11_at hS (hc.w rfl rfl) (k + 1) v1 μ (⟨(hc _ (inR_w (i_Mo1 hk) rfl rfl)), (ia_of (s_Mo1 hk))⟩) (o := (fX11_at (k + 1) v1 μ)) rfl) dX5_fits_17 (by decide) stX11_at rfl ⟨⟨Nat.le_of_ble_eq_true rfl, Nat.le_of_ble_eq_true rfl⟩, Nat.zero_le _, Nat.zero_le _⟩ (Nat.le_of_ble_eq_true rfl) ?_
    obtain ⟨v3, hv3, hf⟩ := lt_elim hf
    refine cl_S1 (As := [vr g 25, vi other, vi (fX11_at (k + 1) v1 μ)]) (st := []) miX5_holds (tX5_holds hS (hc.w rfl rfl) other (fX11_at (k + 1) v1 μ) μ hv3.symm) dX5_fits_20 lkX5_40 stX5_holds rfl ⟨⟨Nat.le_of_ble_eq_true rfl, Nat.le_of_ble_eq_true rfl⟩, Nat.zero_le _, Nat.zero_le _⟩ (Nat.le_of_ble_eq_true rfl) ?_
    refine ev_ifb_ne 28 dX5_fits_23 (by decide) (fun h4 => ?_) (fun h4 => ?_)
    · rw [if_pos h4] at hf
      refine ev_iinc (al2 := [(3, vi (v1 + 1)), (0, vr g k), (1, vr g 25), (2, vi other)]) dX5_fits_28 3 rfl (by decide) rfl ?_
      refine ev_goto 2 dX5_fits_31 (by decide) ?_
      obtain rfl := Option.some.inj hf
      refine ev_sub [1, 2, 3, 0] rfl ?_
      exact hr
    · rw [if_neg h4] at hf
      refine ev_iconst dX5_fits_26 ?_
      obtain rfl := Option.some.inj hf
      exact ev_bret (b := false) dX5_fits_27 rfl ⟨Nat.zero_le _, Nat.zero_le _⟩ hr
def fX5_fits (k : Nat) (other : Int) (μ : Mem) : Option (Bool) :=
  loopN (fun s => fX5_fits_b2 k other s μ) FU 0
set_option maxRecDepth 4000 in
theorem eX5_fits (hS : Sd M K P L) (hc : CIn P 1 75) (k : Nat) (other : Int) (μ : Mem) (hk : isMo k) {o : Bool} (hf : fX5_fits k other μ = some o) (hr : (fun o : Bool => Φ (some (vb o)) M x (L μ)) o) : Ev l D cy g K yX5_fits cX5_fits 4 (some .boolean) (rmd 4 0 0) (MX D cy g K (rmd 4 0 0) Φ) 0 0 M x (L μ) 0 [(0, vr g k), (1, vr g 25), (2, vi other)] [] := by
  unfold fX5_fits at hf
  refine ev_iconst dX5_fits_0 ?_
  refine ev_istore_n (al2 := [(3, vi 0), (0, vr g k), (1, vr g 25), (2, vi other)]) dX5_fits_1 3 rfl (by decide) rfl ?_
  refine ev_sub [1, 2, 3, 0] rfl ?_
  exact loop_ev (H := (fun s : Int => Ev l D cy g K yX5_fits cX5_fits 4 (some .boolean) (rmd 4 0 0) (MX D cy g K (rmd 4 0 0) Φ) 0 0 M x (L μ) 2 [(0, vr g k), (1, vr g 25), (2, vi other), (3, vi s)] [])) (Hx := (fun o : Bool => Φ (some (vb o)) M x (L μ))) (fun s o hb hr => tX5_fits_b2 hS hc k other s μ hk hb hr) FU _ _ hf hr
theorem tX5_fits (hS : Sd M K P L) (hc : CIn P 1 75) (k : Nat) (other : Int) (μ : Mem) (hk : isMo k) {o : Bool} (hf : fX5_fits k other μ = some o) : Cn l D cy g K K yX5_fits cX5_fits 4 (some .boolean) (rmd 4 0 0) [vr g k, vr g 25, vi other] M x (L μ) (PE (some (vb o)) M x (L μ)) :=
 Cn.of (by decide) (Nat.le_of_ble_eq_true rfl) (eX5_fits hS hc k other μ hk hf (PE_i _ _ _ _))
def fX11_fit_b4 (v1 : Int) (v2 : Int) (μ : Mem) : Option ((Int × Int) ⊕ (Int)) :=
  if w32 v2 < w32 (i_shl (μ 25 3) (μ 25 2)) then
    (fX5_fits 41 v2 μ).bind fun v4 =>
    if v4 = true then
      some (.inl ((v1 + 1), (v2 + 1)))
    else
      some (.inl (v1, (v2 + 1)))
  else
    some (.inr v1)
set_option maxRecDepth 4000 in
theorem tX11_fit_b4 (hS : Sd M K P L) (hc : CIn P 0 75) (v1 : Int) (v2 : Int) (μ : Mem)  {o : (Int × Int) ⊕ (Int)} (hf : fX11_fit_b4 v1 v2 μ = some o) (hr : (Sum.elim (fun s : Int × Int => Ev l D cy g K yX11_fit cX11_fit 3 (some .int) (rmd 5 0 0) (MX D cy g K (rmd 5 0 0) Φ) 0 0 M x (L μ) 4 [(0, vr g 0), (1, vi s.1), (2, vi s.2)] []) (fun e : Int => Ev l D cy g K yX11_fit cX11_fit 3 (some .int) (rmd 5 0 0) (MX D cy g K (rmd 5 0 0) Φ) 0 0 M x (L μ) 39 [(1, vi e)] [])) o) : Ev l D cy g K yX11_fit cX11_fit 3 (some .int) (rmd 5 0 0) (MX D cy g K (rmd 5 0 0) Φ) 0 0 M x (L μ) 4 [(0, vr g 0), (1, vi v1), (2, vi v2)] [] := by
  unfold fX11_fit_b4 at hf
  refine ev_iload_n dX11_fit_4 2 rfl ?_
  refine ev_aload_n dX11_fit_5 0 rfl ?_
  refine ev_getK 4 dX11_fit_6 (hS.lt (hc 0 rfl)) rfl (hS.K1 (hc 0 rfl) rfl) ciX11 (by decide) rfl flX11_40 ?_
  refine cl_V1 (As := []) (st := [vi v2]) miX7_all (tX7_all hS (hc.w rfl rfl) μ (o := (i_shl (μ 25 3) (μ 25 2))) rfl) dX11_fit_9 lkX11_289 inX7_all rfl (hS.lt (hc 25 rfl)) rfl ⟨rfl, rfl⟩ ⟨⟨Nat.le_of_ble_eq_true rfl, Nat.le_of_ble_eq_true rfl⟩, Nat.zero_le _, Nat.zero_le _⟩ (Nat.le_of_ble_eq_true rfl) ?_
  refine ev_icmp_ge 39 dX11_fit_12 (by decide) (fun h3 => ?_) (fun h3 => ?_)
  · rw [if_neg h3] at hf
    obtain rfl := Option.some.inj hf
    refine ev_sub [1] rfl ?_
    exact hr
  · rw [if_pos h3] at hf
    refine ev_aload_n dX11_fit_15 0 rfl ?_
    refine ev_getK 7 dX11_fit_16 (hS.lt (hc 0 rfl)) rfl (hS.K1 (hc 0 rfl) rfl) ciX11 (by decide) rfl flX11_58 ?_
    refine ev_aload_n dX11_fit_19 0 rfl ?_
    refine ev_getK 4 dX11_fit_20 (hS.lt (hc 0 rfl)) rfl (hS.K1 (hc 0 rfl) rfl) ciX11 (by decide) rfl flX11_40 ?_
    refine ev_iload_n dX11_fit_23 2 rfl ?_
    obtain ⟨v4, hv4, hf⟩ := Option.bind_eq_some_iff.mp hf
    refine cl_V1 (As := [vr g 25, vi v2]) (st := []) miX5_fits (tX5_fits hS (hc.w rfl rfl) 41 v2 μ (by simp [isMo]) hv4) dX11_fit_24 lkX11_292 inX5_fits rfl (hS.lt (hc 41 rfl)) rfl ⟨rfl, rfl⟩ ⟨⟨Nat.le_of_ble_eq_true rfl, Nat.le_of_ble_eq_true rfl⟩, Nat.zero_le _, Nat.zero_le _⟩ (Nat.le_of_ble_eq_true rfl) ?_
    refine ev_ifb_eq 33 dX11_fit_27 (by decide) (fun h5 => ?_) (fun h5 => ?_)
    · rw [if_neg h5] at hf
      refine ev_iinc (al2 := [(2, vi (v2 + 1)), (0, vr g 0), (1, vi v1)]) dX11_fit_33 2 rfl (by decide) rfl ?_
      refine ev_goto 4 dX11_fit_36 (by decide) ?_
      obtain rfl := Option.some.inj hf
      refine ev_sub [1, 2, 0] rfl ?_
      exact hr
    · rw [if_pos h5] at hf
      refine ev_iinc (al2 := [(1, vi (v1 + 1)), (0, vr g 0), (2, vi v2)]) dX11_fit_30 1 rfl (by decide) rfl ?_
      refine ev_iinc (al2 := [(2, vi (v2 + 1)), (1, vi (v1 + 1)), (0, vr g 0)]) dX11_fit_33 2 rfl (by decide) rfl ?_
      refine ev_goto 4 dX11_fit_36 (by decide) ?_
      obtain rfl := Option.some.inj hf
      refine ev_sub [2, 1, 0] rfl ?_
      exact hr
def fX11_fit  (μ : Mem) : Option (Int) :=
  (loopN (fun s => fX11_fit_b4 s.1 s.2 μ) FU (0, 0)).bind fun q6 =>
  some (q6)
set_option maxRecDepth 4000 in
theorem eX11_fit (hS : Sd M K P L) (hc : CIn P 0 75)  (μ : Mem)  {o : Int} (hf : fX11_fit  μ = some o) (hr : (fun o : Int => Φ (some (vi o)) M x (L μ)) o) : Ev l D cy g K yX11_fit cX11_fit 3 (some .int) (rmd 5 0 0) (MX D cy g K (rmd 5 0 0) Φ) 0 0 M x (L μ) 0 [(0, vr g 0)] [] := by
  unfold fX11_fit at hf
  refine ev_iconst dX11_fit_0 ?_
  refine ev_istore_n (al2 := [(1, vi 0), (0, vr g 0)]) dX11_fit_1 1 rfl (by decide) rfl ?_
  refine ev_iconst dX11_fit_2 ?_
  refine ev_istore_n (al2 := [(2, vi 0), (1, vi 0), (0, vr g 0)]) dX11_fit_3 2 rfl (by decide) rfl ?_
  obtain ⟨q6, hq6, hf⟩ := Option.bind_eq_some_iff.mp hf
  refine ev_sub [2, 1, 0] rfl ?_
  refine loop_ev (H := (fun s : Int × Int => Ev l D cy g K yX11_fit cX11_fit 3 (some .int) (rmd 5 0 0) (MX D cy g K (rmd 5 0 0) Φ) 0 0 M x (L μ) 4 [(0, vr g 0), (1, vi s.1), (2, vi s.2)] [])) (Hx := (fun e : Int => Ev l D cy g K yX11_fit cX11_fit 3 (some .int) (rmd 5 0 0) (MX D cy g K (rmd 5 0 0) Φ) 0 0 M x (L μ) 39 [(1, vi e)] [])) (fun s o hb hr => tX11_fit_b4 hS hc s.1 s.2 μ hb hr) FU _ _ hq6 ?_
  show Ev l D cy g K yX11_fit cX11_fit 3 (some .int) (rmd 5 0 0) (MX D cy g K (rmd 5 0 0) Φ) 0 0 M x (L μ) 39 [(1, vi q6)] []
  refine ev_iload_n dX11_fit_39 0 rfl ?_
  obtain rfl := Option.some.inj hf
  exact ev_iret dX11_fit_40 rfl ⟨Nat.zero_le _, Nat.zero_le _⟩ hr
theorem tX11_fit (hS : Sd M K P L) (hc : CIn P 0 75) (μ : Mem) {o : Int} (hf : fX11_fit μ = some o) : Cn l D cy g K K yX11_fit cX11_fit 3 (some .int) (rmd 5 0 0) [vr g 0] M x (L μ) (PE (some (vi o)) M x (L μ)) :=
 Cn.of (by decide) (Nat.le_of_ble_eq_true rfl) (eX11_fit hS hc μ hf (PE_i _ _ _ _))
def fX7_clearTally  (μ : Mem) : Mem :=
  lt (fill3 μ 38 50 0) fun μ1 =>
  μ1
set_option maxRecDepth 4000 in
theorem eX7_clearTally (hS : Sd M K P L) (hc : CIn P 25 39)  (μ : Mem)  {o : Mem} (hf : fX7_clearTally  μ = o) (hr : (fun o : Mem => Φ none M x (L o)) o) : Ev l D cy g K yX7_clearTally cX7_clearTally 1 none (rmd 2 0 0) (MX D cy g K (rmd 2 0 0) Φ) 0 0 M x (L μ) 0 [(0, vr g 25)] [] := by
  unfold fX7_clearTally at hf
  refine ev_aload_n dX7_clearTally_0 0 rfl ?_
  refine ev_getK 17 dX7_clearTally_1 (hS.lt (hc 25 rfl)) rfl (hS.K1 (hc 25 rfl) rfl) ciX7 (by decide) rfl flX7_48 ?_
  refine ev_iconst dX7_clearTally_4 ?_
  obtain ⟨μ1, hμ1, hf⟩ := lt_elim hf
  refine cl_S0 (As := [vr g 38, vi 0]) (st := []) miJ7_fill_53178 (tJ7_fill_53178 (o := μ1) hS 38 0 μ ⟨(hc 38 rfl), rfl⟩ (by decide) (hμ1.symm)) dX7_clearTally_5 lkX7_180 stJ7_fill_53178 rfl ⟨⟨Nat.le_of_ble_eq_true rfl, Nat.le_of_ble_eq_true rfl⟩, Nat.zero_le _, Nat.zero_le _⟩ (Nat.le_of_ble_eq_true rfl) ?_
  obtain rfl := hf
  exact ev_vret dX7_clearTally_8 rfl ⟨Nat.zero_le _, Nat.zero_le _⟩ hr
theorem tX7_clearTally (hS : Sd M K P L) (hc : CIn P 25 39) (μ : Mem) {o : Mem} (hf : fX7_clearTally μ = o) : Cn l D cy g K K yX7_clearTally cX7_clearTally 1 none (rmd 2 0 0) [vr g 25] M x (L μ) (PE none M x (L o)) :=
 Cn.of (by decide) (Nat.le_of_ble_eq_true rfl) (eX7_clearTally hS hc μ hf (PE_i _ _ _ _))
def fX7_tallyEntry (place : Int) (cake : Int) (up0 : Bool) : Int :=
  lt (if up0 = true then
      1
    else
      0) fun v1 =>
  ((((place * 5) + cake) * 2) + v1)
set_option maxRecDepth 4000 in
theorem eX7_tallyEntry  (place : Int) (cake : Int) (up0 : Bool) (μ : Mem)  {o : Int} (hf : fX7_tallyEntry place cake up0 = o) (hr : (fun o : Int => Φ (some (vi o)) M x μ) o) : Ev l D cy g K yX7_tallyEntry cX7_tallyEntry 3 (some .int) (rmd 1 0 0) (MX D cy g K (rmd 1 0 0) Φ) 0 0 M x μ 0 [(0, vi place), (1, vi cake), (2, vb up0)] [] := by
  unfold fX7_tallyEntry at hf
  refine ev_iload_n dX7_tallyEntry_0 0 rfl ?_
  refine ev_iconst dX7_tallyEntry_1 ?_
  refine ev_imul dX7_tallyEntry_2 ?_
  refine ev_iload_n dX7_tallyEntry_3 1 rfl ?_
  refine ev_iadd dX7_tallyEntry_4 ?_
  refine ev_iconst dX7_tallyEntry_5 ?_
  refine ev_imul dX7_tallyEntry_6 ?_
  refine ev_iload_n dX7_tallyEntry_7 2 rfl ?_
  obtain ⟨v1, hv1, hf⟩ := lt_elim hf
  have hJv1 : Ev l D cy g K yX7_tallyEntry cX7_tallyEntry 3 (some .int) (rmd 1 0 0) (MX D cy g K (rmd 1 0 0) Φ) 0 0 M x μ 16 [(0, vi place), (1, vi cake), (2, vb up0)] [vi v1, vi (((place * 5) + cake) * 2)] := by
    refine ev_iadd dX7_tallyEntry_16 ?_
    obtain rfl := hf
    exact ev_iret dX7_tallyEntry_17 rfl ⟨Nat.zero_le _, Nat.zero_le _⟩ hr
  refine ev_ifb_eq 15 dX7_tallyEntry_8 (by decide) (fun h2 => ?_) (fun h2 => ?_)
  · refine ev_iconst dX7_tallyEntry_15 ?_
    have e9 : v1 = 0 := hv1.trans ((if_neg h2))
    subst e9
    exact hJv1
  · refine ev_iconst dX7_tallyEntry_11 ?_
    refine ev_goto 16 dX7_tallyEntry_12 (by decide) ?_
    have e9 : v1 = 1 := hv1.trans ((if_pos h2))
    subst e9
    exact hJv1
theorem tX7_tallyEntry (place : Int) (cake : Int) (up0 : Bool) (μ : Mem) {o : Int} (hf : fX7_tallyEntry place cake up0 = o) : Cn l D cy g K K yX7_tallyEntry cX7_tallyEntry 3 (some .int) (rmd 1 0 0) [vi place, vi cake, vb up0] M x μ (PE (some (vi o)) M x μ) :=
 Cn.of (by decide) (Nat.le_of_ble_eq_true rfl) (eX7_tallyEntry place cake up0 μ hf (PE_i _ _ _ _))
def fX7_addToTally_b2 (stack : Int) (v1 : Int) (μ : Mem) : Option ((Int × Mem) ⊕ (Mem)) :=
  if w32 v1 < w32 (μ 25 1) then
    lt (fX7_cakeIn stack v1 μ) fun v3 =>
    lt (fX7_tallyEntry v1 v3 (fX7_isUp stack v3 μ)) fun v4 =>
    lt (fX11_put 38 v4 ((fX11_at 38 v4 μ) + 1) μ) fun μ5 =>
    some (.inl ((v1 + 1), μ5))
  else
    some (.inr μ)
set_option maxRecDepth 4000 in
theorem tX7_addToTally_b2 (hS : Sd M K P L) (hc : CIn P 1 39) (stack : Int) (v1 : Int) (μ : Mem)  {o : (Int × Mem) ⊕ (Mem)} (hf : fX7_addToTally_b2 stack v1 μ = some o) (hr : (Sum.elim (fun s : Int × Mem => Ev l D cy g K yX7_addToTally cX7_addToTally 5 none (rmd 3 0 0) (MX D cy g K (rmd 3 0 0) Φ) 0 0 M x (L s.2) 2 [(0, vr g 25), (1, vi stack), (2, vi s.1)] []) (fun e : Mem => Ev l D cy g K yX7_addToTally cX7_addToTally 5 none (rmd 3 0 0) (MX D cy g K (rmd 3 0 0) Φ) 0 0 M x (L e) 56 [] [])) o) : Ev l D cy g K yX7_addToTally cX7_addToTally 5 none (rmd 3 0 0) (MX D cy g K (rmd 3 0 0) Φ) 0 0 M x (L μ) 2 [(0, vr g 25), (1, vi stack), (2, vi v1)] [] := by
  unfold fX7_addToTally_b2 at hf
  refine ev_iload_n dX7_addToTally_2 2 rfl ?_
  refine ev_aload_n dX7_addToTally_3 0 rfl ?_
  refine ev_getI 1 dX7_addToTally_4 (hS.lt (hc 25 rfl)) rfl (hS.mem _ (hc 25 rfl)) ciX7 (by decide) rfl flX7_65 ?_
  refine ev_icmp_ge 56 dX7_addToTally_7 (by decide) (fun h2 => ?_) (fun h2 => ?_)
  · rw [if_neg h2] at hf
    obtain rfl := Option.some.inj hf
    refine ev_sub [] rfl ?_
    exact hr
  · rw [if_pos h2] at hf
    refine ev_aload_n dX7_addToTally_10 0 rfl ?_
    refine ev_iload_n dX7_addToTally_11 1 rfl ?_
    refine ev_iload_n dX7_addToTally_12 2 rfl ?_
    refine cl_V1 (As := [vi stack, vi v1]) (st := []) miX7_cakeIn (tX7_cakeIn hS (hc.w rfl rfl) stack v1 μ (o := (fX7_cakeIn stack v1 μ)) rfl) dX7_addToTally_13 lkX7_154 inX7_cakeIn rfl (hS.lt (hc 25 rfl)) rfl ⟨rfl, rfl⟩ ⟨⟨Nat.le_of_ble_eq_true rfl, Nat.le_of_ble_eq_true rfl⟩, Nat.zero_le _, Nat.zero_le _⟩ (Nat.le_of_ble_eq_true rfl) ?_
    obtain ⟨v3, hv3, hf⟩ := lt_elim hf
    refine ev_rni hv3 ?_
    refine ev_istore_n (al2 := [(3, vi v3), (0, vr g 25), (1, vi stack), (2, vi v1)]) dX7_addToTally_16 3 rfl (by decide) rfl ?_
    refine ev_iload_n dX7_addToTally_17 3 rfl ?_
    refine ev_iload_n dX7_addToTally_18 0 rfl ?_
    refine ev_aload_n dX7_addToTally_19 1 rfl ?_
    refine ev_iload_n dX7_addToTally_20 2 rfl ?_
    refine ev_iload_n dX7_addToTally_21 0 rfl ?_
    refine cl_V1 (As := [vi stack, vi v3]) (st := [vi v3, vi v1]) miX7_isUp (tX7_isUp hS (hc.w rfl rfl) stack v3 μ (o := (fX7_isUp stack v3 μ)) rfl) dX7_addToTally_22 lkX7_166 inX7_isUp rfl (hS.lt (hc 25 rfl)) rfl ⟨rfl, rfl⟩ ⟨⟨Nat.le_of_ble_eq_true rfl, Nat.le_of_ble_eq_true rfl⟩, Nat.zero_le _, Nat.zero_le _⟩ (Nat.le_of_ble_eq_true rfl) ?_
    obtain ⟨v4, hv4, hf⟩ := lt_elim hf
    refine cl_S1 (As := [vi v1, vi v3, vb (fX7_isUp stack v3 μ)]) (st := []) miX7_tallyEntry (tX7_tallyEntry v1 v3 (fX7_isUp stack v3 μ) (L μ) hv4.symm) dX7_addToTally_25 lkX7_195 stX7_tallyEntry rfl ⟨⟨Nat.le_of_ble_eq_true rfl, Nat.le_of_ble_eq_true rfl⟩, Nat.zero_le _, Nat.zero_le _⟩ (Nat.le_of_ble_eq_true rfl) ?_
    refine ev_istore (al2 := [(4, vi v4), (3, vi v3), (0, vr g 25), (1, vi stack), (2, vi v1)]) dX7_addToTally_28 (by decide) rfl ?_
    refine ev_aload_n dX7_addToTally_30 2 rfl ?_
    refine ev_getK 17 dX7_addToTally_31 (hS.lt (hc 25 rfl)) rfl (hS.K1 (hc 25 rfl) rfl) ciX7 (by decide) rfl flX7_48 ?_
    refine ev_iload dX7_addToTally_34 0 rfl ?_
    refine ev_aload_n dX7_addToTally_36 2 rfl ?_
    refine ev_getK 17 dX7_addToTally_37 (hS.lt (hc 25 rfl)) rfl (hS.K1 (hc 25 rfl) rfl) ciX7 (by decide) rfl flX7_48 ?_
    refine ev_iload dX7_addToTally_40 0 rfl ?_
    refine cl_N1 (As := [vr g 38, vi v4]) (st := [vi v4, vr g 38]) (host := "HotCakes") miX11_at (tX11_at hS (hc.w rfl rfl) 38 v4 μ (⟨(hc 38 rfl), rfl⟩) (o := (fX11_at 38 v4 μ)) rfl) dX7_addToTally_42 (by decide) stX11_at rfl ⟨⟨Nat.le_of_ble_eq_true rfl, Nat.le_of_ble_eq_true rfl⟩, Nat.zero_le _, Nat.zero_le _⟩ (Nat.le_of_ble_eq_true rfl) ?_
    refine ev_iconst dX7_addToTally_45 ?_
    refine ev_iadd dX7_addToTally_46 ?_
    obtain ⟨μ5, hμ5, hf⟩ := lt_elim hf
    refine cl_N0 (As := [vr g 38, vi v4, vi ((fX11_at 38 v4 μ) + 1)]) (st := []) (host := "HotCakes") miX11_put (tX11_put hS (hc.w rfl rfl) 38 v4 ((fX11_at 38 v4 μ) + 1) μ (⟨(hc 38 rfl), rfl⟩) hμ5.symm) dX7_addToTally_47 (by decide) stX11_put rfl ⟨⟨Nat.le_of_ble_eq_true rfl, Nat.le_of_ble_eq_true rfl⟩, Nat.zero_le _, Nat.zero_le _⟩ (Nat.le_of_ble_eq_true rfl) ?_
    refine ev_iinc (al2 := [(2, vi (v1 + 1)), (4, vi v4), (3, vi v3), (0, vr g 25), (1, vi stack)]) dX7_addToTally_50 4 rfl (by decide) rfl ?_
    refine ev_goto 2 dX7_addToTally_53 (by decide) ?_
    obtain rfl := Option.some.inj hf
    refine ev_sub [3, 4, 0] rfl ?_
    exact hr
def fX7_addToTally (stack : Int) (μ : Mem) : Option (Mem) :=
  (loopN (fun s => fX7_addToTally_b2 stack s.1 s.2) FU (0, μ)).bind fun q6 =>
  some (q6)
set_option maxRecDepth 4000 in
theorem eX7_addToTally (hS : Sd M K P L) (hc : CIn P 1 39) (stack : Int) (μ : Mem)  {o : Mem} (hf : fX7_addToTally stack μ = some o) (hr : (fun o : Mem => Φ none M x (L o)) o) : Ev l D cy g K yX7_addToTally cX7_addToTally 5 none (rmd 3 0 0) (MX D cy g K (rmd 3 0 0) Φ) 0 0 M x (L μ) 0 [(0, vr g 25), (1, vi stack)] [] := by
  unfold fX7_addToTally at hf
  refine ev_iconst dX7_addToTally_0 ?_
  refine ev_istore_n (al2 := [(2, vi 0), (0, vr g 25), (1, vi stack)]) dX7_addToTally_1 2 rfl (by decide) rfl ?_
  obtain ⟨q6, hq6, hf⟩ := Option.bind_eq_some_iff.mp hf
  refine ev_sub [1, 2, 0] rfl ?_
  refine loop_ev (H := (fun s : Int × Mem => Ev l D cy g K yX7_addToTally cX7_addToTally 5 none (rmd 3 0 0) (MX D cy g K (rmd 3 0 0) Φ) 0 0 M x (L s.2) 2 [(0, vr g 25), (1, vi stack), (2, vi s.1)] [])) (Hx := (fun e : Mem => Ev l D cy g K yX7_addToTally cX7_addToTally 5 none (rmd 3 0 0) (MX D cy g K (rmd 3 0 0) Φ) 0 0 M x (L e) 56 [] [])) (fun s o hb hr => tX7_addToTally_b2 hS hc stack s.1 s.2 hb hr) FU _ _ hq6 ?_
  show Ev l D cy g K yX7_addToTally cX7_addToTally 5 none (rmd 3 0 0) (MX D cy g K (rmd 3 0 0) Φ) 0 0 M x (L q6) 56 [] []
  obtain rfl := Option.some.inj hf
  exact ev_vret dX7_addToTally_56 rfl ⟨Nat.zero_le _, Nat.zero_le _⟩ hr
theorem tX7_addToTally (hS : Sd M K P L) (hc : CIn P 1 39) (stack : Int) (μ : Mem) {o : Mem} (hf : fX7_addToTally stack μ = some o) : Cn l D cy g K K yX7_addToTally cX7_addToTally 5 none (rmd 3 0 0) [vr g 25, vi stack] M x (L μ) (PE none M x (L o)) :=
 Cn.of (by decide) (Nat.le_of_ble_eq_true rfl) (eX7_addToTally hS hc stack μ hf (PE_i _ _ _ _))
def fX11_fillTally_b11 (v2 : Int) (v3 : Int) (μ : Mem) : Option ((Int × Int × Mem) ⊕ (Int × Mem)) :=
  if w32 v3 < w32 (i_shl (μ 25 3) (μ 25 2)) then
    (fX5_fits 41 v3 μ).bind fun v5 =>
    if v5 = true then
      (fX7_addToTally v3 μ).bind fun μ7 =>
      some (.inl ((v2 + 1), (v3 + 1), μ7))
    else
      some (.inl (v2, (v3 + 1), μ))
  else
    some (.inr (v2, μ))
set_option maxRecDepth 4000 in
theorem tX11_fillTally_b11 (hS : Sd M K P L) (hc : CIn P 0 75) (v2 : Int) (v3 : Int) (μ : Mem)  {o : (Int × Int × Mem) ⊕ (Int × Mem)} (hf : fX11_fillTally_b11 v2 v3 μ = some o) (hr : (Sum.elim (fun s : Int × Int × Mem => Ev l D cy g K yX11_fillTally cX11_fillTally 3 (some .int) (rmd 5 0 0) (MX D cy g K (rmd 5 0 0) Φ) 0 0 M x (L s.2.2) 11 [(0, vr g 0), (1, vi s.1), (2, vi s.2.1)] []) (fun e : Int × Mem => Ev l D cy g K yX11_fillTally cX11_fillTally 3 (some .int) (rmd 5 0 0) (MX D cy g K (rmd 5 0 0) Φ) 0 0 M x (L e.2) 54 [(1, vi e.1)] [])) o) : Ev l D cy g K yX11_fillTally cX11_fillTally 3 (some .int) (rmd 5 0 0) (MX D cy g K (rmd 5 0 0) Φ) 0 0 M x (L μ) 11 [(0, vr g 0), (1, vi v2), (2, vi v3)] [] := by
  unfold fX11_fillTally_b11 at hf
  refine ev_iload_n dX11_fillTally_11 2 rfl ?_
  refine ev_aload_n dX11_fillTally_12 0 rfl ?_
  refine ev_getK 4 dX11_fillTally_13 (hS.lt (hc 0 rfl)) rfl (hS.K1 (hc 0 rfl) rfl) ciX11 (by decide) rfl flX11_40 ?_
  refine cl_V1 (As := []) (st := [vi v3]) miX7_all (tX7_all hS (hc.w rfl rfl) μ (o := (i_shl (μ 25 3) (μ 25 2))) rfl) dX11_fillTally_16 lkX11_289 inX7_all rfl (hS.lt (hc 25 rfl)) rfl ⟨rfl, rfl⟩ ⟨⟨Nat.le_of_ble_eq_true rfl, Nat.le_of_ble_eq_true rfl⟩, Nat.zero_le _, Nat.zero_le _⟩ (Nat.le_of_ble_eq_true rfl) ?_
  refine ev_icmp_ge 54 dX11_fillTally_19 (by decide) (fun h4 => ?_) (fun h4 => ?_)
  · rw [if_neg h4] at hf
    obtain rfl := Option.some.inj hf
    refine ev_sub [1] rfl ?_
    exact hr
  · rw [if_pos h4] at hf
    refine ev_aload_n dX11_fillTally_22 0 rfl ?_
    refine ev_getK 7 dX11_fillTally_23 (hS.lt (hc 0 rfl)) rfl (hS.K1 (hc 0 rfl) rfl) ciX11 (by decide) rfl flX11_58 ?_
    refine ev_aload_n dX11_fillTally_26 0 rfl ?_
    refine ev_getK 4 dX11_fillTally_27 (hS.lt (hc 0 rfl)) rfl (hS.K1 (hc 0 rfl) rfl) ciX11 (by decide) rfl flX11_40 ?_
    refine ev_iload_n dX11_fillTally_30 2 rfl ?_
    obtain ⟨v5, hv5, hf⟩ := Option.bind_eq_some_iff.mp hf
    refine cl_V1 (As := [vr g 25, vi v3]) (st := []) miX5_fits (tX5_fits hS (hc.w rfl rfl) 41 v3 μ (by simp [isMo]) hv5) dX11_fillTally_31 lkX11_292 inX5_fits rfl (hS.lt (hc 41 rfl)) rfl ⟨rfl, rfl⟩ ⟨⟨Nat.le_of_ble_eq_true rfl, Nat.le_of_ble_eq_true rfl⟩, Nat.zero_le _, Nat.zero_le _⟩ (Nat.le_of_ble_eq_true rfl) ?_
    refine ev_ifb_eq 48 dX11_fillTally_34 (by decide) (fun h6 => ?_) (fun h6 => ?_)
    · rw [if_neg h6] at hf
      refine ev_iinc (al2 := [(2, vi (v3 + 1)), (0, vr g 0), (1, vi v2)]) dX11_fillTally_48 2 rfl (by decide) rfl ?_
      refine ev_goto 11 dX11_fillTally_51 (by decide) ?_
      obtain rfl := Option.some.inj hf
      refine ev_sub [1, 2, 0] rfl ?_
      exact hr
    · rw [if_pos h6] at hf
      refine ev_iinc (al2 := [(1, vi (v2 + 1)), (0, vr g 0), (2, vi v3)]) dX11_fillTally_37 1 rfl (by decide) rfl ?_
      refine ev_aload_n dX11_fillTally_40 1 rfl ?_
      refine ev_getK 4 dX11_fillTally_41 (hS.lt (hc 0 rfl)) rfl (hS.K1 (hc 0 rfl) rfl) ciX11 (by decide) rfl flX11_40 ?_
      refine ev_iload_n dX11_fillTally_44 2 rfl ?_
      obtain ⟨μ7, hμ7, hf⟩ := Option.bind_eq_some_iff.mp hf
      refine cl_V0 (As := [vi v3]) (st := []) miX7_addToTally (tX7_addToTally hS (hc.w rfl rfl) v3 μ hμ7) dX11_fillTally_45 lkX11_377 inX7_addToTally rfl (hS.lt (hc 25 rfl)) rfl ⟨rfl, rfl⟩ ⟨⟨Nat.le_of_ble_eq_true rfl, Nat.le_of_ble_eq_true rfl⟩, Nat.zero_le _, Nat.zero_le _⟩ (Nat.le_of_ble_eq_true rfl) ?_
      refine ev_iinc (al2 := [(2, vi (v3 + 1)), (1, vi (v2 + 1)), (0, vr g 0)]) dX11_fillTally_48 2 rfl (by decide) rfl ?_
      refine ev_goto 11 dX11_fillTally_51 (by decide) ?_
      obtain rfl := Option.some.inj hf
      refine ev_sub [2, 1, 0] rfl ?_
      exact hr
def fX11_fillTally  (μ : Mem) : Option (Int × Mem) :=
  lt (fX7_clearTally μ) fun μ1 =>
  (loopN (fun s => fX11_fillTally_b11 s.1 s.2.1 s.2.2) FU (0, 0, μ1)).bind fun q8 =>
  some ((q8.1, q8.2))
set_option maxRecDepth 4000 in
theorem eX11_fillTally (hS : Sd M K P L) (hc : CIn P 0 75)  (μ : Mem)  {o : Int × Mem} (hf : fX11_fillTally  μ = some o) (hr : (fun o : Int × Mem => Φ (some (vi o.1)) M x (L o.2)) o) : Ev l D cy g K yX11_fillTally cX11_fillTally 3 (some .int) (rmd 5 0 0) (MX D cy g K (rmd 5 0 0) Φ) 0 0 M x (L μ) 0 [(0, vr g 0)] [] := by
  unfold fX11_fillTally at hf
  refine ev_iconst dX11_fillTally_0 ?_
  refine ev_istore_n (al2 := [(1, vi 0), (0, vr g 0)]) dX11_fillTally_1 1 rfl (by decide) rfl ?_
  refine ev_aload_n dX11_fillTally_2 1 rfl ?_
  refine ev_getK 4 dX11_fillTally_3 (hS.lt (hc 0 rfl)) rfl (hS.K1 (hc 0 rfl) rfl) ciX11 (by decide) rfl flX11_40 ?_
  obtain ⟨μ1, hμ1, hf⟩ := lt_elim hf
  refine cl_V0 (As := []) (st := []) miX7_clearTally (tX7_clearTally hS (hc.w rfl rfl) μ hμ1.symm) dX11_fillTally_6 lkX11_374 inX7_clearTally rfl (hS.lt (hc 25 rfl)) rfl ⟨rfl, rfl⟩ ⟨⟨Nat.le_of_ble_eq_true rfl, Nat.le_of_ble_eq_true rfl⟩, Nat.zero_le _, Nat.zero_le _⟩ (Nat.le_of_ble_eq_true rfl) ?_
  refine ev_iconst dX11_fillTally_9 ?_
  refine ev_istore_n (al2 := [(2, vi 0), (1, vi 0), (0, vr g 0)]) dX11_fillTally_10 2 rfl (by decide) rfl ?_
  obtain ⟨q8, hq8, hf⟩ := Option.bind_eq_some_iff.mp hf
  refine ev_sub [2, 1, 0] rfl ?_
  refine loop_ev (H := (fun s : Int × Int × Mem => Ev l D cy g K yX11_fillTally cX11_fillTally 3 (some .int) (rmd 5 0 0) (MX D cy g K (rmd 5 0 0) Φ) 0 0 M x (L s.2.2) 11 [(0, vr g 0), (1, vi s.1), (2, vi s.2.1)] [])) (Hx := (fun e : Int × Mem => Ev l D cy g K yX11_fillTally cX11_fillTally 3 (some .int) (rmd 5 0 0) (MX D cy g K (rmd 5 0 0) Φ) 0 0 M x (L e.2) 54 [(1, vi e.1)] [])) (fun s o hb hr => tX11_fillTally_b11 hS hc s.1 s.2.1 s.2.2 hb hr) FU _ _ hq8 ?_
  show Ev l D cy g K yX11_fillTally cX11_fillTally 3 (some .int) (rmd 5 0 0) (MX D cy g K (rmd 5 0 0) Φ) 0 0 M x (L q8.2) 54 [(1, vi q8.1)] []
  refine ev_iload_n dX11_fillTally_54 0 rfl ?_
  obtain rfl := Option.some.inj hf
  exact ev_iret dX11_fillTally_55 rfl ⟨Nat.zero_le _, Nat.zero_le _⟩ hr
theorem tX11_fillTally (hS : Sd M K P L) (hc : CIn P 0 75) (μ : Mem) {o : Int × Mem} (hf : fX11_fillTally μ = some o) : Cn l D cy g K K yX11_fillTally cX11_fillTally 3 (some .int) (rmd 5 0 0) [vr g 0] M x (L μ) (PE (some (vi o.1)) M x (L o.2)) :=
 Cn.of (by decide) (Nat.le_of_ble_eq_true rfl) (eX11_fillTally hS hc μ hf (PE_i _ _ _ _))
def fX7_mostInTally_b4 (place : Int) (v1 : Int) (v2 : Int) (μ : Mem) : Option ((Int × Int) ⊕ (Int)) :=
  if w32 v2 < w32 (μ 25 1) then
    lt (fX7_tallyEntry place v2 false) fun v4 =>
    lt (fX11_at 38 v4 μ) fun v5 =>
    lt (fX7_tallyEntry place v2 true) fun v6 =>
    lt (imax v1 (imax v5 (fX11_at 38 v6 μ))) fun v7 =>
    some (.inl (v7, (v2 + 1)))
  else
    some (.inr v1)
set_option maxRecDepth 4000 in
theorem tX7_mostInTally_b4 (hS : Sd M K P L) (hc : CIn P 1 39) (place : Int) (v1 : Int) (v2 : Int) (μ : Mem)  {o : (Int × Int) ⊕ (Int)} (hf : fX7_mostInTally_b4 place v1 v2 μ = some o) (hr : (Sum.elim (fun s : Int × Int => Ev l D cy g K yX7_mostInTally cX7_mostInTally 5 (some .int) (rmd 2 0 0) (MX D cy g K (rmd 2 0 0) Φ) 0 0 M x (L μ) 4 [(0, vr g 25), (1, vi place), (2, vi s.1), (3, vi s.2)] []) (fun e : Int => Ev l D cy g K yX7_mostInTally cX7_mostInTally 5 (some .int) (rmd 2 0 0) (MX D cy g K (rmd 2 0 0) Φ) 0 0 M x (L μ) 56 [(2, vi e)] [])) o) : Ev l D cy g K yX7_mostInTally cX7_mostInTally 5 (some .int) (rmd 2 0 0) (MX D cy g K (rmd 2 0 0) Φ) 0 0 M x (L μ) 4 [(0, vr g 25), (1, vi place), (2, vi v1), (3, vi v2)] [] := by
  unfold fX7_mostInTally_b4 at hf
  refine ev_iload_n dX7_mostInTally_4 3 rfl ?_
  refine ev_aload_n dX7_mostInTally_5 0 rfl ?_
  refine ev_getI 1 dX7_mostInTally_6 (hS.lt (hc 25 rfl)) rfl (hS.mem _ (hc 25 rfl)) ciX7 (by decide) rfl flX7_65 ?_
  refine ev_icmp_ge 56 dX7_mostInTally_9 (by decide) (fun h3 => ?_) (fun h3 => ?_)
  · rw [if_neg h3] at hf
    obtain rfl := Option.some.inj hf
    refine ev_sub [2] rfl ?_
    exact hr
  · rw [if_pos h3] at hf
    refine ev_aload_n dX7_mostInTally_12 0 rfl ?_
    refine ev_getK 17 dX7_mostInTally_13 (hS.lt (hc 25 rfl)) rfl (hS.K1 (hc 25 rfl) rfl) ciX7 (by decide) rfl flX7_48 ?_
    refine ev_iload_n dX7_mostInTally_16 1 rfl ?_
    refine ev_iload_n dX7_mostInTally_17 3 rfl ?_
    refine ev_iconst dX7_mostInTally_18 ?_
    obtain ⟨v4, hv4, hf⟩ := lt_elim hf
    refine cl_S1 (As := [vi place, vi v2, vb false]) (st := [vr g 38]) miX7_tallyEntry (tX7_tallyEntry place v2 false (L μ) hv4.symm) dX7_mostInTally_19 lkX7_195 stX7_tallyEntry rfl ⟨⟨Nat.le_of_ble_eq_true rfl, Nat.le_of_ble_eq_true rfl⟩, Nat.zero_le _, Nat.zero_le _⟩ (Nat.le_of_ble_eq_true rfl) ?_
    refine cl_N1 (As := [vr g 38, vi v4]) (st := []) (host := "HotCakes") miX11_at (tX11_at hS (hc.w rfl rfl) 38 v4 μ (⟨(hc 38 rfl), rfl⟩) (o := (fX11_at 38 v4 μ)) rfl) dX7_mostInTally_22 (by decide) stX11_at rfl ⟨⟨Nat.le_of_ble_eq_true rfl, Nat.le_of_ble_eq_true rfl⟩, Nat.zero_le _, Nat.zero_le _⟩ (Nat.le_of_ble_eq_true rfl) ?_
    obtain ⟨v5, hv5, hf⟩ := lt_elim hf
    refine ev_rni hv5 ?_
    refine ev_istore (al2 := [(4, vi v5), (0, vr g 25), (1, vi place), (2, vi v1), (3, vi v2)]) dX7_mostInTally_25 (by decide) rfl ?_
    refine ev_iload_n dX7_mostInTally_27 3 rfl ?_
    refine ev_iload dX7_mostInTally_28 0 rfl ?_
    refine ev_aload_n dX7_mostInTally_30 1 rfl ?_
    refine ev_getK 17 dX7_mostInTally_31 (hS.lt (hc 25 rfl)) rfl (hS.K1 (hc 25 rfl) rfl) ciX7 (by decide) rfl flX7_48 ?_
    refine ev_iload_n dX7_mostInTally_34 2 rfl ?_
    refine ev_iload_n dX7_mostInTally_35 4 rfl ?_
    refine ev_iconst dX7_mostInTally_36 ?_
    obtain ⟨v6, hv6, hf⟩ := lt_elim hf
    refine cl_S1 (As := [vi place, vi v2, vb true]) (st := [vr g 38, vi v5, vi v1]) miX7_tallyEntry (tX7_tallyEntry place v2 true (L μ) hv6.symm) dX7_mostInTally_37 lkX7_195 stX7_tallyEntry rfl ⟨⟨Nat.le_of_ble_eq_true rfl, Nat.le_of_ble_eq_true rfl⟩, Nat.zero_le _, Nat.zero_le _⟩ (Nat.le_of_ble_eq_true rfl) ?_
    refine cl_N1 (As := [vr g 38, vi v6]) (st := [vi v5, vi v1]) (host := "HotCakes") miX11_at (tX11_at hS (hc.w rfl rfl) 38 v6 μ (⟨(hc 38 rfl), rfl⟩) (o := (fX11_at 38 v6 μ)) rfl) dX7_mostInTally_40 (by decide) stX11_at rfl ⟨⟨Nat.le_of_ble_eq_true rfl, Nat.le_of_ble_eq_true rfl⟩, Nat.zero_le _, Nat.zero_le _⟩ (Nat.le_of_ble_eq_true rfl) ?_
    refine ev_mmax dX7_mostInTally_43 lkX7_148 ⟨Nat.le_of_ble_eq_true rfl, Nat.le_of_ble_eq_true rfl, Nat.zero_le _, Nat.zero_le _⟩ ?_
    refine ev_mmax dX7_mostInTally_46 lkX7_148 ⟨Nat.le_of_ble_eq_true rfl, Nat.le_of_ble_eq_true rfl, Nat.zero_le _, Nat.zero_le _⟩ ?_
    obtain ⟨v7, hv7, hf⟩ := lt_elim hf
    refine ev_rni hv7 ?_
    refine ev_istore_n (al2 := [(2, vi v7), (4, vi v5), (0, vr g 25), (1, vi place), (3, vi v2)]) dX7_mostInTally_49 2 rfl (by decide) rfl ?_
    refine ev_iinc (al2 := [(3, vi (v2 + 1)), (2, vi v7), (4, vi v5), (0, vr g 25), (1, vi place)]) dX7_mostInTally_50 4 rfl (by decide) rfl ?_
    refine ev_goto 4 dX7_mostInTally_53 (by decide) ?_
    obtain rfl := Option.some.inj hf
    refine ev_sub [3, 4, 1, 0] rfl ?_
    exact hr
def fX7_mostInTally (place : Int) (μ : Mem) : Option (Int) :=
  (loopN (fun s => fX7_mostInTally_b4 place s.1 s.2 μ) FU (0, 0)).bind fun q8 =>
  some (q8)
set_option maxRecDepth 4000 in
theorem eX7_mostInTally (hS : Sd M K P L) (hc : CIn P 1 39) (place : Int) (μ : Mem)  {o : Int} (hf : fX7_mostInTally place μ = some o) (hr : (fun o : Int => Φ (some (vi o)) M x (L μ)) o) : Ev l D cy g K yX7_mostInTally cX7_mostInTally 5 (some .int) (rmd 2 0 0) (MX D cy g K (rmd 2 0 0) Φ) 0 0 M x (L μ) 0 [(0, vr g 25), (1, vi place)] [] := by
  unfold fX7_mostInTally at hf
  refine ev_iconst dX7_mostInTally_0 ?_
  refine ev_istore_n (al2 := [(2, vi 0), (0, vr g 25), (1, vi place)]) dX7_mostInTally_1 2 rfl (by decide) rfl ?_
  refine ev_iconst dX7_mostInTally_2 ?_
  refine ev_istore_n (al2 := [(3, vi 0), (2, vi 0), (0, vr g 25), (1, vi place)]) dX7_mostInTally_3 3 rfl (by decide) rfl ?_
  obtain ⟨q8, hq8, hf⟩ := Option.bind_eq_some_iff.mp hf
  refine ev_sub [2, 3, 1, 0] rfl ?_
  refine loop_ev (H := (fun s : Int × Int => Ev l D cy g K yX7_mostInTally cX7_mostInTally 5 (some .int) (rmd 2 0 0) (MX D cy g K (rmd 2 0 0) Φ) 0 0 M x (L μ) 4 [(0, vr g 25), (1, vi place), (2, vi s.1), (3, vi s.2)] [])) (Hx := (fun e : Int => Ev l D cy g K yX7_mostInTally cX7_mostInTally 5 (some .int) (rmd 2 0 0) (MX D cy g K (rmd 2 0 0) Φ) 0 0 M x (L μ) 56 [(2, vi e)] [])) (fun s o hb hr => tX7_mostInTally_b4 hS hc place s.1 s.2 μ hb hr) FU _ _ hq8 ?_
  show Ev l D cy g K yX7_mostInTally cX7_mostInTally 5 (some .int) (rmd 2 0 0) (MX D cy g K (rmd 2 0 0) Φ) 0 0 M x (L μ) 56 [(2, vi q8)] []
  refine ev_iload_n dX7_mostInTally_56 0 rfl ?_
  obtain rfl := Option.some.inj hf
  exact ev_iret dX7_mostInTally_57 rfl ⟨Nat.zero_le _, Nat.zero_le _⟩ hr
theorem tX7_mostInTally (hS : Sd M K P L) (hc : CIn P 1 39) (place : Int) (μ : Mem) {o : Int} (hf : fX7_mostInTally place μ = some o) : Cn l D cy g K K yX7_mostInTally cX7_mostInTally 5 (some .int) (rmd 2 0 0) [vr g 25, vi place] M x (L μ) (PE (some (vi o)) M x (L μ)) :=
 Cn.of (by decide) (Nat.le_of_ble_eq_true rfl) (eX7_mostInTally hS hc place μ hf (PE_i _ _ _ _))
def fX11_look_b9 (v2 : Int) (v3 : Int) (v4 : Int) (μ : Mem) : Option ((Int × Int × Int × Mem) ⊕ (Int × Mem)) :=
  if w32 v4 < w32 (μ 25 1) then
    (fX7_mostInTally v4 μ).bind fun v6 =>
    if w32 v6 < w32 v3 then
      some (.inl (v4, v6, (v4 + 1), μ))
    else
      some (.inl (v2, v3, (v4 + 1), μ))
  else
    some (.inr (v2, μ))
set_option maxRecDepth 4000 in
theorem tX11_look_b9 (hS : Sd M K P L) (hc : CIn P 0 75) (v2 : Int) (v3 : Int) (v4 : Int) (μ : Mem)  {o : (Int × Int × Int × Mem) ⊕ (Int × Mem)} (hf : fX11_look_b9 v2 v3 v4 μ = some o) (hr : (Sum.elim (fun s : Int × Int × Int × Mem => Ev l D cy g K yX11_look cX11_look 5 (some .int) (rmd 6 0 0) (MX D cy g K (rmd 6 0 0) Φ) 0 0 M x (L s.2.2.2) 9 [(0, vr g 0), (1, vi s.1), (2, vi s.2.1), (3, vi s.2.2.1)] []) (fun e : Int × Mem => Ev l D cy g K yX11_look cX11_look 5 (some .int) (rmd 6 0 0) (MX D cy g K (rmd 6 0 0) Φ) 0 0 M x (L e.2) 47 [(1, vi e.1)] [])) o) : Ev l D cy g K yX11_look cX11_look 5 (some .int) (rmd 6 0 0) (MX D cy g K (rmd 6 0 0) Φ) 0 0 M x (L μ) 9 [(0, vr g 0), (1, vi v2), (2, vi v3), (3, vi v4)] [] := by
  unfold fX11_look_b9 at hf
  refine ev_iload_n dX11_look_9 3 rfl ?_
  refine ev_aload_n dX11_look_10 0 rfl ?_
  refine ev_getK 4 dX11_look_11 (hS.lt (hc 0 rfl)) rfl (hS.K1 (hc 0 rfl) rfl) ciX11 (by decide) rfl flX11_40 ?_
  refine cl_V1 (As := []) (st := [vi v4]) miX7_cakes (tX7_cakes hS (hc.w rfl rfl) μ (o := (μ 25 1)) rfl) dX11_look_14 lkX11_133 inX7_cakes rfl (hS.lt (hc 25 rfl)) rfl ⟨rfl, rfl⟩ ⟨⟨Nat.le_of_ble_eq_true rfl, Nat.le_of_ble_eq_true rfl⟩, Nat.zero_le _, Nat.zero_le _⟩ (Nat.le_of_ble_eq_true rfl) ?_
  refine ev_icmp_ge 47 dX11_look_17 (by decide) (fun h5 => ?_) (fun h5 => ?_)
  · rw [if_neg h5] at hf
    obtain rfl := Option.some.inj hf
    refine ev_sub [1] rfl ?_
    exact hr
  · rw [if_pos h5] at hf
    refine ev_aload_n dX11_look_20 0 rfl ?_
    refine ev_getK 4 dX11_look_21 (hS.lt (hc 0 rfl)) rfl (hS.K1 (hc 0 rfl) rfl) ciX11 (by decide) rfl flX11_40 ?_
    refine ev_iload_n dX11_look_24 3 rfl ?_
    obtain ⟨v6, hv6, hf⟩ := Option.bind_eq_some_iff.mp hf
    refine cl_V1 (As := [vi v4]) (st := []) miX7_mostInTally (tX7_mostInTally hS (hc.w rfl rfl) v4 μ hv6) dX11_look_25 lkX11_299 inX7_mostInTally rfl (hS.lt (hc 25 rfl)) rfl ⟨rfl, rfl⟩ ⟨⟨Nat.le_of_ble_eq_true rfl, Nat.le_of_ble_eq_true rfl⟩, Nat.zero_le _, Nat.zero_le _⟩ (Nat.le_of_ble_eq_true rfl) ?_
    refine ev_istore (al2 := [(4, vi v6), (0, vr g 0), (1, vi v2), (2, vi v3), (3, vi v4)]) dX11_look_28 (by decide) rfl ?_
    refine ev_iload dX11_look_30 0 rfl ?_
    refine ev_iload_n dX11_look_32 3 rfl ?_
    refine ev_icmp_ge 41 dX11_look_33 (by decide) (fun h7 => ?_) (fun h7 => ?_)
    · rw [if_neg h7] at hf
      refine ev_iinc (al2 := [(3, vi (v4 + 1)), (4, vi v6), (0, vr g 0), (1, vi v2), (2, vi v3)]) dX11_look_41 4 rfl (by decide) rfl ?_
      refine ev_goto 9 dX11_look_44 (by decide) ?_
      obtain rfl := Option.some.inj hf
      refine ev_sub [2, 3, 4, 0] rfl ?_
      exact hr
    · rw [if_pos h7] at hf
      refine ev_iload dX11_look_36 0 rfl ?_
      refine ev_istore_n (al2 := [(2, vi v6), (4, vi v6), (0, vr g 0), (1, vi v2), (3, vi v4)]) dX11_look_38 2 rfl (by decide) rfl ?_
      refine ev_iload_n dX11_look_39 4 rfl ?_
      refine ev_istore_n (al2 := [(1, vi v4), (2, vi v6), (4, vi v6), (0, vr g 0), (3, vi v4)]) dX11_look_40 1 rfl (by decide) rfl ?_
      refine ev_iinc (al2 := [(3, vi (v4 + 1)), (1, vi v4), (2, vi v6), (4, vi v6), (0, vr g 0)]) dX11_look_41 4 rfl (by decide) rfl ?_
      refine ev_goto 9 dX11_look_44 (by decide) ?_
      obtain rfl := Option.some.inj hf
      refine ev_sub [4, 1, 2, 0] rfl ?_
      exact hr
def fX11_look  (μ : Mem) : Option (Int × Mem) :=
  (fX11_fillTally μ).bind fun q1 =>
  (loopN (fun s => fX11_look_b9 s.1 s.2.1 s.2.2.1 s.2.2.2) FU ((-1), q1.1, 0, q1.2)).bind fun q8 =>
  some ((q8.1, q8.2))
set_option maxRecDepth 4000 in
theorem eX11_look (hS : Sd M K P L) (hc : CIn P 0 75)  (μ : Mem)  {o : Int × Mem} (hf : fX11_look  μ = some o) (hr : (fun o : Int × Mem => Φ (some (vi o.1)) M x (L o.2)) o) : Ev l D cy g K yX11_look cX11_look 5 (some .int) (rmd 6 0 0) (MX D cy g K (rmd 6 0 0) Φ) 0 0 M x (L μ) 0 [(0, vr g 0)] [] := by
  unfold fX11_look at hf
  refine ev_iconst dX11_look_0 ?_
  refine ev_istore_n (al2 := [(1, vi (-1)), (0, vr g 0)]) dX11_look_1 1 rfl (by decide) rfl ?_
  refine ev_aload_n dX11_look_2 1 rfl ?_
  obtain ⟨q1, hq1, hf⟩ := Option.bind_eq_some_iff.mp hf
  refine cl_V1 (As := []) (st := []) miX11_fillTally (tX11_fillTally hS (hc.w rfl rfl) μ hq1) dX11_look_3 lkX11_296 inX11_fillTally rfl (hS.lt (hc 0 rfl)) rfl ⟨rfl, rfl⟩ ⟨⟨Nat.le_of_ble_eq_true rfl, Nat.le_of_ble_eq_true rfl⟩, Nat.zero_le _, Nat.zero_le _⟩ (Nat.le_of_ble_eq_true rfl) ?_
  refine ev_istore_n (al2 := [(2, vi q1.1), (1, vi (-1)), (0, vr g 0)]) dX11_look_6 2 rfl (by decide) rfl ?_
  refine ev_iconst dX11_look_7 ?_
  refine ev_istore_n (al2 := [(3, vi 0), (2, vi q1.1), (1, vi (-1)), (0, vr g 0)]) dX11_look_8 3 rfl (by decide) rfl ?_
  obtain ⟨q8, hq8, hf⟩ := Option.bind_eq_some_iff.mp hf
  refine ev_sub [3, 2, 1, 0] rfl ?_
  refine loop_ev (H := (fun s : Int × Int × Int × Mem => Ev l D cy g K yX11_look cX11_look 5 (some .int) (rmd 6 0 0) (MX D cy g K (rmd 6 0 0) Φ) 0 0 M x (L s.2.2.2) 9 [(0, vr g 0), (1, vi s.1), (2, vi s.2.1), (3, vi s.2.2.1)] [])) (Hx := (fun e : Int × Mem => Ev l D cy g K yX11_look cX11_look 5 (some .int) (rmd 6 0 0) (MX D cy g K (rmd 6 0 0) Φ) 0 0 M x (L e.2) 47 [(1, vi e.1)] [])) (fun s o hb hr => tX11_look_b9 hS hc s.1 s.2.1 s.2.2.1 s.2.2.2 hb hr) FU _ _ hq8 ?_
  show Ev l D cy g K yX11_look cX11_look 5 (some .int) (rmd 6 0 0) (MX D cy g K (rmd 6 0 0) Φ) 0 0 M x (L q8.2) 47 [(1, vi q8.1)] []
  refine ev_iload_n dX11_look_47 0 rfl ?_
  obtain rfl := Option.some.inj hf
  exact ev_iret dX11_look_48 rfl ⟨Nat.zero_le _, Nat.zero_le _⟩ hr
theorem tX11_look (hS : Sd M K P L) (hc : CIn P 0 75) (μ : Mem) {o : Int × Mem} (hf : fX11_look μ = some o) : Cn l D cy g K K yX11_look cX11_look 5 (some .int) (rmd 6 0 0) [vr g 0] M x (L μ) (PE (some (vi o.1)) M x (L o.2)) :=
 Cn.of (by decide) (Nat.le_of_ble_eq_true rfl) (eX11_look hS hc μ hf (PE_i _ _ _ _))
def fX7_startCounts (stack : Int) (μ : Mem) : Option (Mem) :=
  gd (((μ 25 15) = 36 ∨ (μ 25 15) = 37)) <|
  lt (μ 25 15).toNat fun r2 =>
  lt (fill3 μ r2 3840 0) fun μ3 =>
  gd (((μ3 25 15) = 36 ∨ (μ3 25 15) = 37)) <|
  lt (μ3 25 15).toNat fun r5 =>
  lt (fX11_put r5 stack 1 μ3) fun μ6 =>
  some (μ6)
set_option maxRecDepth 4000 in
theorem eX7_startCounts (hS : Sd M K P L) (hc : CIn P 1 39) (stack : Int) (μ : Mem)  {o : Mem} (hf : fX7_startCounts stack μ = some o) (hr : (fun o : Mem => Φ none M x (L o)) o) : Ev l D cy g K yX7_startCounts cX7_startCounts 2 none (rmd 2 0 0) (MX D cy g K (rmd 2 0 0) Φ) 0 0 M x (L μ) 0 [(0, vr g 25), (1, vi stack)] [] := by
  unfold fX7_startCounts at hf
  refine ev_aload_n dX7_startCounts_0 0 rfl ?_
  obtain ⟨g1, hf⟩ := gd_elim hf
  refine ev_getR 15 dX7_startCounts_1 (hS.lt (hc 25 rfl)) rfl (hS.mem _ (hc 25 rfl)) (hS.K0 (hc 25 rfl) rfl) (dy_Ct g1).2 ciX7 (by decide) rfl flX7_42 ?_
  obtain ⟨r2, hr2, hf⟩ := lt_elim hf
  refine ev_rn (congrArg (vr g) hr2) ?_
  have kr2 : isCt r2 := by rw [hr2]; exact (dy_Ct g1).1
  refine ev_iconst dX7_startCounts_4 ?_
  obtain ⟨μ3, hμ3, hf⟩ := lt_elim hf
  refine cl_S0 (As := [vr g r2, vi 0]) (st := []) miJ7_fill_53178 (tJ7_fill_53178 (o := μ3) hS r2 0 μ ⟨(hc _ (inR_w (i_Ct kr2) rfl rfl)), (ia_of (s_Ct kr2))⟩ (al_of (s_Ct kr2) (by decide)) (by rw [show alen r2 = 3840 from (by unfold alen; rw [(s_Ct kr2)])]; exact hμ3.symm)) dX7_startCounts_5 lkX7_180 stJ7_fill_53178 rfl ⟨⟨Nat.le_of_ble_eq_true rfl, Nat.le_of_ble_eq_true rfl⟩, Nat.zero_le _, Nat.zero_le _⟩ (Nat.le_of_ble_eq_true rfl) ?_
  refine ev_aload_n dX7_startCounts_8 0 rfl ?_
  obtain ⟨g4, hf⟩ := gd_elim hf
  refine ev_getR 15 dX7_startCounts_9 (hS.lt (hc 25 rfl)) rfl (hS.mem _ (hc 25 rfl)) (hS.K0 (hc 25 rfl) rfl) (dy_Ct g4).2 ciX7 (by decide) rfl flX7_42 ?_
  obtain ⟨r5, hr5, hf⟩ := lt_elim hf
  refine ev_rn (congrArg (vr g) hr5) ?_
  have kr5 : isCt r5 := by rw [hr5]; exact (dy_Ct g4).1
  refine ev_iload_n dX7_startCounts_12 1 rfl ?_
  refine ev_iconst dX7_startCounts_13 ?_
  obtain ⟨μ6, hμ6, hf⟩ := lt_elim hf
  refine cl_N0 (As := [vr g r5, vi stack, vi 1]) (st := []) (host := "HotCakes") miX11_put (tX11_put hS (hc.w rfl rfl) r5 stack 1 μ3 (⟨(hc _ (inR_w (i_Ct kr5) rfl rfl)), (ia_of (s_Ct kr5))⟩) hμ6.symm) dX7_startCounts_14 (by decide) stX11_put rfl ⟨⟨Nat.le_of_ble_eq_true rfl, Nat.le_of_ble_eq_true rfl⟩, Nat.zero_le _, Nat.zero_le _⟩ (Nat.le_of_ble_eq_true rfl) ?_
  obtain rfl := Option.some.inj hf
  exact ev_vret dX7_startCounts_17 rfl ⟨Nat.zero_le _, Nat.zero_le _⟩ hr
theorem tX7_startCounts (hS : Sd M K P L) (hc : CIn P 1 39) (stack : Int) (μ : Mem) {o : Mem} (hf : fX7_startCounts stack μ = some o) : Cn l D cy g K K yX7_startCounts cX7_startCounts 2 none (rmd 2 0 0) [vr g 25, vi stack] M x (L μ) (PE none M x (L o)) :=
 Cn.of (by decide) (Nat.le_of_ble_eq_true rfl) (eX7_startCounts hS hc stack μ hf (PE_i _ _ _ _))
def fX7_spreadCounts_b30 (stayServed : Bool) (v4 : Int) (v8 : Int) (v9 : Int) (μ : Mem) : Option ((Int × Mem) ⊕ (Mem)) :=
  if w32 v8 ≤ 0 then
    some (.inr μ)
  else
    if w32 v9 ≤ w32 (μ 25 1) then
      lt (if (fX7_isOpen v4 v9 μ) = true then
          if stayServed = true then
            if w32 v4 = w32 (μ 25 4) then
              false
            else
              true
          else
            true
        else
          false) fun v12 =>
      lt (if v12 = true then
          (fX7_turned v4 v9 μ)
        else
          v4) fun v16 =>
      gd (((μ 25 16) = 36 ∨ (μ 25 16) = 37)) <|
      lt (μ 25 16).toNat fun r19 =>
      gd (((μ 25 16) = 36 ∨ (μ 25 16) = 37)) <|
      lt (μ 25 16).toNat fun r21 =>
      lt (fX11_put r19 v16 ((fX11_at r21 v16 μ) + v8) μ) fun μ22 =>
      some (.inl ((v9 + 1), μ22))
    else
      some (.inr μ)
set_option maxRecDepth 4000 in
theorem tX7_spreadCounts_b30 (hS : Sd M K P L) (hc : CIn P 1 39) (stayServed : Bool) (v4 : Int) (v8 : Int) (v9 : Int) (μ : Mem)  {o : (Int × Mem) ⊕ (Mem)} (hf : fX7_spreadCounts_b30 stayServed v4 v8 v9 μ = some o) (hr : (Sum.elim (fun s : Int × Mem => Ev l D cy g K yX7_spreadCounts cX7_spreadCounts 7 none (rmd 4 0 0) (MX D cy g K (rmd 4 0 0) Φ) 0 0 M x (L s.2) 30 [(0, vr g 25), (1, vb stayServed), (2, vi v4), (3, vi v8), (4, vi s.1)] []) (fun e : Mem => Ev l D cy g K yX7_spreadCounts cX7_spreadCounts 7 none (rmd 4 0 0) (MX D cy g K (rmd 4 0 0) Φ) 0 0 M x (L e) 116 [(0, vr g 25), (1, vb stayServed), (2, vi v4)] [])) o) : Ev l D cy g K yX7_spreadCounts cX7_spreadCounts 7 none (rmd 4 0 0) (MX D cy g K (rmd 4 0 0) Φ) 0 0 M x (L μ) 30 [(0, vr g 25), (1, vb stayServed), (2, vi v4), (3, vi v8), (4, vi v9)] [] := by
  unfold fX7_spreadCounts_b30 at hf
  refine ev_iload_n dX7_spreadCounts_30 3 rfl ?_
  refine ev_if_le 116 dX7_spreadCounts_31 (by decide) (fun h10 => ?_) (fun h10 => ?_)
  · rw [if_pos h10] at hf
    obtain rfl := Option.some.inj hf
    refine ev_sub [0, 1, 2] rfl ?_
    exact hr
  · rw [if_neg h10] at hf
    refine ev_iload dX7_spreadCounts_34 4 rfl ?_
    refine ev_aload_n dX7_spreadCounts_36 0 rfl ?_
    refine ev_getI 1 dX7_spreadCounts_37 (hS.lt (hc 25 rfl)) rfl (hS.mem _ (hc 25 rfl)) ciX7 (by decide) rfl flX7_65 ?_
    refine ev_icmp_gt 116 dX7_spreadCounts_40 (by decide) (fun h11 => ?_) (fun h11 => ?_)
    · rw [if_neg h11] at hf
      obtain rfl := Option.some.inj hf
      refine ev_sub [0, 1, 2] rfl ?_
      exact hr
    · rw [if_pos h11] at hf
      refine ev_aload_n dX7_spreadCounts_43 0 rfl ?_
      refine ev_iload_n dX7_spreadCounts_44 2 rfl ?_
      refine ev_iload dX7_spreadCounts_45 4 rfl ?_
      refine cl_V1 (As := [vi v4, vi v9]) (st := []) miX7_isOpen (tX7_isOpen hS (hc.w rfl rfl) v4 v9 μ (o := (fX7_isOpen v4 v9 μ)) rfl) dX7_spreadCounts_47 lkX7_189 inX7_isOpen rfl (hS.lt (hc 25 rfl)) rfl ⟨rfl, rfl⟩ ⟨⟨Nat.le_of_ble_eq_true rfl, Nat.le_of_ble_eq_true rfl⟩, Nat.zero_le _, Nat.zero_le _⟩ (Nat.le_of_ble_eq_true rfl) ?_
      obtain ⟨v12, hv12, hf⟩ := lt_elim hf
      have hJv12 : Ev l D cy g K yX7_spreadCounts cX7_spreadCounts 7 none (rmd 4 0 0) (MX D cy g K (rmd 4 0 0) Φ) 0 0 M x (L μ) 70 [(0, vr g 25), (1, vb stayServed), (2, vi v4), (3, vi v8), (4, vi v9)] [vb v12] := by
        refine ev_istore (al2 := [(5, vb v12), (0, vr g 25), (1, vb stayServed), (2, vi v4), (3, vi v8), (4, vi v9)]) dX7_spreadCounts_70 (by decide) rfl ?_
        refine ev_iload dX7_spreadCounts_72 0 rfl ?_
        obtain ⟨v16, hv16, hf⟩ := lt_elim hf
        have hJv16 : Ev l D cy g K yX7_spreadCounts cX7_spreadCounts 7 none (rmd 4 0 0) (MX D cy g K (rmd 4 0 0) Φ) 0 0 M x (L μ) 88 [(5, vb v12), (0, vr g 25), (1, vb stayServed), (2, vi v4), (3, vi v8), (4, vi v9)] [vi v16] := by
          refine ev_istore (al2 := [(6, vi v16), (5, vb v12), (0, vr g 25), (1, vb stayServed), (2, vi v4), (3, vi v8), (4, vi v9)]) dX7_spreadCounts_88 (by decide) rfl ?_
          refine ev_aload_n dX7_spreadCounts_90 2 rfl ?_
          obtain ⟨g18, hf⟩ := gd_elim hf
          refine ev_getR 16 dX7_spreadCounts_91 (hS.lt (hc 25 rfl)) rfl (hS.mem _ (hc 25 rfl)) (hS.K0 (hc 25 rfl) rfl) (dy_Ct g18).2 ciX7 (by decide) rfl flX7_45 ?_
          obtain ⟨r19, hr19, hf⟩ := lt_elim hf
          refine ev_rn (congrArg (vr g) hr19) ?_
          have kr19 : isCt r19 := by rw [hr19]; exact (dy_Ct g18).1
          refine ev_iload dX7_spreadCounts_94 0 rfl ?_
          refine ev_aload_n dX7_spreadCounts_96 2 rfl ?_
          obtain ⟨g20, hf⟩ := gd_elim hf
          refine ev_getR 16 dX7_spreadCounts_97 (hS.lt (hc 25 rfl)) rfl (hS.mem _ (hc 25 rfl)) (hS.K0 (hc 25 rfl) rfl) (dy_Ct g20).2 ciX7 (by decide) rfl flX7_45 ?_
          obtain ⟨r21, hr21, hf⟩ := lt_elim hf
          refine ev_rn (congrArg (vr g) hr21) ?_
          have kr21 : isCt r21 := by rw [hr21]; exact (dy_Ct g20).1
          refine ev_iload dX7_spreadCounts_100 0 rfl ?_
          refine cl_N1 (As := [vr g r21, vi v16]) (st := [vi v16, vr g r19]) (host := "HotCakes") miX11_at (tX11_at hS (hc.w rfl rfl) r21 v16 μ (⟨(hc _ (inR_w (i_Ct kr21) rfl rfl)), (ia_of (s_Ct kr21))⟩) (o := (fX11_at r21 v16 μ)) rfl) dX7_spreadCounts_102 (by decide) stX11_at rfl ⟨⟨Nat.le_of_ble_eq_true rfl, Nat.le_of_ble_eq_true rfl⟩, Nat.zero_le _, Nat.zero_le _⟩ (Nat.le_of_ble_eq_true rfl) ?_
          refine ev_iload_n dX7_spreadCounts_105 5 rfl ?_
          refine ev_iadd dX7_spreadCounts_106 ?_
          obtain ⟨μ22, hμ22, hf⟩ := lt_elim hf
          refine cl_N0 (As := [vr g r19, vi v16, vi ((fX11_at r21 v16 μ) + v8)]) (st := []) (host := "HotCakes") miX11_put (tX11_put hS (hc.w rfl rfl) r19 v16 ((fX11_at r21 v16 μ) + v8) μ (⟨(hc _ (inR_w (i_Ct kr19) rfl rfl)), (ia_of (s_Ct kr19))⟩) hμ22.symm) dX7_spreadCounts_107 (by decide) stX11_put rfl ⟨⟨Nat.le_of_ble_eq_true rfl, Nat.le_of_ble_eq_true rfl⟩, Nat.zero_le _, Nat.zero_le _⟩ (Nat.le_of_ble_eq_true rfl) ?_
          refine ev_iinc (al2 := [(4, vi (v9 + 1)), (6, vi v16), (5, vb v12), (0, vr g 25), (1, vb stayServed), (2, vi v4), (3, vi v8)]) dX7_spreadCounts_110 6 rfl (by decide) rfl ?_
          refine ev_goto 30 dX7_spreadCounts_113 (by decide) ?_
          obtain rfl := Option.some.inj hf
          refine ev_sub [3, 4, 5, 6, 0] rfl ?_
          exact hr
        refine ev_ifb_eq 87 dX7_spreadCounts_74 (by decide) (fun h17 => ?_) (fun h17 => ?_)
        · refine ev_iload_n dX7_spreadCounts_87 3 rfl ?_
          have e9 : v16 = v4 := hv16.trans ((if_neg h17))
          subst e9
          exact hJv16
        · refine ev_aload_n dX7_spreadCounts_77 1 rfl ?_
          refine ev_iload_n dX7_spreadCounts_78 3 rfl ?_
          refine ev_iload dX7_spreadCounts_79 5 rfl ?_
          refine cl_V1 (As := [vi v4, vi v9]) (st := []) miX7_turned (tX7_turned hS (hc.w rfl rfl) v4 v9 μ (o := (fX7_turned v4 v9 μ)) rfl) dX7_spreadCounts_81 lkX7_192 inX7_turned rfl (hS.lt (hc 25 rfl)) rfl ⟨rfl, rfl⟩ ⟨⟨Nat.le_of_ble_eq_true rfl, Nat.le_of_ble_eq_true rfl⟩, Nat.zero_le _, Nat.zero_le _⟩ (Nat.le_of_ble_eq_true rfl) ?_
          refine ev_goto 88 dX7_spreadCounts_84 (by decide) ?_
          have e9 : v16 = (fX7_turned v4 v9 μ) := hv16.trans ((if_pos h17))
          subst e9
          exact hJv16
      refine ev_ifb_eq 69 dX7_spreadCounts_50 (by decide) (fun h13 => ?_) (fun h13 => ?_)
      · refine ev_iconst dX7_spreadCounts_69 ?_
        have e9 : v12 = false := hv12.trans ((if_neg h13))
        subst e9
        exact hJv12
      · refine ev_iload_n dX7_spreadCounts_53 1 rfl ?_
        refine ev_ifb_eq 65 dX7_spreadCounts_54 (by decide) (fun h14 => ?_) (fun h14 => ?_)
        · refine ev_iconst dX7_spreadCounts_65 ?_
          refine ev_goto 70 dX7_spreadCounts_66 (by decide) ?_
          have e9 : v12 = true := hv12.trans (((if_pos h13)).trans (if_neg h14))
          subst e9
          exact hJv12
        · refine ev_iload_n dX7_spreadCounts_57 2 rfl ?_
          refine ev_aload_n dX7_spreadCounts_58 0 rfl ?_
          refine ev_getI 4 dX7_spreadCounts_59 (hS.lt (hc 25 rfl)) rfl (hS.mem _ (hc 25 rfl)) ciX7 (by decide) rfl flX7_108 ?_
          refine ev_icmp_eq 69 dX7_spreadCounts_62 (by decide) (fun h15 => ?_) (fun h15 => ?_)
          · refine ev_iconst dX7_spreadCounts_69 ?_
            have e9 : v12 = false := hv12.trans (((if_pos h13)).trans (((if_pos h14)).trans (if_pos h15)))
            subst e9
            exact hJv12
          · refine ev_iconst dX7_spreadCounts_65 ?_
            refine ev_goto 70 dX7_spreadCounts_66 (by decide) ?_
            have e9 : v12 = true := hv12.trans (((if_pos h13)).trans (((if_pos h14)).trans (if_neg h15)))
            subst e9
            exact hJv12
def fX7_spreadCounts_b10 (stayServed : Bool) (v4 : Int) (μ : Mem) : Option ((Int × Mem) ⊕ (Mem)) :=
  if w32 v4 < w32 (i_shl (μ 25 3) (μ 25 2)) then
    gd (((μ 25 15) = 36 ∨ (μ 25 15) = 37)) <|
    lt (μ 25 15).toNat fun r7 =>
    lt (fX11_at r7 v4 μ) fun v8 =>
    (loopN (fun s => fX7_spreadCounts_b30 stayServed v4 v8 s.1 s.2) FU (1, μ)).bind fun q23 =>
    some (.inl ((v4 + 1), q23))
  else
    some (.inr μ)
set_option maxRecDepth 4000 in
theorem tX7_spreadCounts_b10 (hS : Sd M K P L) (hc : CIn P 1 39) (stayServed : Bool) (v4 : Int) (μ : Mem)  {o : (Int × Mem) ⊕ (Mem)} (hf : fX7_spreadCounts_b10 stayServed v4 μ = some o) (hr : (Sum.elim (fun s : Int × Mem => Ev l D cy g K yX7_spreadCounts cX7_spreadCounts 7 none (rmd 4 0 0) (MX D cy g K (rmd 4 0 0) Φ) 0 0 M x (L s.2) 10 [(0, vr g 25), (1, vb stayServed), (2, vi s.1)] []) (fun e : Mem => Ev l D cy g K yX7_spreadCounts cX7_spreadCounts 7 none (rmd 4 0 0) (MX D cy g K (rmd 4 0 0) Φ) 0 0 M x (L e) 122 [(0, vr g 25)] [])) o) : Ev l D cy g K yX7_spreadCounts cX7_spreadCounts 7 none (rmd 4 0 0) (MX D cy g K (rmd 4 0 0) Φ) 0 0 M x (L μ) 10 [(0, vr g 25), (1, vb stayServed), (2, vi v4)] [] := by
  unfold fX7_spreadCounts_b10 at hf
  refine ev_iload_n dX7_spreadCounts_10 2 rfl ?_
  refine ev_aload_n dX7_spreadCounts_11 0 rfl ?_
  refine cl_V1 (As := []) (st := [vi v4]) miX7_all (tX7_all hS (hc.w rfl rfl) μ (o := (i_shl (μ 25 3) (μ 25 2))) rfl) dX7_spreadCounts_12 lkX7_186 inX7_all rfl (hS.lt (hc 25 rfl)) rfl ⟨rfl, rfl⟩ ⟨⟨Nat.le_of_ble_eq_true rfl, Nat.le_of_ble_eq_true rfl⟩, Nat.zero_le _, Nat.zero_le _⟩ (Nat.le_of_ble_eq_true rfl) ?_
  refine ev_icmp_ge 122 dX7_spreadCounts_15 (by decide) (fun h5 => ?_) (fun h5 => ?_)
  · rw [if_neg h5] at hf
    obtain rfl := Option.some.inj hf
    refine ev_sub [0] rfl ?_
    exact hr
  · rw [if_pos h5] at hf
    refine ev_aload_n dX7_spreadCounts_18 0 rfl ?_
    obtain ⟨g6, hf⟩ := gd_elim hf
    refine ev_getR 15 dX7_spreadCounts_19 (hS.lt (hc 25 rfl)) rfl (hS.mem _ (hc 25 rfl)) (hS.K0 (hc 25 rfl) rfl) (dy_Ct g6).2 ciX7 (by decide) rfl flX7_42 ?_
    obtain ⟨r7, hr7, hf⟩ := lt_elim hf
    refine ev_rn (congrArg (vr g) hr7) ?_
    have kr7 : isCt r7 := by rw [hr7]; exact (dy_Ct g6).1
    refine ev_iload_n dX7_spreadCounts_22 2 rfl ?_
    refine cl_N1 (As := [vr g r7, vi v4]) (st := []) (host := "HotCakes") miX11_at (tX11_at hS (hc.w rfl rfl) r7 v4 μ (⟨(hc _ (inR_w (i_Ct kr7) rfl rfl)), (ia_of (s_Ct kr7))⟩) (o := (fX11_at r7 v4 μ)) rfl) dX7_spreadCounts_23 (by decide) stX11_at rfl ⟨⟨Nat.le_of_ble_eq_true rfl, Nat.le_of_ble_eq_true rfl⟩, Nat.zero_le _, Nat.zero_le _⟩ (Nat.le_of_ble_eq_true rfl) ?_
    obtain ⟨v8, hv8, hf⟩ := lt_elim hf
    refine ev_rni hv8 ?_
    refine ev_istore_n (al2 := [(3, vi v8), (0, vr g 25), (1, vb stayServed), (2, vi v4)]) dX7_spreadCounts_26 3 rfl (by decide) rfl ?_
    refine ev_iconst dX7_spreadCounts_27 ?_
    refine ev_istore (al2 := [(4, vi 1), (3, vi v8), (0, vr g 25), (1, vb stayServed), (2, vi v4)]) dX7_spreadCounts_28 (by decide) rfl ?_
    obtain ⟨q23, hq23, hf⟩ := Option.bind_eq_some_iff.mp hf
    refine ev_sub [2, 3, 4, 1, 0] rfl ?_
    refine loop_ev (H := (fun s : Int × Mem => Ev l D cy g K yX7_spreadCounts cX7_spreadCounts 7 none (rmd 4 0 0) (MX D cy g K (rmd 4 0 0) Φ) 0 0 M x (L s.2) 30 [(0, vr g 25), (1, vb stayServed), (2, vi v4), (3, vi v8), (4, vi s.1)] [])) (Hx := (fun e : Mem => Ev l D cy g K yX7_spreadCounts cX7_spreadCounts 7 none (rmd 4 0 0) (MX D cy g K (rmd 4 0 0) Φ) 0 0 M x (L e) 116 [(0, vr g 25), (1, vb stayServed), (2, vi v4)] [])) (fun s o hb hr => tX7_spreadCounts_b30 hS hc stayServed v4 v8 s.1 s.2 hb hr) FU _ _ hq23 ?_
    show Ev l D cy g K yX7_spreadCounts cX7_spreadCounts 7 none (rmd 4 0 0) (MX D cy g K (rmd 4 0 0) Φ) 0 0 M x (L q23) 116 [(0, vr g 25), (1, vb stayServed), (2, vi v4)] []
    refine ev_iinc (al2 := [(2, vi (v4 + 1)), (0, vr g 25), (1, vb stayServed)]) dX7_spreadCounts_116 2 rfl (by decide) rfl ?_
    refine ev_goto 10 dX7_spreadCounts_119 (by decide) ?_
    obtain rfl := Option.some.inj hf
    refine ev_sub [1, 2, 0] rfl ?_
    exact hr
def fX7_spreadCounts (stayServed : Bool) (μ : Mem) : Option (Mem) :=
  gd (((μ 25 16) = 36 ∨ (μ 25 16) = 37)) <|
  lt (μ 25 16).toNat fun r2 =>
  lt (fill3 μ r2 3840 0) fun μ3 =>
  (loopN (fun s => fX7_spreadCounts_b10 stayServed s.1 s.2) FU (0, μ3)).bind fun q24 =>
  gd (((q24 25 15) = 36 ∨ (q24 25 15) = 37)) <|
  lt (q24 25 15).toNat fun r26 =>
  gd (((q24 25 16) = 36 ∨ (q24 25 16) = 37)) <|
  lt (q24 25 16).toNat fun r28 =>
  lt (upd2 q24 25 15 (r28 : Int)) fun μ29 =>
  lt (upd2 μ29 25 16 (r26 : Int)) fun μ30 =>
  some (μ30)
set_option maxRecDepth 4000 in
theorem eX7_spreadCounts (hS : Sd M K P L) (hc : CIn P 1 39) (stayServed : Bool) (μ : Mem)  {o : Mem} (hf : fX7_spreadCounts stayServed μ = some o) (hr : (fun o : Mem => Φ none M x (L o)) o) : Ev l D cy g K yX7_spreadCounts cX7_spreadCounts 7 none (rmd 4 0 0) (MX D cy g K (rmd 4 0 0) Φ) 0 0 M x (L μ) 0 [(0, vr g 25), (1, vb stayServed)] [] := by
  unfold fX7_spreadCounts at hf
  refine ev_aload_n dX7_spreadCounts_0 0 rfl ?_
  obtain ⟨g1, hf⟩ := gd_elim hf
  refine ev_getR 16 dX7_spreadCounts_1 (hS.lt (hc 25 rfl)) rfl (hS.mem _ (hc 25 rfl)) (hS.K0 (hc 25 rfl) rfl) (dy_Ct g1).2 ciX7 (by decide) rfl flX7_45 ?_
  obtain ⟨r2, hr2, hf⟩ := lt_elim hf
  refine ev_rn (congrArg (vr g) hr2) ?_
  have kr2 : isCt r2 := by rw [hr2]; exact (dy_Ct g1).1
  refine ev_iconst dX7_spreadCounts_4 ?_
  obtain ⟨μ3, hμ3, hf⟩ := lt_elim hf
  refine cl_S0 (As := [vr g r2, vi 0]) (st := []) miJ7_fill_53178 (tJ7_fill_53178 (o := μ3) hS r2 0 μ ⟨(hc _ (inR_w (i_Ct kr2) rfl rfl)), (ia_of (s_Ct kr2))⟩ (al_of (s_Ct kr2) (by decide)) (by rw [show alen r2 = 3840 from (by unfold alen; rw [(s_Ct kr2)])]; exact hμ3.symm)) dX7_spreadCounts_5 lkX7_180 stJ7_fill_53178 rfl ⟨⟨Nat.le_of_ble_eq_true rfl, Nat.le_of_ble_eq_true rfl⟩, Nat.zero_le _, Nat.zero_le _⟩ (Nat.le_of_ble_eq_true rfl) ?_
  refine ev_iconst dX7_spreadCounts_8 ?_
  refine ev_istore_n (al2 := [(2, vi 0), (0, vr g 25), (1, vb stayServed)]) dX7_spreadCounts_9 2 rfl (by decide) rfl ?_
  obtain ⟨q24, hq24, hf⟩ := Option.bind_eq_some_iff.mp hf
  refine ev_sub [1, 2, 0] rfl ?_
  refine loop_ev (H := (fun s : Int × Mem => Ev l D cy g K yX7_spreadCounts cX7_spreadCounts 7 none (rmd 4 0 0) (MX D cy g K (rmd 4 0 0) Φ) 0 0 M x (L s.2) 10 [(0, vr g 25), (1, vb stayServed), (2, vi s.1)] [])) (Hx := (fun e : Mem => Ev l D cy g K yX7_spreadCounts cX7_spreadCounts 7 none (rmd 4 0 0) (MX D cy g K (rmd 4 0 0) Φ) 0 0 M x (L e) 122 [(0, vr g 25)] [])) (fun s o hb hr => tX7_spreadCounts_b10 hS hc stayServed s.1 s.2 hb hr) FU _ _ hq24 ?_
  show Ev l D cy g K yX7_spreadCounts cX7_spreadCounts 7 none (rmd 4 0 0) (MX D cy g K (rmd 4 0 0) Φ) 0 0 M x (L q24) 122 [(0, vr g 25)] []
  refine ev_aload_n dX7_spreadCounts_122 0 rfl ?_
  obtain ⟨g25, hf⟩ := gd_elim hf
  refine ev_getR 15 dX7_spreadCounts_123 (hS.lt (hc 25 rfl)) rfl (hS.mem _ (hc 25 rfl)) (hS.K0 (hc 25 rfl) rfl) (dy_Ct g25).2 ciX7 (by decide) rfl flX7_42 ?_
  obtain ⟨r26, hr26, hf⟩ := lt_elim hf
  refine ev_rn (congrArg (vr g) hr26) ?_
  have kr26 : isCt r26 := by rw [hr26]; exact (dy_Ct g25).1
  refine ev_astore_n (al2 := [(2, vr g r26), (0, vr g 25)]) dX7_spreadCounts_126 2 rfl (by decide) rfl ?_
  refine ev_aload_n dX7_spreadCounts_127 1 rfl ?_
  refine ev_aload_n dX7_spreadCounts_128 1 rfl ?_
  obtain ⟨g27, hf⟩ := gd_elim hf
  refine ev_getR 16 dX7_spreadCounts_129 (hS.lt (hc 25 rfl)) rfl (hS.mem _ (hc 25 rfl)) (hS.K0 (hc 25 rfl) rfl) (dy_Ct g27).2 ciX7 (by decide) rfl flX7_45 ?_
  obtain ⟨r28, hr28, hf⟩ := lt_elim hf
  refine ev_rn (congrArg (vr g) hr28) ?_
  have kr28 : isCt r28 := by rw [hr28]; exact (dy_Ct g27).1
  obtain ⟨μ29, hμ29, hf⟩ := lt_elim hf
  refine ev_putR 15 dX7_spreadCounts_132 (hS.lt (hc 25 rfl)) rfl ciX7 (by decide) (Or.inl rfl) rfl flX7_42 (hS.K0 (hc 25 rfl) rfl) (fun _ => ⟨rfl, rfl⟩) (hS.up (hc 25 rfl) hμ29) ?_
  refine ev_aload_n dX7_spreadCounts_135 1 rfl ?_
  refine ev_aload_n dX7_spreadCounts_136 0 rfl ?_
  obtain ⟨μ30, hμ30, hf⟩ := lt_elim hf
  refine ev_putR 16 dX7_spreadCounts_137 (hS.lt (hc 25 rfl)) rfl ciX7 (by decide) (Or.inl rfl) rfl flX7_45 (hS.K0 (hc 25 rfl) rfl) (fun _ => ⟨rfl, rfl⟩) (hS.up (hc 25 rfl) hμ30) ?_
  obtain rfl := Option.some.inj hf
  exact ev_vret dX7_spreadCounts_140 rfl ⟨Nat.zero_le _, Nat.zero_le _⟩ hr
theorem tX7_spreadCounts (hS : Sd M K P L) (hc : CIn P 1 39) (stayServed : Bool) (μ : Mem) {o : Mem} (hf : fX7_spreadCounts stayServed μ = some o) : Cn l D cy g K K yX7_spreadCounts cX7_spreadCounts 7 none (rmd 4 0 0) [vr g 25, vb stayServed] M x (L μ) (PE none M x (L o)) :=
 Cn.of (by decide) (Nat.le_of_ble_eq_true rfl) (eX7_spreadCounts hS hc stayServed μ hf (PE_i _ _ _ _))
def fX7_countOf (stack : Int) (μ : Mem) : Option (Int) :=
  gd (((μ 25 15) = 36 ∨ (μ 25 15) = 37)) <|
  lt (μ 25 15).toNat fun r2 =>
  some ((fX11_at r2 stack μ))
set_option maxRecDepth 4000 in
theorem eX7_countOf (hS : Sd M K P L) (hc : CIn P 1 39) (stack : Int) (μ : Mem)  {o : Int} (hf : fX7_countOf stack μ = some o) (hr : (fun o : Int => Φ (some (vi o)) M x (L μ)) o) : Ev l D cy g K yX7_countOf cX7_countOf 2 (some .int) (rmd 2 0 0) (MX D cy g K (rmd 2 0 0) Φ) 0 0 M x (L μ) 0 [(0, vr g 25), (1, vi stack)] [] := by
  unfold fX7_countOf at hf
  refine ev_aload_n dX7_countOf_0 0 rfl ?_
  obtain ⟨g1, hf⟩ := gd_elim hf
  refine ev_getR 15 dX7_countOf_1 (hS.lt (hc 25 rfl)) rfl (hS.mem _ (hc 25 rfl)) (hS.K0 (hc 25 rfl) rfl) (dy_Ct g1).2 ciX7 (by decide) rfl flX7_42 ?_
  obtain ⟨r2, hr2, hf⟩ := lt_elim hf
  refine ev_rn (congrArg (vr g) hr2) ?_
  have kr2 : isCt r2 := by rw [hr2]; exact (dy_Ct g1).1
  refine ev_iload_n dX7_countOf_4 1 rfl ?_
  refine cl_N1 (As := [vr g r2, vi stack]) (st := []) (host := "HotCakes") miX11_at (tX11_at hS (hc.w rfl rfl) r2 stack μ (⟨(hc _ (inR_w (i_Ct kr2) rfl rfl)), (ia_of (s_Ct kr2))⟩) (o := (fX11_at r2 stack μ)) rfl) dX7_countOf_5 (by decide) stX11_at rfl ⟨⟨Nat.le_of_ble_eq_true rfl, Nat.le_of_ble_eq_true rfl⟩, Nat.zero_le _, Nat.zero_le _⟩ (Nat.le_of_ble_eq_true rfl) ?_
  obtain rfl := Option.some.inj hf
  exact ev_iret dX7_countOf_8 rfl ⟨Nat.zero_le _, Nat.zero_le _⟩ hr
theorem tX7_countOf (hS : Sd M K P L) (hc : CIn P 1 39) (stack : Int) (μ : Mem) {o : Int} (hf : fX7_countOf stack μ = some o) : Cn l D cy g K K yX7_countOf cX7_countOf 2 (some .int) (rmd 2 0 0) [vr g 25, vi stack] M x (L μ) (PE (some (vi o)) M x (L μ)) :=
 Cn.of (by decide) (Nat.le_of_ble_eq_true rfl) (eX7_countOf hS hc stack μ hf (PE_i _ _ _ _))
def fX11_chance_b46 (times : Int) (ever : Bool) (v1 : Int) (v6 : Int) (v7 : Int) (μ : Mem) : Option ((Int × Int × Mem) ⊕ (Int × Mem)) :=
  if w32 v7 < w32 times then
    lt (v6 * (w32 v1)) fun v9 =>
    (fX7_spreadCounts ever μ).bind fun μ10 =>
    some (.inl (v9, (v7 + 1), μ10))
  else
    some (.inr (v6, μ))
set_option maxRecDepth 4000 in
theorem tX11_chance_b46 (hS : Sd M K P L) (hc : CIn P 0 75) (times : Int) (ever : Bool) (v1 : Int) (v6 : Int) (v7 : Int) (μ : Mem)  {o : (Int × Int × Mem) ⊕ (Int × Mem)} (hf : fX11_chance_b46 times ever v1 v6 v7 μ = some o) (hr : (Sum.elim (fun s : Int × Int × Mem => Ev l D cy g K yX11_chance cX11_chance 7 (some .int) (rmd 5 0 0) (MX D cy g K (rmd 5 0 0) Φ) 0 0 M x (L s.2.2) 46 [(0, vr g 0), (1, vi times), (2, vb ever), (3, vi v1), (4, vl s.1), (6, vi s.2.1)] []) (fun e : Int × Mem => Ev l D cy g K yX11_chance cX11_chance 7 (some .int) (rmd 5 0 0) (MX D cy g K (rmd 5 0 0) Φ) 0 0 M x (L e.2) 73 [(0, vr g 0), (4, vl e.1)] [])) o) : Ev l D cy g K yX11_chance cX11_chance 7 (some .int) (rmd 5 0 0) (MX D cy g K (rmd 5 0 0) Φ) 0 0 M x (L μ) 46 [(0, vr g 0), (1, vi times), (2, vb ever), (3, vi v1), (4, vl v6), (6, vi v7)] [] := by
  unfold fX11_chance_b46 at hf
  refine ev_iload dX11_chance_46 5 rfl ?_
  refine ev_iload_n dX11_chance_48 1 rfl ?_
  refine ev_icmp_ge 73 dX11_chance_49 (by decide) (fun h8 => ?_) (fun h8 => ?_)
  · rw [if_neg h8] at hf
    obtain rfl := Option.some.inj hf
    refine ev_sub [0, 4] rfl ?_
    exact hr
  · rw [if_pos h8] at hf
    refine ev_lload dX11_chance_52 4 rfl ?_
    refine ev_iload_n dX11_chance_54 3 rfl ?_
    refine ev_i2l dX11_chance_55 ?_
    refine ev_lmul dX11_chance_56 ?_
    obtain ⟨v9, hv9, hf⟩ := lt_elim hf
    refine ev_rnl hv9 ?_
    refine ev_lstore (al2 := [(4, vl v9), (0, vr g 0), (1, vi times), (2, vb ever), (3, vi v1), (6, vi v7)]) dX11_chance_57 (by decide) rfl ?_
    refine ev_aload_n dX11_chance_59 1 rfl ?_
    refine ev_getK 4 dX11_chance_60 (hS.lt (hc 0 rfl)) rfl (hS.K1 (hc 0 rfl) rfl) ciX11 (by decide) rfl flX11_40 ?_
    refine ev_iload_n dX11_chance_63 3 rfl ?_
    obtain ⟨μ10, hμ10, hf⟩ := Option.bind_eq_some_iff.mp hf
    refine cl_V0 (As := [vb ever]) (st := []) miX7_spreadCounts (tX7_spreadCounts hS (hc.w rfl rfl) ever μ hμ10) dX11_chance_64 lkX11_305 inX7_spreadCounts rfl (hS.lt (hc 25 rfl)) rfl ⟨rfl, rfl⟩ ⟨⟨Nat.le_of_ble_eq_true rfl, Nat.le_of_ble_eq_true rfl⟩, Nat.zero_le _, Nat.zero_le _⟩ (Nat.le_of_ble_eq_true rfl) ?_
    refine ev_iinc (al2 := [(6, vi (v7 + 1)), (4, vl v9), (0, vr g 0), (1, vi times), (2, vb ever), (3, vi v1)]) dX11_chance_67 5 rfl (by decide) rfl ?_
    refine ev_goto 46 dX11_chance_70 (by decide) ?_
    obtain rfl := Option.some.inj hf
    refine ev_sub [2, 3, 4, 5, 1, 0] rfl ?_
    exact hr
def fX11_chance (times : Int) (ever : Bool) (μ : Mem) : Option (Int × Mem) :=
  lt (μ 25 1) fun v1 =>
  if w32 times < w32 1 then
    some (((-1), μ))
  else
    if w32 times ≤ w32 6 then
      if w32 v1 < w32 1 then
        some (((-1), μ))
      else
        (fX7_startCounts (μ 41 1) μ).bind fun μ5 =>
        (loopN (fun s => fX11_chance_b46 times ever v1 s.1 s.2.1 s.2.2) FU (1, 0, μ5)).bind fun q11 =>
        if w64 q11.1 ≤ w64 0 then
          some (((-1), q11.2))
        else
          (fX7_countOf (q11.2 25 4) q11.2).bind fun v13 =>
          gd (¬ w64 q11.1 = 0) <|
          some (((l_2i (l_div ((w32 v13) * 1000000) q11.1)), q11.2))
    else
      some (((-1), μ))
set_option maxRecDepth 4000 in
theorem eX11_chance (hS : Sd M K P L) (hc : CIn P 0 75) (times : Int) (ever : Bool) (μ : Mem)  {o : Int × Mem} (hf : fX11_chance times ever μ = some o) (hr : (fun o : Int × Mem => Φ (some (vi o.1)) M x (L o.2)) o) : Ev l D cy g K yX11_chance cX11_chance 7 (some .int) (rmd 5 0 0) (MX D cy g K (rmd 5 0 0) Φ) 0 0 M x (L μ) 0 [(0, vr g 0), (1, vi times), (2, vb ever)] [] := by
  unfold fX11_chance at hf
  refine ev_aload_n dX11_chance_0 0 rfl ?_
  refine ev_getK 4 dX11_chance_1 (hS.lt (hc 0 rfl)) rfl (hS.K1 (hc 0 rfl) rfl) ciX11 (by decide) rfl flX11_40 ?_
  refine cl_V1 (As := []) (st := []) miX7_cakes (tX7_cakes hS (hc.w rfl rfl) μ (o := (μ 25 1)) rfl) dX11_chance_4 lkX11_133 inX7_cakes rfl (hS.lt (hc 25 rfl)) rfl ⟨rfl, rfl⟩ ⟨⟨Nat.le_of_ble_eq_true rfl, Nat.le_of_ble_eq_true rfl⟩, Nat.zero_le _, Nat.zero_le _⟩ (Nat.le_of_ble_eq_true rfl) ?_
  obtain ⟨v1, hv1, hf⟩ := lt_elim hf
  refine ev_rni hv1 ?_
  refine ev_istore_n (al2 := [(3, vi v1), (0, vr g 0), (1, vi times), (2, vb ever)]) dX11_chance_7 3 rfl (by decide) rfl ?_
  refine ev_iload_n dX11_chance_8 2 rfl ?_
  refine ev_iconst dX11_chance_9 ?_
  refine ev_icmp_lt 24 dX11_chance_10 (by decide) (fun h2 => ?_) (fun h2 => ?_)
  · rw [if_pos h2] at hf
    refine ev_iconst dX11_chance_24 ?_
    obtain rfl := Option.some.inj hf
    exact ev_iret dX11_chance_25 rfl ⟨Nat.zero_le _, Nat.zero_le _⟩ hr
  · rw [if_neg h2] at hf
    refine ev_iload_n dX11_chance_13 2 rfl ?_
    refine ev_bipush dX11_chance_14 (by decide) ?_
    refine ev_icmp_gt 24 dX11_chance_16 (by decide) (fun h3 => ?_) (fun h3 => ?_)
    · rw [if_neg h3] at hf
      refine ev_iconst dX11_chance_24 ?_
      obtain rfl := Option.some.inj hf
      exact ev_iret dX11_chance_25 rfl ⟨Nat.zero_le _, Nat.zero_le _⟩ hr
    · rw [if_pos h3] at hf
      refine ev_iload_n dX11_chance_19 0 rfl ?_
      refine ev_iconst dX11_chance_20 ?_
      refine ev_icmp_ge 26 dX11_chance_21 (by decide) (fun h4 => ?_) (fun h4 => ?_)
      · rw [if_neg h4] at hf
        refine ev_lconst 1 dX11_chance_26 rfl ?_
        refine ev_lstore (al2 := [(4, vl 1), (3, vi v1), (0, vr g 0), (1, vi times), (2, vb ever)]) dX11_chance_27 (by decide) rfl ?_
        refine ev_aload_n dX11_chance_29 2 rfl ?_
        refine ev_getK 4 dX11_chance_30 (hS.lt (hc 0 rfl)) rfl (hS.K1 (hc 0 rfl) rfl) ciX11 (by decide) rfl flX11_40 ?_
        refine ev_aload_n dX11_chance_33 2 rfl ?_
        refine ev_getK 7 dX11_chance_34 (hS.lt (hc 0 rfl)) rfl (hS.K1 (hc 0 rfl) rfl) ciX11 (by decide) rfl flX11_58 ?_
        refine cl_V1 (As := []) (st := [vr g 25]) miX5_stack (tX5_stack hS (hc.w rfl rfl) 41 μ (by simp [isMo]) (o := (μ 41 1)) rfl) dX11_chance_37 lkX11_167 inX5_stack rfl (hS.lt (hc 41 rfl)) rfl ⟨rfl, rfl⟩ ⟨⟨Nat.le_of_ble_eq_true rfl, Nat.le_of_ble_eq_true rfl⟩, Nat.zero_le _, Nat.zero_le _⟩ (Nat.le_of_ble_eq_true rfl) ?_
        obtain ⟨μ5, hμ5, hf⟩ := Option.bind_eq_some_iff.mp hf
        refine cl_V0 (As := [vi (μ 41 1)]) (st := []) miX7_startCounts (tX7_startCounts hS (hc.w rfl rfl) (μ 41 1) μ hμ5) dX11_chance_40 lkX11_302 inX7_startCounts rfl (hS.lt (hc 25 rfl)) rfl ⟨rfl, rfl⟩ ⟨⟨Nat.le_of_ble_eq_true rfl, Nat.le_of_ble_eq_true rfl⟩, Nat.zero_le _, Nat.zero_le _⟩ (Nat.le_of_ble_eq_true rfl) ?_
        refine ev_iconst dX11_chance_43 ?_
        refine ev_istore (al2 := [(6, vi 0), (4, vl 1), (3, vi v1), (0, vr g 0), (1, vi times), (2, vb ever)]) dX11_chance_44 (by decide) rfl ?_
        obtain ⟨q11, hq11, hf⟩ := Option.bind_eq_some_iff.mp hf
        refine ev_sub [3, 4, 5, 2, 1, 0] rfl ?_
        refine loop_ev (H := (fun s : Int × Int × Mem => Ev l D cy g K yX11_chance cX11_chance 7 (some .int) (rmd 5 0 0) (MX D cy g K (rmd 5 0 0) Φ) 0 0 M x (L s.2.2) 46 [(0, vr g 0), (1, vi times), (2, vb ever), (3, vi v1), (4, vl s.1), (6, vi s.2.1)] [])) (Hx := (fun e : Int × Mem => Ev l D cy g K yX11_chance cX11_chance 7 (some .int) (rmd 5 0 0) (MX D cy g K (rmd 5 0 0) Φ) 0 0 M x (L e.2) 73 [(0, vr g 0), (4, vl e.1)] [])) (fun s o hb hr => tX11_chance_b46 hS hc times ever v1 s.1 s.2.1 s.2.2 hb hr) FU _ _ hq11 ?_
        show Ev l D cy g K yX11_chance cX11_chance 7 (some .int) (rmd 5 0 0) (MX D cy g K (rmd 5 0 0) Φ) 0 0 M x (L q11.2) 73 [(0, vr g 0), (4, vl q11.1)] []
        refine ev_lload dX11_chance_73 1 rfl ?_
        refine ev_lconst 0 dX11_chance_75 rfl ?_
        refine ev_lcmp_le 106 dX11_chance_76 dX11_chance_77 (by decide) (fun h12 => ?_) (fun h12 => ?_)
        · rw [if_pos h12] at hf
          refine ev_iconst dX11_chance_106 ?_
          obtain rfl := Option.some.inj hf
          exact ev_iret dX11_chance_107 rfl ⟨Nat.zero_le _, Nat.zero_le _⟩ hr
        · rw [if_neg h12] at hf
          refine ev_aload_n dX11_chance_80 0 rfl ?_
          refine ev_getK 4 dX11_chance_81 (hS.lt (hc 0 rfl)) rfl (hS.K1 (hc 0 rfl) rfl) ciX11 (by decide) rfl flX11_40 ?_
          refine ev_aload_n dX11_chance_84 0 rfl ?_
          refine ev_getK 4 dX11_chance_85 (hS.lt (hc 0 rfl)) rfl (hS.K1 (hc 0 rfl) rfl) ciX11 (by decide) rfl flX11_40 ?_
          refine cl_V1 (As := []) (st := [vr g 25]) miX7_goal (tX7_goal hS (hc.w rfl rfl) q11.2 (o := (q11.2 25 4)) rfl) dX11_chance_88 lkX11_208 inX7_goal rfl (hS.lt (hc 25 rfl)) rfl ⟨rfl, rfl⟩ ⟨⟨Nat.le_of_ble_eq_true rfl, Nat.le_of_ble_eq_true rfl⟩, Nat.zero_le _, Nat.zero_le _⟩ (Nat.le_of_ble_eq_true rfl) ?_
          obtain ⟨v13, hv13, hf⟩ := Option.bind_eq_some_iff.mp hf
          refine cl_V1 (As := [vi (q11.2 25 4)]) (st := []) miX7_countOf (tX7_countOf hS (hc.w rfl rfl) (q11.2 25 4) q11.2 hv13) dX11_chance_91 lkX11_309 inX7_countOf rfl (hS.lt (hc 25 rfl)) rfl ⟨rfl, rfl⟩ ⟨⟨Nat.le_of_ble_eq_true rfl, Nat.le_of_ble_eq_true rfl⟩, Nat.zero_le _, Nat.zero_le _⟩ (Nat.le_of_ble_eq_true rfl) ?_
          refine ev_i2l dX11_chance_94 ?_
          refine ev_ldc2 1000000 dX11_chance_95 klX11_312 (by decide) ?_
          refine ev_lmul dX11_chance_98 ?_
          refine ev_lload dX11_chance_99 1 rfl ?_
          obtain ⟨g14, hf⟩ := gd_elim hf
          refine ev_ldiv dX11_chance_101 g14 ?_
          refine ev_l2i dX11_chance_102 ?_
          refine ev_goto 107 dX11_chance_103 (by decide) ?_
          obtain rfl := Option.some.inj hf
          exact ev_iret dX11_chance_107 rfl ⟨Nat.zero_le _, Nat.zero_le _⟩ hr
      · rw [if_pos h4] at hf
        refine ev_iconst dX11_chance_24 ?_
        obtain rfl := Option.some.inj hf
        exact ev_iret dX11_chance_25 rfl ⟨Nat.zero_le _, Nat.zero_le _⟩ hr
theorem tX11_chance (hS : Sd M K P L) (hc : CIn P 0 75) (times : Int) (ever : Bool) (μ : Mem) {o : Int × Mem} (hf : fX11_chance times ever μ = some o) : Cn l D cy g K K yX11_chance cX11_chance 7 (some .int) (rmd 5 0 0) [vr g 0, vi times, vb ever] M x (L μ) (PE (some (vi o.1)) M x (L o.2)) :=
 Cn.of (by decide) (Nat.le_of_ble_eq_true rfl) (eX11_chance hS hc times ever μ hf (PE_i _ _ _ _))
def fX11_isDigit (number : Int) : Bool :=
  lt (if w32 number < 0 then
      false
    else
      if w32 number ≤ w32 9 then
        true
      else
        false) fun v1 =>
  v1
set_option maxRecDepth 4000 in
theorem eX11_isDigit  (number : Int) (μ : Mem)  {o : Bool} (hf : fX11_isDigit number = o) (hr : (fun o : Bool => Φ (some (vb o)) M x μ) o) : Ev l D cy g K yX11_isDigit cX11_isDigit 1 (some .boolean) (rmd 1 0 0) (MX D cy g K (rmd 1 0 0) Φ) 0 0 M x μ 0 [(0, vi number)] [] := by
  unfold fX11_isDigit at hf
  refine ev_iload_n dX11_isDigit_0 0 rfl ?_
  obtain ⟨v1, hv1, hf⟩ := lt_elim hf
  have hJv1 : Ev l D cy g K yX11_isDigit cX11_isDigit 1 (some .boolean) (rmd 1 0 0) (MX D cy g K (rmd 1 0 0) Φ) 0 0 M x μ 15 [(0, vi number)] [vb v1] := by
    obtain rfl := hf
    exact ev_bret (b := v1) dX11_isDigit_15 rfl ⟨Nat.zero_le _, Nat.zero_le _⟩ hr
  refine ev_if_lt 14 dX11_isDigit_1 (by decide) (fun h2 => ?_) (fun h2 => ?_)
  · refine ev_iconst dX11_isDigit_14 ?_
    have e9 : v1 = false := hv1.trans ((if_pos h2))
    subst e9
    exact hJv1
  · refine ev_iload_n dX11_isDigit_4 0 rfl ?_
    refine ev_bipush dX11_isDigit_5 (by decide) ?_
    refine ev_icmp_gt 14 dX11_isDigit_7 (by decide) (fun h3 => ?_) (fun h3 => ?_)
    · refine ev_iconst dX11_isDigit_14 ?_
      have e9 : v1 = false := hv1.trans (((if_neg h2)).trans (if_neg h3))
      subst e9
      exact hJv1
    · refine ev_iconst dX11_isDigit_10 ?_
      refine ev_goto 15 dX11_isDigit_11 (by decide) ?_
      have e9 : v1 = true := hv1.trans (((if_neg h2)).trans (if_pos h3))
      subst e9
      exact hJv1
theorem tX11_isDigit (number : Int) (μ : Mem) {o : Bool} (hf : fX11_isDigit number = o) : Cn l D cy g K K yX11_isDigit cX11_isDigit 1 (some .boolean) (rmd 1 0 0) [vi number] M x μ (PE (some (vb o)) M x μ) :=
 Cn.of (by decide) (Nat.le_of_ble_eq_true rfl) (eX11_isDigit number μ hf (PE_i _ _ _ _))
def fX11_gain (mine : Int) (others : Int) (lose : Int) (turns : Int) (waits : Int) : Int :=
  if w32 mine = w32 1 then
    lt (if w32 others = w32 1 then
        (-lose)
      else
        turns) fun v4 =>
    v4
  else
    lt (if w32 others = w32 1 then
        waits
      else
        0) fun v2 =>
    v2
set_option maxRecDepth 4000 in
theorem eX11_gain  (mine : Int) (others : Int) (lose : Int) (turns : Int) (waits : Int) (μ : Mem)  {o : Int} (hf : fX11_gain mine others lose turns waits = o) (hr : (fun o : Int => Φ (some (vi o)) M x μ) o) : Ev l D cy g K yX11_gain cX11_gain 5 (some .int) (rmd 1 0 0) (MX D cy g K (rmd 1 0 0) Φ) 0 0 M x μ 0 [(0, vi mine), (1, vi others), (2, vi lose), (3, vi turns), (4, vi waits)] [] := by
  unfold fX11_gain at hf
  refine ev_iload_n dX11_gain_0 0 rfl ?_
  refine ev_iconst dX11_gain_1 ?_
  refine ev_icmp_ne 17 dX11_gain_2 (by decide) (fun h1 => ?_) (fun h1 => ?_)
  · rw [if_neg h1] at hf
    refine ev_iload_n dX11_gain_17 1 rfl ?_
    refine ev_iconst dX11_gain_18 ?_
    obtain ⟨v2, hv2, hf⟩ := lt_elim hf
    have hJv2 : Ev l D cy g K yX11_gain cX11_gain 5 (some .int) (rmd 1 0 0) (MX D cy g K (rmd 1 0 0) Φ) 0 0 M x μ 28 [(0, vi mine), (1, vi others), (2, vi lose), (3, vi turns), (4, vi waits)] [vi v2] := by
      obtain rfl := hf
      exact ev_iret dX11_gain_28 rfl ⟨Nat.zero_le _, Nat.zero_le _⟩ hr
    refine ev_icmp_ne 27 dX11_gain_19 (by decide) (fun h3 => ?_) (fun h3 => ?_)
    · refine ev_iconst dX11_gain_27 ?_
      have e9 : v2 = 0 := hv2.trans ((if_neg h3))
      subst e9
      exact hJv2
    · refine ev_iload dX11_gain_22 4 rfl ?_
      refine ev_goto 28 dX11_gain_24 (by decide) ?_
      have e9 : v2 = waits := hv2.trans ((if_pos h3))
      subst e9
      exact hJv2
  · rw [if_pos h1] at hf
    refine ev_iload_n dX11_gain_5 1 rfl ?_
    refine ev_iconst dX11_gain_6 ?_
    obtain ⟨v4, hv4, hf⟩ := lt_elim hf
    have hJv4 : Ev l D cy g K yX11_gain cX11_gain 5 (some .int) (rmd 1 0 0) (MX D cy g K (rmd 1 0 0) Φ) 0 0 M x μ 16 [(0, vi mine), (1, vi others), (2, vi lose), (3, vi turns), (4, vi waits)] [vi v4] := by
      obtain rfl := hf
      exact ev_iret dX11_gain_16 rfl ⟨Nat.zero_le _, Nat.zero_le _⟩ hr
    refine ev_icmp_ne 15 dX11_gain_7 (by decide) (fun h5 => ?_) (fun h5 => ?_)
    · refine ev_iload_n dX11_gain_15 3 rfl ?_
      have e9 : v4 = turns := hv4.trans ((if_neg h5))
      subst e9
      exact hJv4
    · refine ev_iload_n dX11_gain_10 2 rfl ?_
      refine ev_ineg dX11_gain_11 ?_
      refine ev_goto 16 dX11_gain_12 (by decide) ?_
      have e9 : v4 = (-lose) := hv4.trans ((if_pos h5))
      subst e9
      exact hJv4
theorem tX11_gain (mine : Int) (others : Int) (lose : Int) (turns : Int) (waits : Int) (μ : Mem) {o : Int} (hf : fX11_gain mine others lose turns waits = o) : Cn l D cy g K K yX11_gain cX11_gain 5 (some .int) (rmd 1 0 0) [vi mine, vi others, vi lose, vi turns, vi waits] M x μ (PE (some (vi o)) M x μ) :=
 Cn.of (by decide) (Nat.le_of_ble_eq_true rfl) (eX11_gain mine others lose turns waits μ hf (PE_i _ _ _ _))
def fX11_nextState (state : Int) : Int :=
  (l_rem ((state * 1103515245) + 12345) 2147483648)
set_option maxRecDepth 4000 in
theorem eX11_nextState  (state : Int) (μ : Mem)  {o : Int} (hf : fX11_nextState state = o) (hr : (fun o : Int => Φ (some (vl o)) M x μ) o) : Ev l D cy g K yX11_nextState cX11_nextState 2 (some .long) (rmd 1 0 0) (MX D cy g K (rmd 1 0 0) Φ) 0 0 M x μ 0 [(0, vl state)] [] := by
  unfold fX11_nextState at hf
  refine ev_lload_n dX11_nextState_0 0 rfl ?_
  refine ev_ldc2 1103515245 dX11_nextState_1 klX11_351 (by decide) ?_
  refine ev_lmul dX11_nextState_4 ?_
  refine ev_ldc2 12345 dX11_nextState_5 klX11_353 (by decide) ?_
  refine ev_ladd dX11_nextState_8 ?_
  refine ev_ldc2 2147483648 dX11_nextState_9 klX11_355 (by decide) ?_
  refine ev_lrem dX11_nextState_12 (by decide) ?_
  obtain rfl := hf
  exact ev_lret dX11_nextState_13 rfl ⟨Nat.zero_le _, Nat.zero_le _⟩ hr
theorem tX11_nextState (state : Int) (μ : Mem) {o : Int} (hf : fX11_nextState state = o) : Cn l D cy g K K yX11_nextState cX11_nextState 2 (some .long) (rmd 1 0 0) [vl state] M x μ (PE (some (vl o)) M x μ) :=
 Cn.of (by decide) (Nat.le_of_ble_eq_true rfl) (eX11_nextState state μ hf (PE_i _ _ _ _))
def fX11_drawBelow (state : Int) (below : Int) : Option (Int) :=
  if w32 below ≤ 0 then
    some (0)
  else
    gd (¬ w64 (w32 below) = 0) <|
    some ((l_2i (l_rem (l_div state 65536) (w32 below))))
set_option maxRecDepth 4000 in
theorem eX11_drawBelow  (state : Int) (below : Int) (μ : Mem)  {o : Int} (hf : fX11_drawBelow state below = some o) (hr : (fun o : Int => Φ (some (vi o)) M x μ) o) : Ev l D cy g K yX11_drawBelow cX11_drawBelow 3 (some .int) (rmd 1 0 0) (MX D cy g K (rmd 1 0 0) Φ) 0 0 M x μ 0 [(0, vl state), (2, vi below)] [] := by
  unfold fX11_drawBelow at hf
  refine ev_iload_n dX11_drawBelow_0 1 rfl ?_
  refine ev_if_le 16 dX11_drawBelow_1 (by decide) (fun h1 => ?_) (fun h1 => ?_)
  · rw [if_pos h1] at hf
    refine ev_iconst dX11_drawBelow_16 ?_
    obtain rfl := Option.some.inj hf
    exact ev_iret dX11_drawBelow_17 rfl ⟨Nat.zero_le _, Nat.zero_le _⟩ hr
  · rw [if_neg h1] at hf
    refine ev_lload_n dX11_drawBelow_4 0 rfl ?_
    refine ev_ldc2 65536 dX11_drawBelow_5 klX11_357 (by decide) ?_
    refine ev_ldiv dX11_drawBelow_8 (by decide) ?_
    refine ev_iload_n dX11_drawBelow_9 1 rfl ?_
    refine ev_i2l dX11_drawBelow_10 ?_
    obtain ⟨g2, hf⟩ := gd_elim hf
    refine ev_lrem dX11_drawBelow_11 g2 ?_
    refine ev_l2i dX11_drawBelow_12 ?_
    refine ev_goto 17 dX11_drawBelow_13 (by decide) ?_
    obtain rfl := Option.some.inj hf
    exact ev_iret dX11_drawBelow_17 rfl ⟨Nat.zero_le _, Nat.zero_le _⟩ hr
theorem tX11_drawBelow (state : Int) (below : Int) (μ : Mem) {o : Int} (hf : fX11_drawBelow state below = some o) : Cn l D cy g K K yX11_drawBelow cX11_drawBelow 3 (some .int) (rmd 1 0 0) [vl state, vi below] M x μ (PE (some (vi o)) M x μ) :=
 Cn.of (by decide) (Nat.le_of_ble_eq_true rfl) (eX11_drawBelow state below μ hf (PE_i _ _ _ _))
def fX11_mornings_j160 (seed : Int) (turns : Int) (what : Int) (v23 : Int) (v24 : Int) (v25 : Int) (v26 : Int) (v27 : Int) (v28 : Int) (μ : Mem) : Option ((Int × Int × Int × Int × Int × Int) ⊕ (Int × Int × Int)) :=
  if w32 v26 = w32 (-1) then
    if w32 v23 = w32 (μ 25 4) then
      some (.inl (v23, v24, v25, v28, v27, (v28 + 1)))
    else
      some (.inl (v23, v24, v25, v26, v27, (v28 + 1)))
  else
    some (.inl (v23, v24, v25, v26, v27, (v28 + 1)))
set_option maxRecDepth 4000 in
theorem tX11_mornings_j160 (hS : Sd M K P L) (hc : CIn P 0 75) (seed : Int) (turns : Int) (what : Int) (v23 : Int) (v24 : Int) (v25 : Int) (v26 : Int) (v27 : Int) (v28 : Int) (μ : Mem)  {o : (Int × Int × Int × Int × Int × Int) ⊕ (Int × Int × Int)} (hf : fX11_mornings_j160 seed turns what v23 v24 v25 v26 v27 v28 μ = some o) (hr : (Sum.elim (fun s : Int × Int × Int × Int × Int × Int => Ev l D cy g K yX11_mornings cX11_mornings 12 (some .int) (rmd 4 0 0) (MX D cy g K (rmd 4 0 0) Φ) 0 0 M x (L μ) 75 [(0, vr g 0), (2, vi turns), (3, vi what), (4, vi s.1), (5, vi s.2.1), (6, vi s.2.2.1), (7, vi s.2.2.2.1), (8, vl s.2.2.2.2.1), (10, vi s.2.2.2.2.2)] []) (fun e : Int × Int × Int => Ev l D cy g K yX11_mornings cX11_mornings 12 (some .int) (rmd 4 0 0) (MX D cy g K (rmd 4 0 0) Φ) 0 0 M x (L μ) 188 [(3, vi what), (5, vi e.1), (6, vi e.2.1), (7, vi e.2.2)] [])) o) : Ev l D cy g K yX11_mornings cX11_mornings 12 (some .int) (rmd 4 0 0) (MX D cy g K (rmd 4 0 0) Φ) 0 0 M x (L μ) 160 [(0, vr g 0), (2, vi turns), (3, vi what), (4, vi v23), (5, vi v24), (6, vi v25), (7, vi v26), (8, vl v27), (10, vi v28)] [] := by
  unfold fX11_mornings_j160 at hf
  refine ev_iload dX11_mornings_160 6 rfl ?_
  refine ev_iconst dX11_mornings_162 ?_
  refine ev_icmp_ne 182 dX11_mornings_163 (by decide) (fun h29 => ?_) (fun h29 => ?_)
  · rw [if_neg h29] at hf
    refine ev_iinc (al2 := [(10, vi (v28 + 1)), (0, vr g 0), (2, vi turns), (3, vi what), (4, vi v23), (5, vi v24), (6, vi v25), (7, vi v26), (8, vl v27)]) dX11_mornings_182 8 rfl (by decide) rfl ?_
    refine ev_goto 75 dX11_mornings_185 (by decide) ?_
    obtain rfl := Option.some.inj hf
    refine ev_sub [1, 2, 3, 4, 5, 6, 7, 8, 0] rfl ?_
    exact hr
  · rw [if_pos h29] at hf
    refine ev_iload dX11_mornings_166 3 rfl ?_
    refine ev_aload_n dX11_mornings_168 0 rfl ?_
    refine ev_getK 4 dX11_mornings_169 (hS.lt (hc 0 rfl)) rfl (hS.K1 (hc 0 rfl) rfl) ciX11 (by decide) rfl flX11_40 ?_
    refine cl_V1 (As := []) (st := [vi v23]) miX7_goal (tX7_goal hS (hc.w rfl rfl) μ (o := (μ 25 4)) rfl) dX11_mornings_172 lkX11_208 inX7_goal rfl (hS.lt (hc 25 rfl)) rfl ⟨rfl, rfl⟩ ⟨⟨Nat.le_of_ble_eq_true rfl, Nat.le_of_ble_eq_true rfl⟩, Nat.zero_le _, Nat.zero_le _⟩ (Nat.le_of_ble_eq_true rfl) ?_
    refine ev_icmp_ne 182 dX11_mornings_175 (by decide) (fun h30 => ?_) (fun h30 => ?_)
    · rw [if_neg h30] at hf
      refine ev_iinc (al2 := [(10, vi (v28 + 1)), (0, vr g 0), (2, vi turns), (3, vi what), (4, vi v23), (5, vi v24), (6, vi v25), (7, vi v26), (8, vl v27)]) dX11_mornings_182 8 rfl (by decide) rfl ?_
      refine ev_goto 75 dX11_mornings_185 (by decide) ?_
      obtain rfl := Option.some.inj hf
      refine ev_sub [1, 2, 3, 4, 5, 6, 7, 8, 0] rfl ?_
      exact hr
    · rw [if_pos h30] at hf
      refine ev_iload dX11_mornings_178 8 rfl ?_
      refine ev_istore (al2 := [(7, vi v28), (0, vr g 0), (2, vi turns), (3, vi what), (4, vi v23), (5, vi v24), (6, vi v25), (8, vl v27), (10, vi v28)]) dX11_mornings_180 (by decide) rfl ?_
      refine ev_iinc (al2 := [(10, vi (v28 + 1)), (7, vi v28), (0, vr g 0), (2, vi turns), (3, vi what), (4, vi v23), (5, vi v24), (6, vi v25), (8, vl v27)]) dX11_mornings_182 8 rfl (by decide) rfl ?_
      refine ev_goto 75 dX11_mornings_185 (by decide) ?_
      obtain rfl := Option.some.inj hf
      refine ev_sub [2, 3, 4, 5, 6, 7, 1, 8, 0] rfl ?_
      exact hr
def fX11_mornings_b75 (seed : Int) (turns : Int) (what : Int) (v11 : Int) (v12 : Int) (v13 : Int) (v14 : Int) (v15 : Int) (v16 : Int) (μ : Mem) : Option ((Int × Int × Int × Int × Int × Int) ⊕ (Int × Int × Int)) :=
  if w32 v16 ≤ w32 turns then
    if w32 (μ 25 1) ≤ 0 then
      some (.inr (v12, v13, v14))
    else
      lt (fX11_nextState v15) fun v19 =>
      (fX11_drawBelow v19 (μ 25 1)).bind fun v20 =>
      lt (v20 + 1) fun v21 =>
      if (fX7_isOpen v11 v21 μ) = true then
        lt (v13 + (fX7_priceOf v11 v21 μ)) fun v31 =>
        lt (fX7_turned v11 v21 μ) fun v32 =>
        fX11_mornings_j160 seed turns what v32 (v12 + 1) v31 v14 v19 v16 μ
      else
        fX11_mornings_j160 seed turns what v11 v12 v13 v14 v19 v16 μ
  else
    some (.inr (v12, v13, v14))
set_option maxRecDepth 4000 in
theorem tX11_mornings_b75 (hS : Sd M K P L) (hc : CIn P 0 75) (seed : Int) (turns : Int) (what : Int) (v11 : Int) (v12 : Int) (v13 : Int) (v14 : Int) (v15 : Int) (v16 : Int) (μ : Mem)  {o : (Int × Int × Int × Int × Int × Int) ⊕ (Int × Int × Int)} (hf : fX11_mornings_b75 seed turns what v11 v12 v13 v14 v15 v16 μ = some o) (hr : (Sum.elim (fun s : Int × Int × Int × Int × Int × Int => Ev l D cy g K yX11_mornings cX11_mornings 12 (some .int) (rmd 4 0 0) (MX D cy g K (rmd 4 0 0) Φ) 0 0 M x (L μ) 75 [(0, vr g 0), (2, vi turns), (3, vi what), (4, vi s.1), (5, vi s.2.1), (6, vi s.2.2.1), (7, vi s.2.2.2.1), (8, vl s.2.2.2.2.1), (10, vi s.2.2.2.2.2)] []) (fun e : Int × Int × Int => Ev l D cy g K yX11_mornings cX11_mornings 12 (some .int) (rmd 4 0 0) (MX D cy g K (rmd 4 0 0) Φ) 0 0 M x (L μ) 188 [(3, vi what), (5, vi e.1), (6, vi e.2.1), (7, vi e.2.2)] [])) o) : Ev l D cy g K yX11_mornings cX11_mornings 12 (some .int) (rmd 4 0 0) (MX D cy g K (rmd 4 0 0) Φ) 0 0 M x (L μ) 75 [(0, vr g 0), (2, vi turns), (3, vi what), (4, vi v11), (5, vi v12), (6, vi v13), (7, vi v14), (8, vl v15), (10, vi v16)] [] := by
  unfold fX11_mornings_b75 at hf
  refine ev_iload dX11_mornings_75 8 rfl ?_
  refine ev_iload_n dX11_mornings_77 1 rfl ?_
  refine ev_icmp_gt 188 dX11_mornings_78 (by decide) (fun h17 => ?_) (fun h17 => ?_)
  · rw [if_neg h17] at hf
    obtain rfl := Option.some.inj hf
    refine ev_sub [2, 4, 5, 6] rfl ?_
    exact hr
  · rw [if_pos h17] at hf
    refine ev_aload_n dX11_mornings_81 0 rfl ?_
    refine ev_getK 4 dX11_mornings_82 (hS.lt (hc 0 rfl)) rfl (hS.K1 (hc 0 rfl) rfl) ciX11 (by decide) rfl flX11_40 ?_
    refine cl_V1 (As := []) (st := []) miX7_cakes (tX7_cakes hS (hc.w rfl rfl) μ (o := (μ 25 1)) rfl) dX11_mornings_85 lkX11_133 inX7_cakes rfl (hS.lt (hc 25 rfl)) rfl ⟨rfl, rfl⟩ ⟨⟨Nat.le_of_ble_eq_true rfl, Nat.le_of_ble_eq_true rfl⟩, Nat.zero_le _, Nat.zero_le _⟩ (Nat.le_of_ble_eq_true rfl) ?_
    refine ev_if_le 188 dX11_mornings_88 (by decide) (fun h18 => ?_) (fun h18 => ?_)
    · rw [if_pos h18] at hf
      obtain rfl := Option.some.inj hf
      refine ev_sub [2, 4, 5, 6] rfl ?_
      exact hr
    · rw [if_neg h18] at hf
      refine ev_lload dX11_mornings_91 7 rfl ?_
      refine cl_S1 (As := [vl v15]) (st := []) miX11_nextState (tX11_nextState v15 (L μ) (o := (fX11_nextState v15)) rfl) dX11_mornings_93 lkX11_324 stX11_nextState rfl ⟨⟨Nat.le_of_ble_eq_true rfl, Nat.le_of_ble_eq_true rfl⟩, Nat.zero_le _, Nat.zero_le _⟩ (Nat.le_of_ble_eq_true rfl) ?_
      obtain ⟨v19, hv19, hf⟩ := lt_elim hf
      refine ev_rnl hv19 ?_
      refine ev_lstore (al2 := [(8, vl v19), (0, vr g 0), (2, vi turns), (3, vi what), (4, vi v11), (5, vi v12), (6, vi v13), (7, vi v14), (10, vi v16)]) dX11_mornings_96 (by decide) rfl ?_
      refine ev_lload dX11_mornings_98 0 rfl ?_
      refine ev_aload_n dX11_mornings_100 1 rfl ?_
      refine ev_getK 4 dX11_mornings_101 (hS.lt (hc 0 rfl)) rfl (hS.K1 (hc 0 rfl) rfl) ciX11 (by decide) rfl flX11_40 ?_
      refine cl_V1 (As := []) (st := [vl v19]) miX7_cakes (tX7_cakes hS (hc.w rfl rfl) μ (o := (μ 25 1)) rfl) dX11_mornings_104 lkX11_133 inX7_cakes rfl (hS.lt (hc 25 rfl)) rfl ⟨rfl, rfl⟩ ⟨⟨Nat.le_of_ble_eq_true rfl, Nat.le_of_ble_eq_true rfl⟩, Nat.zero_le _, Nat.zero_le _⟩ (Nat.le_of_ble_eq_true rfl) ?_
      obtain ⟨v20, hv20, hf⟩ := Option.bind_eq_some_iff.mp hf
      refine cl_S1 (As := [vl v19, vi (μ 25 1)]) (st := []) miX11_drawBelow (tX11_drawBelow v19 (μ 25 1) (L μ) hv20) dX11_mornings_107 lkX11_328 stX11_drawBelow rfl ⟨⟨Nat.le_of_ble_eq_true rfl, Nat.le_of_ble_eq_true rfl⟩, Nat.zero_le _, Nat.zero_le _⟩ (Nat.le_of_ble_eq_true rfl) ?_
      refine ev_iconst dX11_mornings_110 ?_
      refine ev_iadd dX11_mornings_111 ?_
      obtain ⟨v21, hv21, hf⟩ := lt_elim hf
      refine ev_rni hv21 ?_
      refine ev_istore (al2 := [(11, vi v21), (8, vl v19), (0, vr g 0), (2, vi turns), (3, vi what), (4, vi v11), (5, vi v12), (6, vi v13), (7, vi v14), (10, vi v16)]) dX11_mornings_112 (by decide) rfl ?_
      refine ev_aload_n dX11_mornings_114 2 rfl ?_
      refine ev_getK 4 dX11_mornings_115 (hS.lt (hc 0 rfl)) rfl (hS.K1 (hc 0 rfl) rfl) ciX11 (by decide) rfl flX11_40 ?_
      refine ev_iload dX11_mornings_118 5 rfl ?_
      refine ev_iload dX11_mornings_120 0 rfl ?_
      refine cl_V1 (As := [vi v11, vi v21]) (st := []) miX7_isOpen (tX7_isOpen hS (hc.w rfl rfl) v11 v21 μ (o := (fX7_isOpen v11 v21 μ)) rfl) dX11_mornings_122 lkX11_181 inX7_isOpen rfl (hS.lt (hc 25 rfl)) rfl ⟨rfl, rfl⟩ ⟨⟨Nat.le_of_ble_eq_true rfl, Nat.le_of_ble_eq_true rfl⟩, Nat.zero_le _, Nat.zero_le _⟩ (Nat.le_of_ble_eq_true rfl) ?_
      refine ev_ifb_eq 160 dX11_mornings_125 (by decide) (fun h22 => ?_) (fun h22 => ?_)
      · rw [if_neg h22] at hf
        refine ev_sub [2, 3, 4, 5, 6, 7, 8, 1, 9] rfl ?_
        exact tX11_mornings_j160 hS hc seed turns what v11 v12 v13 v14 v19 v16 μ hf hr
      · rw [if_pos h22] at hf
        refine ev_iinc (al2 := [(5, vi (v12 + 1)), (11, vi v21), (8, vl v19), (0, vr g 0), (2, vi turns), (3, vi what), (4, vi v11), (6, vi v13), (7, vi v14), (10, vi v16)]) dX11_mornings_128 6 rfl (by decide) rfl ?_
        refine ev_iload dX11_mornings_131 7 rfl ?_
        refine ev_aload_n dX11_mornings_133 3 rfl ?_
        refine ev_getK 4 dX11_mornings_134 (hS.lt (hc 0 rfl)) rfl (hS.K1 (hc 0 rfl) rfl) ciX11 (by decide) rfl flX11_40 ?_
        refine ev_iload dX11_mornings_137 6 rfl ?_
        refine ev_iload dX11_mornings_139 1 rfl ?_
        refine cl_V1 (As := [vi v11, vi v21]) (st := [vi v13]) miX7_priceOf (tX7_priceOf hS (hc.w rfl rfl) v11 v21 μ (o := (fX7_priceOf v11 v21 μ)) rfl) dX11_mornings_141 lkX11_184 inX7_priceOf rfl (hS.lt (hc 25 rfl)) rfl ⟨rfl, rfl⟩ ⟨⟨Nat.le_of_ble_eq_true rfl, Nat.le_of_ble_eq_true rfl⟩, Nat.zero_le _, Nat.zero_le _⟩ (Nat.le_of_ble_eq_true rfl) ?_
        refine ev_iadd dX11_mornings_144 ?_
        obtain ⟨v31, hv31, hf⟩ := lt_elim hf
        refine ev_rni hv31 ?_
        refine ev_istore (al2 := [(6, vi v31), (5, vi (v12 + 1)), (11, vi v21), (8, vl v19), (0, vr g 0), (2, vi turns), (3, vi what), (4, vi v11), (7, vi v14), (10, vi v16)]) dX11_mornings_145 (by decide) rfl ?_
        refine ev_aload_n dX11_mornings_147 4 rfl ?_
        refine ev_getK 4 dX11_mornings_148 (hS.lt (hc 0 rfl)) rfl (hS.K1 (hc 0 rfl) rfl) ciX11 (by decide) rfl flX11_40 ?_
        refine ev_iload dX11_mornings_151 7 rfl ?_
        refine ev_iload dX11_mornings_153 2 rfl ?_
        refine cl_V1 (As := [vi v11, vi v21]) (st := []) miX7_turned (tX7_turned hS (hc.w rfl rfl) v11 v21 μ (o := (fX7_turned v11 v21 μ)) rfl) dX11_mornings_155 lkX11_187 inX7_turned rfl (hS.lt (hc 25 rfl)) rfl ⟨rfl, rfl⟩ ⟨⟨Nat.le_of_ble_eq_true rfl, Nat.le_of_ble_eq_true rfl⟩, Nat.zero_le _, Nat.zero_le _⟩ (Nat.le_of_ble_eq_true rfl) ?_
        obtain ⟨v32, hv32, hf⟩ := lt_elim hf
        refine ev_rni hv32 ?_
        refine ev_istore (al2 := [(4, vi v32), (6, vi v31), (5, vi (v12 + 1)), (11, vi v21), (8, vl v19), (0, vr g 0), (2, vi turns), (3, vi what), (7, vi v14), (10, vi v16)]) dX11_mornings_158 (by decide) rfl ?_
        refine ev_sub [5, 6, 7, 0, 2, 1, 8, 4, 9] rfl ?_
        exact tX11_mornings_j160 hS hc seed turns what v32 (v12 + 1) v31 v14 v19 v16 μ hf hr
def fX11_mornings_j188 (seed : Int) (turns : Int) (what : Int) (v40 : Int) (v41 : Int) (v42 : Int) (μ : Mem) : Option (Int) :=
  if w32 what = 0 then
    some (v40)
  else
    if w32 what = 1 then
      some (v41)
    else
      some (v42)
set_option maxRecDepth 4000 in
theorem tX11_mornings_j188 (hS : Sd M K P L) (hc : CIn P 0 75) (seed : Int) (turns : Int) (what : Int) (v40 : Int) (v41 : Int) (v42 : Int) (μ : Mem)  {o : Int} (hf : fX11_mornings_j188 seed turns what v40 v41 v42 μ = some o) (hr : (fun o : Int => Φ (some (vi o)) M x (L μ)) o) : Ev l D cy g K yX11_mornings cX11_mornings 12 (some .int) (rmd 4 0 0) (MX D cy g K (rmd 4 0 0) Φ) 0 0 M x (L μ) 188 [(3, vi what), (5, vi v40), (6, vi v41), (7, vi v42)] [] := by
  unfold fX11_mornings_j188 at hf
  refine ev_iload_n dX11_mornings_188 0 rfl ?_
  by_cases h43 : w32 what = 0
  · rw [if_pos h43] at hf
    refine ev_lookup (off := 27) 216 dX11_mornings_189 (by decide) (by rw [h43] <;> rfl) (by decide) ?_
    refine ev_iload dX11_mornings_216 1 rfl ?_
    obtain rfl := Option.some.inj hf
    exact ev_iret dX11_mornings_218 rfl ⟨Nat.zero_le _, Nat.zero_le _⟩ hr
  · rw [if_neg h43] at hf
    by_cases h44 : w32 what = 1
    · rw [if_pos h44] at hf
      refine ev_lookup (off := 30) 219 dX11_mornings_189 (by decide) (by rw [h44] <;> rfl) (by decide) ?_
      refine ev_iload dX11_mornings_219 2 rfl ?_
      obtain rfl := Option.some.inj hf
      exact ev_iret dX11_mornings_221 rfl ⟨Nat.zero_le _, Nat.zero_le _⟩ hr
    · rw [if_neg h44] at hf
      refine ev_lookup (off := 33) 222 dX11_mornings_189 (by decide) (by simp [Op.lookupswitch.offset_cons, Op.lookupswitch.offset_nil, h43, h44, Ne.symm h43, Ne.symm h44]) (by decide) ?_
      refine ev_iload dX11_mornings_222 3 rfl ?_
      obtain rfl := Option.some.inj hf
      exact ev_iret dX11_mornings_224 rfl ⟨Nat.zero_le _, Nat.zero_le _⟩ hr
def fX11_mornings (seed : Int) (turns : Int) (what : Int) (μ : Mem) : Option (Int) :=
  if w32 seed < 0 then
    some ((-2))
  else
    if w32 seed ≤ w32 9999 then
      if w32 turns < w32 1 then
        some ((-2))
      else
        if w32 turns ≤ w32 99 then
          if w32 what < 0 then
            some ((-2))
          else
            if w32 what ≤ w32 2 then
              lt (μ 41 1) fun v7 =>
              lt (if w32 v7 = w32 (μ 25 4) then
                  0
                else
                  (-1)) fun v8 =>
              lt (w32 seed) fun v10 =>
              (loopN (fun s => fX11_mornings_b75 seed turns what s.1 s.2.1 s.2.2.1 s.2.2.2.1 s.2.2.2.2.1 s.2.2.2.2.2 μ) FU (v7, 0, 0, v8, v10, 1)).bind fun q39 =>
              fX11_mornings_j188 seed turns what q39.1 q39.2.1 q39.2.2 μ
            else
              some ((-2))
        else
          some ((-2))
    else
      some ((-2))
set_option maxRecDepth 4000 in
theorem eX11_mornings (hS : Sd M K P L) (hc : CIn P 0 75) (seed : Int) (turns : Int) (what : Int) (μ : Mem)  {o : Int} (hf : fX11_mornings seed turns what μ = some o) (hr : (fun o : Int => Φ (some (vi o)) M x (L μ)) o) : Ev l D cy g K yX11_mornings cX11_mornings 12 (some .int) (rmd 4 0 0) (MX D cy g K (rmd 4 0 0) Φ) 0 0 M x (L μ) 0 [(0, vr g 0), (1, vi seed), (2, vi turns), (3, vi what)] [] := by
  unfold fX11_mornings at hf
  refine ev_iload_n dX11_mornings_0 1 rfl ?_
  refine ev_if_lt 31 dX11_mornings_1 (by decide) (fun h1 => ?_) (fun h1 => ?_)
  · rw [if_pos h1] at hf
    refine ev_bipush dX11_mornings_31 (by decide) ?_
    obtain rfl := Option.some.inj hf
    exact ev_iret dX11_mornings_33 rfl ⟨Nat.zero_le _, Nat.zero_le _⟩ hr
  · rw [if_neg h1] at hf
    refine ev_iload_n dX11_mornings_4 1 rfl ?_
    refine ev_sipush dX11_mornings_5 (by decide) ?_
    refine ev_icmp_gt 31 dX11_mornings_8 (by decide) (fun h2 => ?_) (fun h2 => ?_)
    · rw [if_neg h2] at hf
      refine ev_bipush dX11_mornings_31 (by decide) ?_
      obtain rfl := Option.some.inj hf
      exact ev_iret dX11_mornings_33 rfl ⟨Nat.zero_le _, Nat.zero_le _⟩ hr
    · rw [if_pos h2] at hf
      refine ev_iload_n dX11_mornings_11 2 rfl ?_
      refine ev_iconst dX11_mornings_12 ?_
      refine ev_icmp_lt 31 dX11_mornings_13 (by decide) (fun h3 => ?_) (fun h3 => ?_)
      · rw [if_pos h3] at hf
        refine ev_bipush dX11_mornings_31 (by decide) ?_
        obtain rfl := Option.some.inj hf
        exact ev_iret dX11_mornings_33 rfl ⟨Nat.zero_le _, Nat.zero_le _⟩ hr
      · rw [if_neg h3] at hf
        refine ev_iload_n dX11_mornings_16 2 rfl ?_
        refine ev_bipush dX11_mornings_17 (by decide) ?_
        refine ev_icmp_gt 31 dX11_mornings_19 (by decide) (fun h4 => ?_) (fun h4 => ?_)
        · rw [if_neg h4] at hf
          refine ev_bipush dX11_mornings_31 (by decide) ?_
          obtain rfl := Option.some.inj hf
          exact ev_iret dX11_mornings_33 rfl ⟨Nat.zero_le _, Nat.zero_le _⟩ hr
        · rw [if_pos h4] at hf
          refine ev_iload_n dX11_mornings_22 3 rfl ?_
          refine ev_if_lt 31 dX11_mornings_23 (by decide) (fun h5 => ?_) (fun h5 => ?_)
          · rw [if_pos h5] at hf
            refine ev_bipush dX11_mornings_31 (by decide) ?_
            obtain rfl := Option.some.inj hf
            exact ev_iret dX11_mornings_33 rfl ⟨Nat.zero_le _, Nat.zero_le _⟩ hr
          · rw [if_neg h5] at hf
            refine ev_iload_n dX11_mornings_26 3 rfl ?_
            refine ev_iconst dX11_mornings_27 ?_
            refine ev_icmp_le 34 dX11_mornings_28 (by decide) (fun h6 => ?_) (fun h6 => ?_)
            · rw [if_pos h6] at hf
              refine ev_aload_n dX11_mornings_34 0 rfl ?_
              refine ev_getK 7 dX11_mornings_35 (hS.lt (hc 0 rfl)) rfl (hS.K1 (hc 0 rfl) rfl) ciX11 (by decide) rfl flX11_58 ?_
              refine cl_V1 (As := []) (st := []) miX5_stack (tX5_stack hS (hc.w rfl rfl) 41 μ (by simp [isMo]) (o := (μ 41 1)) rfl) dX11_mornings_38 lkX11_167 inX5_stack rfl (hS.lt (hc 41 rfl)) rfl ⟨rfl, rfl⟩ ⟨⟨Nat.le_of_ble_eq_true rfl, Nat.le_of_ble_eq_true rfl⟩, Nat.zero_le _, Nat.zero_le _⟩ (Nat.le_of_ble_eq_true rfl) ?_
              obtain ⟨v7, hv7, hf⟩ := lt_elim hf
              refine ev_rni hv7 ?_
              refine ev_istore (al2 := [(4, vi v7), (0, vr g 0), (1, vi seed), (2, vi turns), (3, vi what)]) dX11_mornings_41 (by decide) rfl ?_
              refine ev_iconst dX11_mornings_43 ?_
              refine ev_istore (al2 := [(5, vi 0), (4, vi v7), (0, vr g 0), (1, vi seed), (2, vi turns), (3, vi what)]) dX11_mornings_44 (by decide) rfl ?_
              refine ev_iconst dX11_mornings_46 ?_
              refine ev_istore (al2 := [(6, vi 0), (5, vi 0), (4, vi v7), (0, vr g 0), (1, vi seed), (2, vi turns), (3, vi what)]) dX11_mornings_47 (by decide) rfl ?_
              refine ev_iload dX11_mornings_49 2 rfl ?_
              refine ev_aload_n dX11_mornings_51 3 rfl ?_
              refine ev_getK 4 dX11_mornings_52 (hS.lt (hc 0 rfl)) rfl (hS.K1 (hc 0 rfl) rfl) ciX11 (by decide) rfl flX11_40 ?_
              refine cl_V1 (As := []) (st := [vi v7]) miX7_goal (tX7_goal hS (hc.w rfl rfl) μ (o := (μ 25 4)) rfl) dX11_mornings_55 lkX11_208 inX7_goal rfl (hS.lt (hc 25 rfl)) rfl ⟨rfl, rfl⟩ ⟨⟨Nat.le_of_ble_eq_true rfl, Nat.le_of_ble_eq_true rfl⟩, Nat.zero_le _, Nat.zero_le _⟩ (Nat.le_of_ble_eq_true rfl) ?_
              obtain ⟨v8, hv8, hf⟩ := lt_elim hf
              have hJv8 : Ev l D cy g K yX11_mornings cX11_mornings 12 (some .int) (rmd 4 0 0) (MX D cy g K (rmd 4 0 0) Φ) 0 0 M x (L μ) 66 [(6, vi 0), (5, vi 0), (4, vi v7), (0, vr g 0), (1, vi seed), (2, vi turns), (3, vi what)] [vi v8] := by
                refine ev_istore (al2 := [(7, vi v8), (6, vi 0), (5, vi 0), (4, vi v7), (0, vr g 0), (1, vi seed), (2, vi turns), (3, vi what)]) dX11_mornings_66 (by decide) rfl ?_
                refine ev_iload_n dX11_mornings_68 5 rfl ?_
                refine ev_i2l dX11_mornings_69 ?_
                obtain ⟨v10, hv10, hf⟩ := lt_elim hf
                refine ev_rnl hv10 ?_
                refine ev_lstore (al2 := [(8, vl v10), (7, vi v8), (6, vi 0), (5, vi 0), (4, vi v7), (0, vr g 0), (1, vi seed), (2, vi turns), (3, vi what)]) dX11_mornings_70 (by decide) rfl ?_
                refine ev_iconst dX11_mornings_72 ?_
                refine ev_istore (al2 := [(10, vi 1), (8, vl v10), (7, vi v8), (6, vi 0), (5, vi 0), (4, vi v7), (0, vr g 0), (1, vi seed), (2, vi turns), (3, vi what)]) dX11_mornings_73 (by decide) rfl ?_
                obtain ⟨q39, hq39, hf⟩ := Option.bind_eq_some_iff.mp hf
                refine ev_sub [6, 8, 9, 5, 4, 3, 2, 1, 0] rfl ?_
                refine loop_ev (H := (fun s : Int × Int × Int × Int × Int × Int => Ev l D cy g K yX11_mornings cX11_mornings 12 (some .int) (rmd 4 0 0) (MX D cy g K (rmd 4 0 0) Φ) 0 0 M x (L μ) 75 [(0, vr g 0), (2, vi turns), (3, vi what), (4, vi s.1), (5, vi s.2.1), (6, vi s.2.2.1), (7, vi s.2.2.2.1), (8, vl s.2.2.2.2.1), (10, vi s.2.2.2.2.2)] [])) (Hx := (fun e : Int × Int × Int => Ev l D cy g K yX11_mornings cX11_mornings 12 (some .int) (rmd 4 0 0) (MX D cy g K (rmd 4 0 0) Φ) 0 0 M x (L μ) 188 [(3, vi what), (5, vi e.1), (6, vi e.2.1), (7, vi e.2.2)] [])) (fun s o hb hr => tX11_mornings_b75 hS hc seed turns what s.1 s.2.1 s.2.2.1 s.2.2.2.1 s.2.2.2.2.1 s.2.2.2.2.2 μ hb hr) FU _ _ hq39 ?_
                show Ev l D cy g K yX11_mornings cX11_mornings 12 (some .int) (rmd 4 0 0) (MX D cy g K (rmd 4 0 0) Φ) 0 0 M x (L μ) 188 [(3, vi what), (5, vi q39.1), (6, vi q39.2.1), (7, vi q39.2.2)] []
                refine ev_sub [0, 1, 2, 3] rfl ?_
                exact tX11_mornings_j188 hS hc seed turns what q39.1 q39.2.1 q39.2.2 μ hf hr
              refine ev_icmp_ne 65 dX11_mornings_58 (by decide) (fun h9 => ?_) (fun h9 => ?_)
              · refine ev_iconst dX11_mornings_65 ?_
                have e9 : v8 = (-1) := hv8.trans ((if_neg h9))
                subst e9
                exact hJv8
              · refine ev_iconst dX11_mornings_61 ?_
                refine ev_goto 66 dX11_mornings_62 (by decide) ?_
                have e9 : v8 = 0 := hv8.trans ((if_pos h9))
                subst e9
                exact hJv8
            · rw [if_neg h6] at hf
              refine ev_bipush dX11_mornings_31 (by decide) ?_
              obtain rfl := Option.some.inj hf
              exact ev_iret dX11_mornings_33 rfl ⟨Nat.zero_le _, Nat.zero_le _⟩ hr
theorem tX11_mornings (hS : Sd M K P L) (hc : CIn P 0 75) (seed : Int) (turns : Int) (what : Int) (μ : Mem) {o : Int} (hf : fX11_mornings seed turns what μ = some o) : Cn l D cy g K K yX11_mornings cX11_mornings 12 (some .int) (rmd 4 0 0) [vr g 0, vi seed, vi turns, vi what] M x (L μ) (PE (some (vi o)) M x (L μ)) :=
 Cn.of (by decide) (Nat.le_of_ble_eq_true rfl) (eX11_mornings hS hc seed turns what μ hf (PE_i _ _ _ _))
def fX5_become_b39 (k : Nat) (other : Nat) (v6 : Int) (μ : Mem) : Option ((Int × Mem) ⊕ (Mem)) :=
  if w32 v6 < w32 (μ k 4) then
    lt (fX11_put (k + 1) v6 (fX11_at (other + 1) v6 μ) μ) fun μ8 =>
    some (.inl ((v6 + 1), μ8))
  else
    some (.inr μ)
set_option maxRecDepth 4000 in
theorem tX5_become_b39 (hS : Sd M K P L) (hc : CIn P 1 75) (k : Nat) (other : Nat) (v6 : Int) (μ : Mem) (hk : isMo k) (hother : isMo other) {o : (Int × Mem) ⊕ (Mem)} (hf : fX5_become_b39 k other v6 μ = some o) (hr : (Sum.elim (fun s : Int × Mem => Ev l D cy g K yX5_become cX5_become 3 none (rmd 2 0 0) (MX D cy g K (rmd 2 0 0) Φ) 0 0 M x (L s.2) 39 [(0, vr g k), (1, vr g other), (2, vi s.1)] []) (fun e : Mem => Ev l D cy g K yX5_become cX5_become 3 none (rmd 2 0 0) (MX D cy g K (rmd 2 0 0) Φ) 0 0 M x (L e) 69 [] [])) o) : Ev l D cy g K yX5_become cX5_become 3 none (rmd 2 0 0) (MX D cy g K (rmd 2 0 0) Φ) 0 0 M x (L μ) 39 [(0, vr g k), (1, vr g other), (2, vi v6)] [] := by
  unfold fX5_become_b39 at hf
  refine ev_iload_n dX5_become_39 2 rfl ?_
  refine ev_aload_n dX5_become_40 0 rfl ?_
  refine ev_getI 4 dX5_become_41 (hS.lt (hc _ (inR_w (i_Mo0 hk) rfl rfl))) (s_Mo0 hk) (hS.mem _ (hc _ (inR_w (i_Mo0 hk) rfl rfl))) ciX5 (by decide) rfl flX5_29 ?_
  refine ev_icmp_ge 69 dX5_become_44 (by decide) (fun h7 => ?_) (fun h7 => ?_)
  · rw [if_neg h7] at hf
    obtain rfl := Option.some.inj hf
    refine ev_sub [] rfl ?_
    exact hr
  · rw [if_pos h7] at hf
    refine ev_aload_n dX5_become_47 0 rfl ?_
    refine ev_getK 5 dX5_become_48 (hS.lt (hc _ (inR_w (i_Mo0 hk) rfl rfl))) (s_Mo0 hk) (hS.K1 (hc _ (inR_w (i_Mo0 hk) rfl rfl)) (K_Mo5 hk)) ciX5 (by decide) rfl flX5_9 ?_
    refine ev_iload_n dX5_become_51 2 rfl ?_
    refine ev_aload_n dX5_become_52 1 rfl ?_
    refine ev_getK 5 dX5_become_53 (hS.lt (hc _ (inR_w (i_Mo0 hother) rfl rfl))) (s_Mo0 hother) (hS.K1 (hc _ (inR_w (i_Mo0 hother) rfl rfl)) (K_Mo5 hother)) ciX5 (by decide) rfl flX5_9 ?_
    refine ev_iload_n dX5_become_56 2 rfl ?_
    refine cl_N1 (As := [vr g (other + 1), vi v6]) (st := [vi v6, vr g (k + 1)]) (host := "HotCakes") miX11_at (tX11_at hS (hc.w rfl rfl) (other + 1) v6 μ (⟨(hc _ (inR_w (i_Mo1 hother) rfl rfl)), (ia_of (s_Mo1 hother))⟩) (o := (fX11_at (other + 1) v6 μ)) rfl) dX5_become_57 (by decide) stX11_at rfl ⟨⟨Nat.le_of_ble_eq_true rfl, Nat.le_of_ble_eq_true rfl⟩, Nat.zero_le _, Nat.zero_le _⟩ (Nat.le_of_ble_eq_true rfl) ?_
    obtain ⟨μ8, hμ8, hf⟩ := lt_elim hf
    refine cl_N0 (As := [vr g (k + 1), vi v6, vi (fX11_at (other + 1) v6 μ)]) (st := []) (host := "HotCakes") miX11_put (tX11_put hS (hc.w rfl rfl) (k + 1) v6 (fX11_at (other + 1) v6 μ) μ (⟨(hc _ (inR_w (i_Mo1 hk) rfl rfl)), (ia_of (s_Mo1 hk))⟩) hμ8.symm) dX5_become_60 (by decide) stX11_put rfl ⟨⟨Nat.le_of_ble_eq_true rfl, Nat.le_of_ble_eq_true rfl⟩, Nat.zero_le _, Nat.zero_le _⟩ (Nat.le_of_ble_eq_true rfl) ?_
    refine ev_iinc (al2 := [(2, vi (v6 + 1)), (0, vr g k), (1, vr g other)]) dX5_become_63 2 rfl (by decide) rfl ?_
    refine ev_goto 39 dX5_become_66 (by decide) ?_
    obtain rfl := Option.some.inj hf
    refine ev_sub [1, 2, 0] rfl ?_
    exact hr
def fX5_become (k : Nat) (other : Nat) (μ : Mem) : Option (Mem) :=
  lt (upd2 μ k 0 1) fun μ1 =>
  lt (upd2 μ1 k 1 (μ1 other 1)) fun μ2 =>
  lt (upd2 μ2 k 2 (μ2 other 2)) fun μ3 =>
  lt (upd2 μ3 k 3 (μ3 other 3)) fun μ4 =>
  lt (upd2 μ4 k 4 (μ4 other 4)) fun μ5 =>
  (loopN (fun s => fX5_become_b39 k other s.1 s.2) FU (0, μ5)).bind fun q9 =>
  some (q9)
set_option maxRecDepth 4000 in
theorem eX5_become (hS : Sd M K P L) (hc : CIn P 1 75) (k : Nat) (other : Nat) (μ : Mem) (hk : isMo k) (hother : isMo other) {o : Mem} (hf : fX5_become k other μ = some o) (hr : (fun o : Mem => Φ none M x (L o)) o) : Ev l D cy g K yX5_become cX5_become 3 none (rmd 2 0 0) (MX D cy g K (rmd 2 0 0) Φ) 0 0 M x (L μ) 0 [(0, vr g k), (1, vr g other)] [] := by
  unfold fX5_become at hf
  refine ev_aload_n dX5_become_0 0 rfl ?_
  refine ev_iconst dX5_become_1 ?_
  obtain ⟨μ1, hμ1, hf⟩ := lt_elim hf
  refine ev_putZ (b := true) 0 dX5_become_2 (hS.lt (hc _ (inR_w (i_Mo0 hk) rfl rfl))) (s_Mo0 hk) ciX5 (by decide) (Or.inl rfl) rfl rfl flX5_15 (hS.up (hc _ (inR_w (i_Mo0 hk) rfl rfl)) hμ1) ?_
  refine ev_aload_n dX5_become_5 0 rfl ?_
  refine ev_aload_n dX5_become_6 1 rfl ?_
  refine ev_getI 1 dX5_become_7 (hS.lt (hc _ (inR_w (i_Mo0 hother) rfl rfl))) (s_Mo0 hother) (hS.mem _ (hc _ (inR_w (i_Mo0 hother) rfl rfl))) ciX5 (by decide) rfl flX5_19 ?_
  obtain ⟨μ2, hμ2, hf⟩ := lt_elim hf
  refine ev_putI 1 dX5_become_10 (hS.lt (hc _ (inR_w (i_Mo0 hk) rfl rfl))) (s_Mo0 hk) ciX5 (by decide) (Or.inl rfl) rfl rfl flX5_19 (hS.up (hc _ (inR_w (i_Mo0 hk) rfl rfl)) hμ2) ?_
  refine ev_aload_n dX5_become_13 0 rfl ?_
  refine ev_aload_n dX5_become_14 1 rfl ?_
  refine ev_getI 2 dX5_become_15 (hS.lt (hc _ (inR_w (i_Mo0 hother) rfl rfl))) (s_Mo0 hother) (hS.mem _ (hc _ (inR_w (i_Mo0 hother) rfl rfl))) ciX5 (by decide) rfl flX5_23 ?_
  obtain ⟨μ3, hμ3, hf⟩ := lt_elim hf
  refine ev_putI 2 dX5_become_18 (hS.lt (hc _ (inR_w (i_Mo0 hk) rfl rfl))) (s_Mo0 hk) ciX5 (by decide) (Or.inl rfl) rfl rfl flX5_23 (hS.up (hc _ (inR_w (i_Mo0 hk) rfl rfl)) hμ3) ?_
  refine ev_aload_n dX5_become_21 0 rfl ?_
  refine ev_aload_n dX5_become_22 1 rfl ?_
  refine ev_getI 3 dX5_become_23 (hS.lt (hc _ (inR_w (i_Mo0 hother) rfl rfl))) (s_Mo0 hother) (hS.mem _ (hc _ (inR_w (i_Mo0 hother) rfl rfl))) ciX5 (by decide) rfl flX5_26 ?_
  obtain ⟨μ4, hμ4, hf⟩ := lt_elim hf
  refine ev_putI 3 dX5_become_26 (hS.lt (hc _ (inR_w (i_Mo0 hk) rfl rfl))) (s_Mo0 hk) ciX5 (by decide) (Or.inl rfl) rfl rfl flX5_26 (hS.up (hc _ (inR_w (i_Mo0 hk) rfl rfl)) hμ4) ?_
  refine ev_aload_n dX5_become_29 0 rfl ?_
  refine ev_aload_n dX5_become_30 1 rfl ?_
  refine ev_getI 4 dX5_become_31 (hS.lt (hc _ (inR_w (i_Mo0 hother) rfl rfl))) (s_Mo0 hother) (hS.mem _ (hc _ (inR_w (i_Mo0 hother) rfl rfl))) ciX5 (by decide) rfl flX5_29 ?_
  obtain ⟨μ5, hμ5, hf⟩ := lt_elim hf
  refine ev_putI 4 dX5_become_34 (hS.lt (hc _ (inR_w (i_Mo0 hk) rfl rfl))) (s_Mo0 hk) ciX5 (by decide) (Or.inl rfl) rfl rfl flX5_29 (hS.up (hc _ (inR_w (i_Mo0 hk) rfl rfl)) hμ5) ?_
  refine ev_iconst dX5_become_37 ?_
  refine ev_istore_n (al2 := [(2, vi 0), (0, vr g k), (1, vr g other)]) dX5_become_38 2 rfl (by decide) rfl ?_
  obtain ⟨q9, hq9, hf⟩ := Option.bind_eq_some_iff.mp hf
  refine ev_sub [1, 2, 0] rfl ?_
  refine loop_ev (H := (fun s : Int × Mem => Ev l D cy g K yX5_become cX5_become 3 none (rmd 2 0 0) (MX D cy g K (rmd 2 0 0) Φ) 0 0 M x (L s.2) 39 [(0, vr g k), (1, vr g other), (2, vi s.1)] [])) (Hx := (fun e : Mem => Ev l D cy g K yX5_become cX5_become 3 none (rmd 2 0 0) (MX D cy g K (rmd 2 0 0) Φ) 0 0 M x (L e) 69 [] [])) (fun s o hb hr => tX5_become_b39 hS hc k other s.1 s.2 hk hother hb hr) FU _ _ hq9 ?_
  show Ev l D cy g K yX5_become cX5_become 3 none (rmd 2 0 0) (MX D cy g K (rmd 2 0 0) Φ) 0 0 M x (L q9) 69 [] []
  obtain rfl := Option.some.inj hf
  exact ev_vret dX5_become_69 rfl ⟨Nat.zero_le _, Nat.zero_le _⟩ hr
theorem tX5_become (hS : Sd M K P L) (hc : CIn P 1 75) (k : Nat) (other : Nat) (μ : Mem) (hk : isMo k) (hother : isMo other) {o : Mem} (hf : fX5_become k other μ = some o) : Cn l D cy g K K yX5_become cX5_become 3 none (rmd 2 0 0) [vr g k, vr g other] M x (L μ) (PE none M x (L o)) :=
 Cn.of (by decide) (Nat.le_of_ble_eq_true rfl) (eX5_become hS hc k other μ hk hother hf (PE_i _ _ _ _))
def fX5_isLaid (k : Nat) (μ : Mem) : Bool :=
  ((μ k 0) != 0)
set_option maxRecDepth 4000 in
theorem eX5_isLaid (hS : Sd M K P L) (hc : CIn P 1 75) (k : Nat) (μ : Mem) (hk : isMo k) {o : Bool} (hf : fX5_isLaid k μ = o) (hr : (fun o : Bool => Φ (some (vb o)) M x (L μ)) o) : Ev l D cy g K yX5_isLaid cX5_isLaid 1 (some .boolean) (rmd 1 0 0) (MX D cy g K (rmd 1 0 0) Φ) 0 0 M x (L μ) 0 [(0, vr g k)] [] := by
  unfold fX5_isLaid at hf
  refine ev_aload_n dX5_isLaid_0 0 rfl ?_
  refine ev_getZ 0 dX5_isLaid_1 (hS.lt (hc _ (inR_w (i_Mo0 hk) rfl rfl))) (s_Mo0 hk) (hS.mem _ (hc _ (inR_w (i_Mo0 hk) rfl rfl))) ciX5 (by decide) rfl flX5_15 ?_
  obtain rfl := hf
  exact ev_bret (b := ((μ k 0) != 0)) dX5_isLaid_4 rfl ⟨Nat.zero_le _, Nat.zero_le _⟩ hr
theorem tX5_isLaid (hS : Sd M K P L) (hc : CIn P 1 75) (k : Nat) (μ : Mem) (hk : isMo k) {o : Bool} (hf : fX5_isLaid k μ = o) : Cn l D cy g K K yX5_isLaid cX5_isLaid 1 (some .boolean) (rmd 1 0 0) [vr g k] M x (L μ) (PE (some (vb o)) M x (L μ)) :=
 Cn.of (by decide) (Nat.le_of_ble_eq_true rfl) (eX5_isLaid hS hc k μ hk hf (PE_i _ _ _ _))
def fX11_mark (mark0 : Int) (back : Bool) (μ : Mem) : Option (Bool × Mem) :=
  if w32 mark0 < 0 then
    some ((false, μ))
  else
    if w32 mark0 < w32 4 then
      lt (57 + 2 * (w32 mark0).toNat) fun r3 =>
      if back = true then
        if ((μ r3 0) != 0) = true then
          (fX5_become 41 r3 μ).bind fun μ6 =>
          lt (upd2 μ6 0 11 0) fun μ7 =>
          some ((true, μ7))
        else
          some ((false, μ))
      else
        (fX5_become r3 41 μ).bind fun μ8 =>
        some ((true, μ8))
    else
      some ((false, μ))
set_option maxRecDepth 4000 in
theorem eX11_mark (hS : Sd M K P L) (hc : CIn P 0 75) (mark0 : Int) (back : Bool) (μ : Mem)  {o : Bool × Mem} (hf : fX11_mark mark0 back μ = some o) (hr : (fun o : Bool × Mem => Φ (some (vb o.1)) M x (L o.2)) o) : Ev l D cy g K yX11_mark cX11_mark 4 (some .boolean) (rmd 3 0 0) (MX D cy g K (rmd 3 0 0) Φ) 0 0 M x (L μ) 0 [(0, vr g 0), (1, vi mark0), (2, vb back)] [] := by
  unfold fX11_mark at hf
  refine ev_iload_n dX11_mark_0 1 rfl ?_
  refine ev_if_lt 13 dX11_mark_1 (by decide) (fun h1 => ?_) (fun h1 => ?_)
  · rw [if_pos h1] at hf
    refine ev_iconst dX11_mark_13 ?_
    obtain rfl := Option.some.inj hf
    exact ev_bret (b := false) dX11_mark_14 rfl ⟨Nat.zero_le _, Nat.zero_le _⟩ hr
  · rw [if_neg h1] at hf
    refine ev_iload_n dX11_mark_4 1 rfl ?_
    refine ev_aload_n dX11_mark_5 0 rfl ?_
    refine ev_getK 8 dX11_mark_6 (hS.lt (hc 0 rfl)) rfl (hS.K1 (hc 0 rfl) rfl) ciX11 (by decide) rfl flX11_62 ?_
    refine ev_alenM dX11_mark_9 (hS.lt (hc 43 rfl)) rfl ?_
    refine ev_rn (w := vi 4) rfl ?_
    refine ev_icmp_lt 15 dX11_mark_10 (by decide) (fun h2 => ?_) (fun h2 => ?_)
    · rw [if_pos h2] at hf
      refine ev_aload_n dX11_mark_15 0 rfl ?_
      refine ev_getK 8 dX11_mark_16 (hS.lt (hc 0 rfl)) rfl (hS.K1 (hc 0 rfl) rfl) ciX11 (by decide) rfl flX11_62 ?_
      refine ev_iload_n dX11_mark_19 1 rfl ?_
      refine ev_aaldM (r := 57 + 2 * (w32 mark0).toNat) dX11_mark_20 (hS.lt (hc 43 rfl)) rfl ⟨by omega, by have h9 : w32 4 = 4 := (by decide); omega⟩ (hS.K1 (hc 43 rfl) (mo_m ⟨by omega, by have h9 : w32 4 = 4 := (by decide); omega⟩).1) ?_
      obtain ⟨r3, hr3, hf⟩ := lt_elim hf
      refine ev_rn (congrArg (vr g) hr3) ?_
      have kr3 : isMo r3 := by rw [hr3]; exact (mo_m ⟨by omega, by have h9 : w32 4 = 4 := (by decide); omega⟩).2
      refine ev_astore_n (al2 := [(3, vr g r3), (0, vr g 0), (1, vi mark0), (2, vb back)]) dX11_mark_21 3 rfl (by decide) rfl ?_
      refine ev_iload_n dX11_mark_22 3 rfl ?_
      refine ev_ifb_ne 36 dX11_mark_23 (by decide) (fun h4 => ?_) (fun h4 => ?_)
      · rw [if_pos h4] at hf
        refine ev_aload_n dX11_mark_36 0 rfl ?_
        refine cl_V1 (As := []) (st := []) miX5_isLaid (tX5_isLaid hS (hc.w rfl rfl) r3 μ kr3 (o := ((μ r3 0) != 0)) rfl) dX11_mark_37 lkX11_335 inX5_isLaid rfl (hS.lt (hc _ (inR_w (i_Mo0 kr3) rfl rfl))) (s_Mo0 kr3) ⟨rfl, rfl⟩ ⟨⟨Nat.le_of_ble_eq_true rfl, Nat.le_of_ble_eq_true rfl⟩, Nat.zero_le _, Nat.zero_le _⟩ (Nat.le_of_ble_eq_true rfl) ?_
        refine ev_ifb_ne 45 dX11_mark_40 (by decide) (fun h5 => ?_) (fun h5 => ?_)
        · rw [if_pos h5] at hf
          refine ev_aload_n dX11_mark_45 1 rfl ?_
          refine ev_getK 7 dX11_mark_46 (hS.lt (hc 0 rfl)) rfl (hS.K1 (hc 0 rfl) rfl) ciX11 (by decide) rfl flX11_58 ?_
          refine ev_aload_n dX11_mark_49 0 rfl ?_
          obtain ⟨μ6, hμ6, hf⟩ := Option.bind_eq_some_iff.mp hf
          refine cl_V0 (As := [vr g r3]) (st := []) miX5_become (tX5_become hS (hc.w rfl rfl) 41 r3 μ (by simp [isMo]) kr3 hμ6) dX11_mark_50 lkX11_332 inX5_become rfl (hS.lt (hc 41 rfl)) rfl ⟨rfl, rfl⟩ ⟨⟨Nat.le_of_ble_eq_true rfl, Nat.le_of_ble_eq_true rfl⟩, Nat.zero_le _, Nat.zero_le _⟩ (Nat.le_of_ble_eq_true rfl) ?_
          refine ev_aload_n dX11_mark_53 1 rfl ?_
          refine ev_iconst dX11_mark_54 ?_
          obtain ⟨μ7, hμ7, hf⟩ := lt_elim hf
          refine ev_putI 11 dX11_mark_55 (hS.lt (hc 0 rfl)) rfl ciX11 (by decide) (Or.inl rfl) rfl rfl flX11_198 (hS.up (hc 0 rfl) hμ7) ?_
          refine ev_iconst dX11_mark_58 ?_
          obtain rfl := Option.some.inj hf
          exact ev_bret (b := true) dX11_mark_59 rfl ⟨Nat.zero_le _, Nat.zero_le _⟩ hr
        · rw [if_neg h5] at hf
          refine ev_iconst dX11_mark_43 ?_
          obtain rfl := Option.some.inj hf
          exact ev_bret (b := false) dX11_mark_44 rfl ⟨Nat.zero_le _, Nat.zero_le _⟩ hr
      · rw [if_neg h4] at hf
        refine ev_aload_n dX11_mark_26 0 rfl ?_
        refine ev_aload_n dX11_mark_27 1 rfl ?_
        refine ev_getK 7 dX11_mark_28 (hS.lt (hc 0 rfl)) rfl (hS.K1 (hc 0 rfl) rfl) ciX11 (by decide) rfl flX11_58 ?_
        obtain ⟨μ8, hμ8, hf⟩ := Option.bind_eq_some_iff.mp hf
        refine cl_V0 (As := [vr g 41]) (st := []) miX5_become (tX5_become hS (hc.w rfl rfl) r3 41 μ kr3 (by simp [isMo]) hμ8) dX11_mark_31 lkX11_332 inX5_become rfl (hS.lt (hc _ (inR_w (i_Mo0 kr3) rfl rfl))) (s_Mo0 kr3) ⟨rfl, rfl⟩ ⟨⟨Nat.le_of_ble_eq_true rfl, Nat.le_of_ble_eq_true rfl⟩, Nat.zero_le _, Nat.zero_le _⟩ (Nat.le_of_ble_eq_true rfl) ?_
        refine ev_iconst dX11_mark_34 ?_
        obtain rfl := Option.some.inj hf
        exact ev_bret (b := true) dX11_mark_35 rfl ⟨Nat.zero_le _, Nat.zero_le _⟩ hr
    · rw [if_neg h2] at hf
      refine ev_iconst dX11_mark_13 ?_
      obtain rfl := Option.some.inj hf
      exact ev_bret (b := false) dX11_mark_14 rfl ⟨Nat.zero_le _, Nat.zero_le _⟩ hr
theorem tX11_mark (hS : Sd M K P L) (hc : CIn P 0 75) (mark0 : Int) (back : Bool) (μ : Mem) {o : Bool × Mem} (hf : fX11_mark mark0 back μ = some o) : Cn l D cy g K K yX11_mark cX11_mark 4 (some .boolean) (rmd 3 0 0) [vr g 0, vi mark0, vb back] M x (L μ) (PE (some (vb o.1)) M x (L o.2)) :=
 Cn.of (by decide) (Nat.le_of_ble_eq_true rfl) (eX11_mark hS hc mark0 back μ hf (PE_i _ _ _ _))
def fX5_turns (k : Nat) (μ : Mem) : Int :=
  (μ k 2)
set_option maxRecDepth 4000 in
theorem eX5_turns (hS : Sd M K P L) (hc : CIn P 1 75) (k : Nat) (μ : Mem) (hk : isMo k) {o : Int} (hf : fX5_turns k μ = o) (hr : (fun o : Int => Φ (some (vi o)) M x (L μ)) o) : Ev l D cy g K yX5_turns cX5_turns 1 (some .int) (rmd 1 0 0) (MX D cy g K (rmd 1 0 0) Φ) 0 0 M x (L μ) 0 [(0, vr g k)] [] := by
  unfold fX5_turns at hf
  refine ev_aload_n dX5_turns_0 0 rfl ?_
  refine ev_getI 2 dX5_turns_1 (hS.lt (hc _ (inR_w (i_Mo0 hk) rfl rfl))) (s_Mo0 hk) (hS.mem _ (hc _ (inR_w (i_Mo0 hk) rfl rfl))) ciX5 (by decide) rfl flX5_23 ?_
  obtain rfl := hf
  exact ev_iret dX5_turns_4 rfl ⟨Nat.zero_le _, Nat.zero_le _⟩ hr
theorem tX5_turns (hS : Sd M K P L) (hc : CIn P 1 75) (k : Nat) (μ : Mem) (hk : isMo k) {o : Int} (hf : fX5_turns k μ = o) : Cn l D cy g K K yX5_turns cX5_turns 1 (some .int) (rmd 1 0 0) [vr g k] M x (L μ) (PE (some (vi o)) M x (L μ)) :=
 Cn.of (by decide) (Nat.le_of_ble_eq_true rfl) (eX5_turns hS hc k μ hk hf (PE_i _ _ _ _))
def fX5_spent (k : Nat) (μ : Mem) : Int :=
  (μ k 3)
set_option maxRecDepth 4000 in
theorem eX5_spent (hS : Sd M K P L) (hc : CIn P 1 75) (k : Nat) (μ : Mem) (hk : isMo k) {o : Int} (hf : fX5_spent k μ = o) (hr : (fun o : Int => Φ (some (vi o)) M x (L μ)) o) : Ev l D cy g K yX5_spent cX5_spent 1 (some .int) (rmd 1 0 0) (MX D cy g K (rmd 1 0 0) Φ) 0 0 M x (L μ) 0 [(0, vr g k)] [] := by
  unfold fX5_spent at hf
  refine ev_aload_n dX5_spent_0 0 rfl ?_
  refine ev_getI 3 dX5_spent_1 (hS.lt (hc _ (inR_w (i_Mo0 hk) rfl rfl))) (s_Mo0 hk) (hS.mem _ (hc _ (inR_w (i_Mo0 hk) rfl rfl))) ciX5 (by decide) rfl flX5_26 ?_
  obtain rfl := hf
  exact ev_iret dX5_spent_4 rfl ⟨Nat.zero_le _, Nat.zero_le _⟩ hr
theorem tX5_spent (hS : Sd M K P L) (hc : CIn P 1 75) (k : Nat) (μ : Mem) (hk : isMo k) {o : Int} (hf : fX5_spent k μ = o) : Cn l D cy g K K yX5_spent cX5_spent 1 (some .int) (rmd 1 0 0) [vr g k] M x (L μ) (PE (some (vi o)) M x (L μ)) :=
 Cn.of (by decide) (Nat.le_of_ble_eq_true rfl) (eX5_spent hS hc k μ hk hf (PE_i _ _ _ _))
def fX11_openBits_b4 (v1 : Int) (v2 : Int) (μ : Mem) : Option ((Int × Int) ⊕ (Int)) :=
  if w32 v2 ≤ w32 (μ 25 1) then
    if (fX7_isOpen (μ 41 1) v2 μ) = true then
      lt (i_or v1 (i_shl 1 (v2 - 1))) fun v5 =>
      some (.inl (v5, (v2 + 1)))
    else
      some (.inl (v1, (v2 + 1)))
  else
    some (.inr v1)
set_option maxRecDepth 4000 in
theorem tX11_openBits_b4 (hS : Sd M K P L) (hc : CIn P 0 75) (v1 : Int) (v2 : Int) (μ : Mem)  {o : (Int × Int) ⊕ (Int)} (hf : fX11_openBits_b4 v1 v2 μ = some o) (hr : (Sum.elim (fun s : Int × Int => Ev l D cy g K yX11_openBits cX11_openBits 3 (some .int) (rmd 4 0 0) (MX D cy g K (rmd 4 0 0) Φ) 0 0 M x (L μ) 4 [(0, vr g 0), (1, vi s.1), (2, vi s.2)] []) (fun e : Int => Ev l D cy g K yX11_openBits cX11_openBits 3 (some .int) (rmd 4 0 0) (MX D cy g K (rmd 4 0 0) Φ) 0 0 M x (L μ) 47 [(1, vi e)] [])) o) : Ev l D cy g K yX11_openBits cX11_openBits 3 (some .int) (rmd 4 0 0) (MX D cy g K (rmd 4 0 0) Φ) 0 0 M x (L μ) 4 [(0, vr g 0), (1, vi v1), (2, vi v2)] [] := by
  unfold fX11_openBits_b4 at hf
  refine ev_iload_n dX11_openBits_4 2 rfl ?_
  refine ev_aload_n dX11_openBits_5 0 rfl ?_
  refine ev_getK 4 dX11_openBits_6 (hS.lt (hc 0 rfl)) rfl (hS.K1 (hc 0 rfl) rfl) ciX11 (by decide) rfl flX11_40 ?_
  refine cl_V1 (As := []) (st := [vi v2]) miX7_cakes (tX7_cakes hS (hc.w rfl rfl) μ (o := (μ 25 1)) rfl) dX11_openBits_9 lkX11_133 inX7_cakes rfl (hS.lt (hc 25 rfl)) rfl ⟨rfl, rfl⟩ ⟨⟨Nat.le_of_ble_eq_true rfl, Nat.le_of_ble_eq_true rfl⟩, Nat.zero_le _, Nat.zero_le _⟩ (Nat.le_of_ble_eq_true rfl) ?_
  refine ev_icmp_gt 47 dX11_openBits_12 (by decide) (fun h3 => ?_) (fun h3 => ?_)
  · rw [if_neg h3] at hf
    obtain rfl := Option.some.inj hf
    refine ev_sub [1] rfl ?_
    exact hr
  · rw [if_pos h3] at hf
    refine ev_aload_n dX11_openBits_15 0 rfl ?_
    refine ev_getK 4 dX11_openBits_16 (hS.lt (hc 0 rfl)) rfl (hS.K1 (hc 0 rfl) rfl) ciX11 (by decide) rfl flX11_40 ?_
    refine ev_aload_n dX11_openBits_19 0 rfl ?_
    refine ev_getK 7 dX11_openBits_20 (hS.lt (hc 0 rfl)) rfl (hS.K1 (hc 0 rfl) rfl) ciX11 (by decide) rfl flX11_58 ?_
    refine cl_V1 (As := []) (st := [vr g 25]) miX5_stack (tX5_stack hS (hc.w rfl rfl) 41 μ (by simp [isMo]) (o := (μ 41 1)) rfl) dX11_openBits_23 lkX11_167 inX5_stack rfl (hS.lt (hc 41 rfl)) rfl ⟨rfl, rfl⟩ ⟨⟨Nat.le_of_ble_eq_true rfl, Nat.le_of_ble_eq_true rfl⟩, Nat.zero_le _, Nat.zero_le _⟩ (Nat.le_of_ble_eq_true rfl) ?_
    refine ev_iload_n dX11_openBits_26 2 rfl ?_
    refine cl_V1 (As := [vi (μ 41 1), vi v2]) (st := []) miX7_isOpen (tX7_isOpen hS (hc.w rfl rfl) (μ 41 1) v2 μ (o := (fX7_isOpen (μ 41 1) v2 μ)) rfl) dX11_openBits_27 lkX11_181 inX7_isOpen rfl (hS.lt (hc 25 rfl)) rfl ⟨rfl, rfl⟩ ⟨⟨Nat.le_of_ble_eq_true rfl, Nat.le_of_ble_eq_true rfl⟩, Nat.zero_le _, Nat.zero_le _⟩ (Nat.le_of_ble_eq_true rfl) ?_
    refine ev_ifb_eq 41 dX11_openBits_30 (by decide) (fun h4 => ?_) (fun h4 => ?_)
    · rw [if_neg h4] at hf
      refine ev_iinc (al2 := [(2, vi (v2 + 1)), (0, vr g 0), (1, vi v1)]) dX11_openBits_41 2 rfl (by decide) rfl ?_
      refine ev_goto 4 dX11_openBits_44 (by decide) ?_
      obtain rfl := Option.some.inj hf
      refine ev_sub [1, 2, 0] rfl ?_
      exact hr
    · rw [if_pos h4] at hf
      refine ev_iload_n dX11_openBits_33 1 rfl ?_
      refine ev_iconst dX11_openBits_34 ?_
      refine ev_iload_n dX11_openBits_35 2 rfl ?_
      refine ev_iconst dX11_openBits_36 ?_
      refine ev_isub dX11_openBits_37 ?_
      refine ev_ishl dX11_openBits_38 ?_
      refine ev_ior dX11_openBits_39 ?_
      obtain ⟨v5, hv5, hf⟩ := lt_elim hf
      refine ev_rni hv5 ?_
      refine ev_istore_n (al2 := [(1, vi v5), (0, vr g 0), (2, vi v2)]) dX11_openBits_40 1 rfl (by decide) rfl ?_
      refine ev_iinc (al2 := [(2, vi (v2 + 1)), (1, vi v5), (0, vr g 0)]) dX11_openBits_41 2 rfl (by decide) rfl ?_
      refine ev_goto 4 dX11_openBits_44 (by decide) ?_
      obtain rfl := Option.some.inj hf
      refine ev_sub [2, 1, 0] rfl ?_
      exact hr
def fX11_openBits  (μ : Mem) : Option (Int) :=
  (loopN (fun s => fX11_openBits_b4 s.1 s.2 μ) FU (0, 1)).bind fun q6 =>
  some (q6)
set_option maxRecDepth 4000 in
theorem eX11_openBits (hS : Sd M K P L) (hc : CIn P 0 75)  (μ : Mem)  {o : Int} (hf : fX11_openBits  μ = some o) (hr : (fun o : Int => Φ (some (vi o)) M x (L μ)) o) : Ev l D cy g K yX11_openBits cX11_openBits 3 (some .int) (rmd 4 0 0) (MX D cy g K (rmd 4 0 0) Φ) 0 0 M x (L μ) 0 [(0, vr g 0)] [] := by
  unfold fX11_openBits at hf
  refine ev_iconst dX11_openBits_0 ?_
  refine ev_istore_n (al2 := [(1, vi 0), (0, vr g 0)]) dX11_openBits_1 1 rfl (by decide) rfl ?_
  refine ev_iconst dX11_openBits_2 ?_
  refine ev_istore_n (al2 := [(2, vi 1), (1, vi 0), (0, vr g 0)]) dX11_openBits_3 2 rfl (by decide) rfl ?_
  obtain ⟨q6, hq6, hf⟩ := Option.bind_eq_some_iff.mp hf
  refine ev_sub [2, 1, 0] rfl ?_
  refine loop_ev (H := (fun s : Int × Int => Ev l D cy g K yX11_openBits cX11_openBits 3 (some .int) (rmd 4 0 0) (MX D cy g K (rmd 4 0 0) Φ) 0 0 M x (L μ) 4 [(0, vr g 0), (1, vi s.1), (2, vi s.2)] [])) (Hx := (fun e : Int => Ev l D cy g K yX11_openBits cX11_openBits 3 (some .int) (rmd 4 0 0) (MX D cy g K (rmd 4 0 0) Φ) 0 0 M x (L μ) 47 [(1, vi e)] [])) (fun s o hb hr => tX11_openBits_b4 hS hc s.1 s.2 μ hb hr) FU _ _ hq6 ?_
  show Ev l D cy g K yX11_openBits cX11_openBits 3 (some .int) (rmd 4 0 0) (MX D cy g K (rmd 4 0 0) Φ) 0 0 M x (L μ) 47 [(1, vi q6)] []
  refine ev_iload_n dX11_openBits_47 0 rfl ?_
  obtain rfl := Option.some.inj hf
  exact ev_iret dX11_openBits_48 rfl ⟨Nat.zero_le _, Nat.zero_le _⟩ hr
theorem tX11_openBits (hS : Sd M K P L) (hc : CIn P 0 75) (μ : Mem) {o : Int} (hf : fX11_openBits μ = some o) : Cn l D cy g K K yX11_openBits cX11_openBits 3 (some .int) (rmd 4 0 0) [vr g 0] M x (L μ) (PE (some (vi o)) M x (L μ)) :=
 Cn.of (by decide) (Nat.le_of_ble_eq_true rfl) (eX11_openBits hS hc μ hf (PE_i _ _ _ _))
def fX5_seen (k : Nat) (μ : Mem) : Int :=
  (μ k 4)
set_option maxRecDepth 4000 in
theorem eX5_seen (hS : Sd M K P L) (hc : CIn P 1 75) (k : Nat) (μ : Mem) (hk : isMo k) {o : Int} (hf : fX5_seen k μ = o) (hr : (fun o : Int => Φ (some (vi o)) M x (L μ)) o) : Ev l D cy g K yX5_seen cX5_seen 1 (some .int) (rmd 1 0 0) (MX D cy g K (rmd 1 0 0) Φ) 0 0 M x (L μ) 0 [(0, vr g k)] [] := by
  unfold fX5_seen at hf
  refine ev_aload_n dX5_seen_0 0 rfl ?_
  refine ev_getI 4 dX5_seen_1 (hS.lt (hc _ (inR_w (i_Mo0 hk) rfl rfl))) (s_Mo0 hk) (hS.mem _ (hc _ (inR_w (i_Mo0 hk) rfl rfl))) ciX5 (by decide) rfl flX5_29 ?_
  obtain rfl := hf
  exact ev_iret dX5_seen_4 rfl ⟨Nat.zero_le _, Nat.zero_le _⟩ hr
theorem tX5_seen (hS : Sd M K P L) (hc : CIn P 1 75) (k : Nat) (μ : Mem) (hk : isMo k) {o : Int} (hf : fX5_seen k μ = o) : Cn l D cy g K K yX5_seen cX5_seen 1 (some .int) (rmd 1 0 0) [vr g k] M x (L μ) (PE (some (vi o)) M x (L μ)) :=
 Cn.of (by decide) (Nat.le_of_ble_eq_true rfl) (eX5_seen hS hc k μ hk hf (PE_i _ _ _ _))
def fX11_count (what : Int) (μ : Mem) : Option (Int) :=
  if w32 what = 0 then
    some ((μ 25 1))
  else
    if w32 what = 1 then
      some ((i_shl (μ 25 3) (μ 25 2)))
    else
      if w32 what = 2 then
        some ((μ 41 2))
      else
        if w32 what = 3 then
          some ((μ 41 3))
        else
          if w32 what = 4 then
            (fX11_openBits μ).bind fun v6 =>
            some (v6)
          else
            if w32 what = 5 then
              some ((μ 39 1))
            else
              if w32 what = 6 then
                lt (if w32 (μ 0 6) = w32 (-1) then
                    0
                  else
                    (μ 25 1)) fun v9 =>
                some (v9)
              else
                if w32 what = 7 then
                  some ((μ 41 4))
                else
                  if w32 what = 8 then
                    some ((μ 0 11))
                  else
                    if w32 what = 9 then
                      some ((μ 1 1))
                    else
                      some ((-1))
set_option maxRecDepth 4000 in
theorem eX11_count (hS : Sd M K P L) (hc : CIn P 0 75) (what : Int) (μ : Mem)  {o : Int} (hf : fX11_count what μ = some o) (hr : (fun o : Int => Φ (some (vi o)) M x (L μ)) o) : Ev l D cy g K yX11_count cX11_count 2 (some .int) (rmd 5 0 0) (MX D cy g K (rmd 5 0 0) Φ) 0 0 M x (L μ) 0 [(0, vr g 0), (1, vi what)] [] := by
  unfold fX11_count at hf
  refine ev_iload_n dX11_count_0 1 rfl ?_
  by_cases h1 : w32 what = 0
  · rw [if_pos h1] at hf
    refine ev_tableIn 56 0 dX11_count_1 h1 (by decide) (by decide) rfl (by decide) ?_
    refine ev_aload_n dX11_count_56 0 rfl ?_
    refine ev_getK 4 dX11_count_57 (hS.lt (hc 0 rfl)) rfl (hS.K1 (hc 0 rfl) rfl) ciX11 (by decide) rfl flX11_40 ?_
    refine cl_V1 (As := []) (st := []) miX7_cakes (tX7_cakes hS (hc.w rfl rfl) μ (o := (μ 25 1)) rfl) dX11_count_60 lkX11_133 inX7_cakes rfl (hS.lt (hc 25 rfl)) rfl ⟨rfl, rfl⟩ ⟨⟨Nat.le_of_ble_eq_true rfl, Nat.le_of_ble_eq_true rfl⟩, Nat.zero_le _, Nat.zero_le _⟩ (Nat.le_of_ble_eq_true rfl) ?_
    obtain rfl := Option.some.inj hf
    exact ev_iret dX11_count_63 rfl ⟨Nat.zero_le _, Nat.zero_le _⟩ hr
  · rw [if_neg h1] at hf
    by_cases h2 : w32 what = 1
    · rw [if_pos h2] at hf
      refine ev_tableIn 64 1 dX11_count_1 h2 (by decide) (by decide) rfl (by decide) ?_
      refine ev_aload_n dX11_count_64 0 rfl ?_
      refine ev_getK 4 dX11_count_65 (hS.lt (hc 0 rfl)) rfl (hS.K1 (hc 0 rfl) rfl) ciX11 (by decide) rfl flX11_40 ?_
      refine cl_V1 (As := []) (st := []) miX7_all (tX7_all hS (hc.w rfl rfl) μ (o := (i_shl (μ 25 3) (μ 25 2))) rfl) dX11_count_68 lkX11_289 inX7_all rfl (hS.lt (hc 25 rfl)) rfl ⟨rfl, rfl⟩ ⟨⟨Nat.le_of_ble_eq_true rfl, Nat.le_of_ble_eq_true rfl⟩, Nat.zero_le _, Nat.zero_le _⟩ (Nat.le_of_ble_eq_true rfl) ?_
      obtain rfl := Option.some.inj hf
      exact ev_iret dX11_count_71 rfl ⟨Nat.zero_le _, Nat.zero_le _⟩ hr
    · rw [if_neg h2] at hf
      by_cases h3 : w32 what = 2
      · rw [if_pos h3] at hf
        refine ev_tableIn 72 2 dX11_count_1 h3 (by decide) (by decide) rfl (by decide) ?_
        refine ev_aload_n dX11_count_72 0 rfl ?_
        refine ev_getK 7 dX11_count_73 (hS.lt (hc 0 rfl)) rfl (hS.K1 (hc 0 rfl) rfl) ciX11 (by decide) rfl flX11_58 ?_
        refine cl_V1 (As := []) (st := []) miX5_turns (tX5_turns hS (hc.w rfl rfl) 41 μ (by simp [isMo]) (o := (μ 41 2)) rfl) dX11_count_76 lkX11_339 inX5_turns rfl (hS.lt (hc 41 rfl)) rfl ⟨rfl, rfl⟩ ⟨⟨Nat.le_of_ble_eq_true rfl, Nat.le_of_ble_eq_true rfl⟩, Nat.zero_le _, Nat.zero_le _⟩ (Nat.le_of_ble_eq_true rfl) ?_
        obtain rfl := Option.some.inj hf
        exact ev_iret dX11_count_79 rfl ⟨Nat.zero_le _, Nat.zero_le _⟩ hr
      · rw [if_neg h3] at hf
        by_cases h4 : w32 what = 3
        · rw [if_pos h4] at hf
          refine ev_tableIn 80 3 dX11_count_1 h4 (by decide) (by decide) rfl (by decide) ?_
          refine ev_aload_n dX11_count_80 0 rfl ?_
          refine ev_getK 7 dX11_count_81 (hS.lt (hc 0 rfl)) rfl (hS.K1 (hc 0 rfl) rfl) ciX11 (by decide) rfl flX11_58 ?_
          refine cl_V1 (As := []) (st := []) miX5_spent (tX5_spent hS (hc.w rfl rfl) 41 μ (by simp [isMo]) (o := (μ 41 3)) rfl) dX11_count_84 lkX11_342 inX5_spent rfl (hS.lt (hc 41 rfl)) rfl ⟨rfl, rfl⟩ ⟨⟨Nat.le_of_ble_eq_true rfl, Nat.le_of_ble_eq_true rfl⟩, Nat.zero_le _, Nat.zero_le _⟩ (Nat.le_of_ble_eq_true rfl) ?_
          obtain rfl := Option.some.inj hf
          exact ev_iret dX11_count_87 rfl ⟨Nat.zero_le _, Nat.zero_le _⟩ hr
        · rw [if_neg h4] at hf
          by_cases h5 : w32 what = 4
          · rw [if_pos h5] at hf
            refine ev_tableIn 88 4 dX11_count_1 h5 (by decide) (by decide) rfl (by decide) ?_
            refine ev_aload_n dX11_count_88 0 rfl ?_
            obtain ⟨v6, hv6, hf⟩ := Option.bind_eq_some_iff.mp hf
            refine cl_V1 (As := []) (st := []) miX11_openBits (tX11_openBits hS (hc.w rfl rfl) μ hv6) dX11_count_89 lkX11_345 inX11_openBits rfl (hS.lt (hc 0 rfl)) rfl ⟨rfl, rfl⟩ ⟨⟨Nat.le_of_ble_eq_true rfl, Nat.le_of_ble_eq_true rfl⟩, Nat.zero_le _, Nat.zero_le _⟩ (Nat.le_of_ble_eq_true rfl) ?_
            obtain rfl := Option.some.inj hf
            exact ev_iret dX11_count_92 rfl ⟨Nat.zero_le _, Nat.zero_le _⟩ hr
          · rw [if_neg h5] at hf
            by_cases h7 : w32 what = 5
            · rw [if_pos h7] at hf
              refine ev_tableIn 93 5 dX11_count_1 h7 (by decide) (by decide) rfl (by decide) ?_
              refine ev_aload_n dX11_count_93 0 rfl ?_
              refine ev_getK 5 dX11_count_94 (hS.lt (hc 0 rfl)) rfl (hS.K1 (hc 0 rfl) rfl) ciX11 (by decide) rfl flX11_47 ?_
              refine cl_V1 (As := []) (st := []) miX4_size (tX4_size hS (hc.w rfl rfl) μ (o := (μ 39 1)) rfl) dX11_count_97 lkX11_271 inX4_size rfl (hS.lt (hc 39 rfl)) rfl ⟨rfl, rfl⟩ ⟨⟨Nat.le_of_ble_eq_true rfl, Nat.le_of_ble_eq_true rfl⟩, Nat.zero_le _, Nat.zero_le _⟩ (Nat.le_of_ble_eq_true rfl) ?_
              obtain rfl := Option.some.inj hf
              exact ev_iret dX11_count_100 rfl ⟨Nat.zero_le _, Nat.zero_le _⟩ hr
            · rw [if_neg h7] at hf
              by_cases h8 : w32 what = 6
              · rw [if_pos h8] at hf
                refine ev_tableIn 101 6 dX11_count_1 h8 (by decide) (by decide) rfl (by decide) ?_
                refine ev_aload_n dX11_count_101 0 rfl ?_
                refine ev_getI 6 dX11_count_102 (hS.lt (hc 0 rfl)) rfl (hS.mem _ (hc 0 rfl)) ciX11 (by decide) rfl flX11_51 ?_
                refine ev_iconst dX11_count_105 ?_
                obtain ⟨v9, hv9, hf⟩ := lt_elim hf
                have hJv9 : Ev l D cy g K yX11_count cX11_count 2 (some .int) (rmd 5 0 0) (MX D cy g K (rmd 5 0 0) Φ) 0 0 M x (L μ) 120 [(0, vr g 0), (1, vi what)] [vi v9] := by
                  obtain rfl := Option.some.inj hf
                  exact ev_iret dX11_count_120 rfl ⟨Nat.zero_le _, Nat.zero_le _⟩ hr
                refine ev_icmp_ne 113 dX11_count_106 (by decide) (fun h10 => ?_) (fun h10 => ?_)
                · refine ev_aload_n dX11_count_113 0 rfl ?_
                  refine ev_getK 4 dX11_count_114 (hS.lt (hc 0 rfl)) rfl (hS.K1 (hc 0 rfl) rfl) ciX11 (by decide) rfl flX11_40 ?_
                  refine cl_V1 (As := []) (st := []) miX7_cakes (tX7_cakes hS (hc.w rfl rfl) μ (o := (μ 25 1)) rfl) dX11_count_117 lkX11_133 inX7_cakes rfl (hS.lt (hc 25 rfl)) rfl ⟨rfl, rfl⟩ ⟨⟨Nat.le_of_ble_eq_true rfl, Nat.le_of_ble_eq_true rfl⟩, Nat.zero_le _, Nat.zero_le _⟩ (Nat.le_of_ble_eq_true rfl) ?_
                  have e9 : v9 = (μ 25 1) := hv9.trans ((if_neg h10))
                  subst e9
                  exact hJv9
                · refine ev_iconst dX11_count_109 ?_
                  refine ev_goto 120 dX11_count_110 (by decide) ?_
                  have e9 : v9 = 0 := hv9.trans ((if_pos h10))
                  subst e9
                  exact hJv9
              · rw [if_neg h8] at hf
                by_cases h11 : w32 what = 7
                · rw [if_pos h11] at hf
                  refine ev_tableIn 121 7 dX11_count_1 h11 (by decide) (by decide) rfl (by decide) ?_
                  refine ev_aload_n dX11_count_121 0 rfl ?_
                  refine ev_getK 7 dX11_count_122 (hS.lt (hc 0 rfl)) rfl (hS.K1 (hc 0 rfl) rfl) ciX11 (by decide) rfl flX11_58 ?_
                  refine cl_V1 (As := []) (st := []) miX5_seen (tX5_seen hS (hc.w rfl rfl) 41 μ (by simp [isMo]) (o := (μ 41 4)) rfl) dX11_count_125 lkX11_348 inX5_seen rfl (hS.lt (hc 41 rfl)) rfl ⟨rfl, rfl⟩ ⟨⟨Nat.le_of_ble_eq_true rfl, Nat.le_of_ble_eq_true rfl⟩, Nat.zero_le _, Nat.zero_le _⟩ (Nat.le_of_ble_eq_true rfl) ?_
                  obtain rfl := Option.some.inj hf
                  exact ev_iret dX11_count_128 rfl ⟨Nat.zero_le _, Nat.zero_le _⟩ hr
                · rw [if_neg h11] at hf
                  by_cases h12 : w32 what = 8
                  · rw [if_pos h12] at hf
                    refine ev_tableIn 129 8 dX11_count_1 h12 (by decide) (by decide) rfl (by decide) ?_
                    refine ev_aload_n dX11_count_129 0 rfl ?_
                    refine ev_getI 11 dX11_count_130 (hS.lt (hc 0 rfl)) rfl (hS.mem _ (hc 0 rfl)) ciX11 (by decide) rfl flX11_198 ?_
                    obtain rfl := Option.some.inj hf
                    exact ev_iret dX11_count_133 rfl ⟨Nat.zero_le _, Nat.zero_le _⟩ hr
                  · rw [if_neg h12] at hf
                    by_cases h13 : w32 what = 9
                    · rw [if_pos h13] at hf
                      refine ev_tableIn 134 9 dX11_count_1 h13 (by decide) (by decide) rfl (by decide) ?_
                      refine ev_aload_n dX11_count_134 0 rfl ?_
                      refine ev_getK 0 dX11_count_135 (hS.lt (hc 0 rfl)) rfl (hS.K1 (hc 0 rfl) rfl) ciX11 (by decide) rfl flX11_10 ?_
                      refine cl_V1 (As := []) (st := []) miX9_signs (tX9_signs hS (hc.w rfl rfl) μ (o := (μ 1 1)) rfl) dX11_count_138 lkX11_120 inX9_signs rfl (hS.lt (hc 1 rfl)) rfl ⟨rfl, rfl⟩ ⟨⟨Nat.le_of_ble_eq_true rfl, Nat.le_of_ble_eq_true rfl⟩, Nat.zero_le _, Nat.zero_le _⟩ (Nat.le_of_ble_eq_true rfl) ?_
                      obtain rfl := Option.some.inj hf
                      exact ev_iret dX11_count_141 rfl ⟨Nat.zero_le _, Nat.zero_le _⟩ hr
                    · rw [if_neg h13] at hf
                      refine ev_tableOut 142 dX11_count_1 (by omega) (by decide) ?_
                      refine ev_iconst dX11_count_142 ?_
                      obtain rfl := Option.some.inj hf
                      exact ev_iret dX11_count_143 rfl ⟨Nat.zero_le _, Nat.zero_le _⟩ hr
theorem tX11_count (hS : Sd M K P L) (hc : CIn P 0 75) (what : Int) (μ : Mem) {o : Int} (hf : fX11_count what μ = some o) : Cn l D cy g K K yX11_count cX11_count 2 (some .int) (rmd 5 0 0) [vr g 0, vi what] M x (L μ) (PE (some (vi o)) M x (L μ)) :=
 Cn.of (by decide) (Nat.le_of_ble_eq_true rfl) (eX11_count hS hc what μ hf (PE_i _ _ _ _))
def fX12_thrown  (μ : Mem) : Int :=
  (μ 75 0)
set_option maxRecDepth 4000 in
theorem eX12_thrown (hS : Sd M K P L) (hc : CIn P 75 76)  (μ : Mem)  {o : Int} (hf : fX12_thrown  μ = o) (hr : (fun o : Int => Φ (some (vi o)) M x (L μ)) o) : Ev l D cy g K yX12_thrown cX12_thrown 1 (some .int) (rmd 1 0 0) (MX D cy g K (rmd 1 0 0) Φ) 0 0 M x (L μ) 0 [(0, vr g 75)] [] := by
  unfold fX12_thrown at hf
  refine ev_aload_n dX12_thrown_0 0 rfl ?_
  refine ev_getI 0 dX12_thrown_1 (hS.lt (hc 75 rfl)) rfl (hS.mem _ (hc 75 rfl)) ciX12 (by decide) rfl flX12_1 ?_
  obtain rfl := hf
  exact ev_iret dX12_thrown_4 rfl ⟨Nat.zero_le _, Nat.zero_le _⟩ hr
theorem tX12_thrown (hS : Sd M K P L) (hc : CIn P 75 76) (μ : Mem) {o : Int} (hf : fX12_thrown μ = o) : Cn l D cy g K K yX12_thrown cX12_thrown 1 (some .int) (rmd 1 0 0) [vr g 75] M x (L μ) (PE (some (vi o)) M x (L μ)) :=
 Cn.of (by decide) (Nat.le_of_ble_eq_true rfl) (eX12_thrown hS hc μ hf (PE_i _ _ _ _))
def fX12_lay_j38 (v0 : Int) (v5 : Int) (v6 : Int) (μ : Mem) : Option ((Int × Mem) ⊕ (Mem)) :=
  if w32 (μ 75 2) < w32 1000 then
    gd (0 ≤ w32 (μ 75 2) ∧ w32 (μ 75 2) < 1000) <|
    lt (upd2 μ 76 ((w32 (μ 75 2)).toNat) v6) fun μ9 =>
    lt (upd2 μ9 75 2 ((μ9 75 2) + 1)) fun μ10 =>
    some (.inl ((v5 + (-8)), μ10))
  else
    some (.inl ((v5 + (-8)), μ))
set_option maxRecDepth 4000 in
theorem tX12_lay_j38 (hS : Sd M K P L) (hc : CIn P 75 77) (v0 : Int) (v5 : Int) (v6 : Int) (μ : Mem)  {o : (Int × Mem) ⊕ (Mem)} (hf : fX12_lay_j38 v0 v5 v6 μ = some o) (hr : (Sum.elim (fun s : Int × Mem => Ev l D cy g K yX12_lay cX12_lay 5 none (rmd 1 0 0) (MX D cy g K (rmd 1 0 0) Φ) 0 0 M x (L s.2) 3 [(0, vr g 75), (1, vl v0), (3, vi s.1)] []) (fun e : Mem => Ev l D cy g K yX12_lay cX12_lay 5 none (rmd 1 0 0) (MX D cy g K (rmd 1 0 0) Φ) 0 0 M x (L e) 75 [] [])) o) : Ev l D cy g K yX12_lay cX12_lay 5 none (rmd 1 0 0) (MX D cy g K (rmd 1 0 0) Φ) 0 0 M x (L μ) 38 [(0, vr g 75), (1, vl v0), (3, vi v5), (4, vi v6)] [] := by
  unfold fX12_lay_j38 at hf
  refine ev_aload_n dX12_lay_38 0 rfl ?_
  refine ev_getI 2 dX12_lay_39 (hS.lt (hc 75 rfl)) rfl (hS.mem _ (hc 75 rfl)) ciX12 (by decide) rfl flX12_11 ?_
  refine ev_sipush dX12_lay_42 (by decide) ?_
  refine ev_icmp_ge 69 dX12_lay_45 (by decide) (fun h7 => ?_) (fun h7 => ?_)
  · rw [if_neg h7] at hf
    refine ev_iinc (al2 := [(3, vi (v5 + (-8))), (0, vr g 75), (1, vl v0), (4, vi v6)]) dX12_lay_69 2 rfl (by decide) rfl ?_
    refine ev_goto 3 dX12_lay_72 (by decide) ?_
    obtain rfl := Option.some.inj hf
    refine ev_sub [1, 2, 0] rfl ?_
    exact hr
  · rw [if_pos h7] at hf
    refine ev_aload_n dX12_lay_48 0 rfl ?_
    refine ev_getK 1 dX12_lay_49 (hS.lt (hc 75 rfl)) rfl (hS.K1 (hc 75 rfl) rfl) ciX12 (by decide) rfl flX12_14 ?_
    refine ev_aload_n dX12_lay_52 0 rfl ?_
    refine ev_getI 2 dX12_lay_53 (hS.lt (hc 75 rfl)) rfl (hS.mem _ (hc 75 rfl)) ciX12 (by decide) rfl flX12_11 ?_
    refine ev_iload dX12_lay_56 3 rfl ?_
    obtain ⟨g8, hf⟩ := gd_elim hf
    obtain ⟨μ9, hμ9, hf⟩ := lt_elim hf
    refine ev_iast dX12_lay_58 (hS.lt (hc 76 rfl)) rfl g8 (hS.up (hc 76 rfl) hμ9) ?_
    refine ev_aload_n dX12_lay_59 0 rfl ?_
    refine ev_dup dX12_lay_60 rfl ?_
    refine ev_getI 2 dX12_lay_61 (hS.lt (hc 75 rfl)) rfl (hS.mem _ (hc 75 rfl)) ciX12 (by decide) rfl flX12_11 ?_
    refine ev_iconst dX12_lay_64 ?_
    refine ev_iadd dX12_lay_65 ?_
    obtain ⟨μ10, hμ10, hf⟩ := lt_elim hf
    refine ev_putI 2 dX12_lay_66 (hS.lt (hc 75 rfl)) rfl ciX12 (by decide) (Or.inl rfl) rfl rfl flX12_11 (hS.up (hc 75 rfl) hμ10) ?_
    refine ev_iinc (al2 := [(3, vi (v5 + (-8))), (0, vr g 75), (1, vl v0), (4, vi v6)]) dX12_lay_69 2 rfl (by decide) rfl ?_
    refine ev_goto 3 dX12_lay_72 (by decide) ?_
    obtain rfl := Option.some.inj hf
    refine ev_sub [1, 2, 0] rfl ?_
    exact hr
def fX12_lay_b3 (v0 : Int) (v1 : Int) (μ : Mem) : Option ((Int × Mem) ⊕ (Mem)) :=
  if w32 v1 < 0 then
    some (.inr μ)
  else
    lt (i_and (l_2i (l_shr v0 v1)) 255) fun v3 =>
    if w32 v3 = w32 10 then
      fX12_lay_j38 v0 v1 v3 μ
    else
      if w32 v3 < w32 32 then
        some (.inl ((v1 + (-8)), μ))
      else
        if w32 v3 ≤ w32 126 then
          fX12_lay_j38 v0 v1 v3 μ
        else
          some (.inl ((v1 + (-8)), μ))
set_option maxRecDepth 4000 in
theorem tX12_lay_b3 (hS : Sd M K P L) (hc : CIn P 75 77) (v0 : Int) (v1 : Int) (μ : Mem)  {o : (Int × Mem) ⊕ (Mem)} (hf : fX12_lay_b3 v0 v1 μ = some o) (hr : (Sum.elim (fun s : Int × Mem => Ev l D cy g K yX12_lay cX12_lay 5 none (rmd 1 0 0) (MX D cy g K (rmd 1 0 0) Φ) 0 0 M x (L s.2) 3 [(0, vr g 75), (1, vl v0), (3, vi s.1)] []) (fun e : Mem => Ev l D cy g K yX12_lay cX12_lay 5 none (rmd 1 0 0) (MX D cy g K (rmd 1 0 0) Φ) 0 0 M x (L e) 75 [] [])) o) : Ev l D cy g K yX12_lay cX12_lay 5 none (rmd 1 0 0) (MX D cy g K (rmd 1 0 0) Φ) 0 0 M x (L μ) 3 [(0, vr g 75), (1, vl v0), (3, vi v1)] [] := by
  unfold fX12_lay_b3 at hf
  refine ev_iload_n dX12_lay_3 2 rfl ?_
  refine ev_if_lt 75 dX12_lay_4 (by decide) (fun h2 => ?_) (fun h2 => ?_)
  · rw [if_pos h2] at hf
    obtain rfl := Option.some.inj hf
    refine ev_sub [] rfl ?_
    exact hr
  · rw [if_neg h2] at hf
    refine ev_lload_n dX12_lay_7 1 rfl ?_
    refine ev_iload_n dX12_lay_8 2 rfl ?_
    refine ev_lshr dX12_lay_9 ?_
    refine ev_l2i dX12_lay_10 ?_
    refine ev_sipush dX12_lay_11 (by decide) ?_
    refine ev_iand dX12_lay_14 ?_
    obtain ⟨v3, hv3, hf⟩ := lt_elim hf
    refine ev_rni hv3 ?_
    refine ev_istore (al2 := [(4, vi v3), (0, vr g 75), (1, vl v0), (3, vi v1)]) dX12_lay_15 (by decide) rfl ?_
    refine ev_iload dX12_lay_17 0 rfl ?_
    refine ev_bipush dX12_lay_19 (by decide) ?_
    refine ev_icmp_eq 38 dX12_lay_21 (by decide) (fun h4 => ?_) (fun h4 => ?_)
    · rw [if_pos h4] at hf
      refine ev_sub [1, 2, 3, 0] rfl ?_
      exact tX12_lay_j38 hS hc v0 v1 v3 μ hf hr
    · rw [if_neg h4] at hf
      refine ev_iload dX12_lay_24 0 rfl ?_
      refine ev_bipush dX12_lay_26 (by decide) ?_
      refine ev_icmp_lt 69 dX12_lay_28 (by decide) (fun h11 => ?_) (fun h11 => ?_)
      · rw [if_pos h11] at hf
        refine ev_iinc (al2 := [(3, vi (v1 + (-8))), (4, vi v3), (0, vr g 75), (1, vl v0)]) dX12_lay_69 3 rfl (by decide) rfl ?_
        refine ev_goto 3 dX12_lay_72 (by decide) ?_
        obtain rfl := Option.some.inj hf
        refine ev_sub [2, 3, 0] rfl ?_
        exact hr
      · rw [if_neg h11] at hf
        refine ev_iload dX12_lay_31 0 rfl ?_
        refine ev_bipush dX12_lay_33 (by decide) ?_
        refine ev_icmp_gt 69 dX12_lay_35 (by decide) (fun h12 => ?_) (fun h12 => ?_)
        · rw [if_neg h12] at hf
          refine ev_iinc (al2 := [(3, vi (v1 + (-8))), (4, vi v3), (0, vr g 75), (1, vl v0)]) dX12_lay_69 3 rfl (by decide) rfl ?_
          refine ev_goto 3 dX12_lay_72 (by decide) ?_
          obtain rfl := Option.some.inj hf
          refine ev_sub [2, 3, 0] rfl ?_
          exact hr
        · rw [if_pos h12] at hf
          refine ev_sub [1, 2, 3, 0] rfl ?_
          exact tX12_lay_j38 hS hc v0 v1 v3 μ hf hr
def fX12_lay (v0 : Int) (μ : Mem) : Option (Mem) :=
  (loopN (fun s => fX12_lay_b3 v0 s.1 s.2) FU (56, μ)).bind fun q15 =>
  some (q15)
set_option maxRecDepth 4000 in
theorem eX12_lay (hS : Sd M K P L) (hc : CIn P 75 77) (v0 : Int) (μ : Mem)  {o : Mem} (hf : fX12_lay v0 μ = some o) (hr : (fun o : Mem => Φ none M x (L o)) o) : Ev l D cy g K yX12_lay cX12_lay 5 none (rmd 1 0 0) (MX D cy g K (rmd 1 0 0) Φ) 0 0 M x (L μ) 0 [(0, vr g 75), (1, vl v0)] [] := by
  unfold fX12_lay at hf
  refine ev_bipush dX12_lay_0 (by decide) ?_
  refine ev_istore_n (al2 := [(3, vi 56), (0, vr g 75), (1, vl v0)]) dX12_lay_2 3 rfl (by decide) rfl ?_
  obtain ⟨q15, hq15, hf⟩ := Option.bind_eq_some_iff.mp hf
  refine ev_sub [1, 2, 0] rfl ?_
  refine loop_ev (H := (fun s : Int × Mem => Ev l D cy g K yX12_lay cX12_lay 5 none (rmd 1 0 0) (MX D cy g K (rmd 1 0 0) Φ) 0 0 M x (L s.2) 3 [(0, vr g 75), (1, vl v0), (3, vi s.1)] [])) (Hx := (fun e : Mem => Ev l D cy g K yX12_lay cX12_lay 5 none (rmd 1 0 0) (MX D cy g K (rmd 1 0 0) Φ) 0 0 M x (L e) 75 [] [])) (fun s o hb hr => tX12_lay_b3 hS hc v0 s.1 s.2 hb hr) FU _ _ hq15 ?_
  show Ev l D cy g K yX12_lay cX12_lay 5 none (rmd 1 0 0) (MX D cy g K (rmd 1 0 0) Φ) 0 0 M x (L q15) 75 [] []
  obtain rfl := Option.some.inj hf
  exact ev_vret dX12_lay_75 rfl ⟨Nat.zero_le _, Nat.zero_le _⟩ hr
theorem tX12_lay (hS : Sd M K P L) (hc : CIn P 75 77) (v0 : Int) (μ : Mem) {o : Mem} (hf : fX12_lay v0 μ = some o) : Cn l D cy g K K yX12_lay cX12_lay 5 none (rmd 1 0 0) [vr g 75, vl v0] M x (L μ) (PE none M x (L o)) :=
 Cn.of (by decide) (Nat.le_of_ble_eq_true rfl) (eX12_lay hS hc v0 μ hf (PE_i _ _ _ _))
def fX12_feed (a0 : Int) (b0 : Int) (c0 : Int) (μ : Mem) : Option (Int × Mem) :=
  lt (upd2 μ 75 0 0) fun μ1 =>
  (fX12_lay a0 μ1).bind fun μ2 =>
  (fX12_lay b0 μ2).bind fun μ3 =>
  (fX12_lay c0 μ3).bind fun μ4 =>
  some (((μ4 75 2), μ4))
set_option maxRecDepth 4000 in
theorem eX12_feed (hS : Sd M K P L) (hc : CIn P 75 77) (a0 : Int) (b0 : Int) (c0 : Int) (μ : Mem)  {o : Int × Mem} (hf : fX12_feed a0 b0 c0 μ = some o) (hr : (fun o : Int × Mem => Φ (some (vi o.1)) M x (L o.2)) o) : Ev l D cy g K yX12_feed cX12_feed 7 (some .int) (rmd 2 0 0) (MX D cy g K (rmd 2 0 0) Φ) 0 0 M x (L μ) 0 [(0, vr g 75), (1, vl a0), (3, vl b0), (5, vl c0)] [] := by
  unfold fX12_feed at hf
  refine ev_aload_n dX12_feed_0 0 rfl ?_
  refine ev_iconst dX12_feed_1 ?_
  obtain ⟨μ1, hμ1, hf⟩ := lt_elim hf
  refine ev_putI 0 dX12_feed_2 (hS.lt (hc 75 rfl)) rfl ciX12 (by decide) (Or.inl rfl) rfl rfl flX12_1 (hS.up (hc 75 rfl) hμ1) ?_
  refine ev_aload_n dX12_feed_5 0 rfl ?_
  refine ev_lload_n dX12_feed_6 1 rfl ?_
  obtain ⟨μ2, hμ2, hf⟩ := Option.bind_eq_some_iff.mp hf
  refine cl_V0 (As := [vl a0]) (st := []) miX12_lay (tX12_lay hS (hc.w rfl rfl) a0 μ1 hμ2) dX12_feed_7 lkX12_7 inX12_lay rfl (hS.lt (hc 75 rfl)) rfl ⟨rfl, rfl⟩ ⟨⟨Nat.le_of_ble_eq_true rfl, Nat.le_of_ble_eq_true rfl⟩, Nat.zero_le _, Nat.zero_le _⟩ (Nat.le_of_ble_eq_true rfl) ?_
  refine ev_aload_n dX12_feed_10 0 rfl ?_
  refine ev_lload_n dX12_feed_11 2 rfl ?_
  obtain ⟨μ3, hμ3, hf⟩ := Option.bind_eq_some_iff.mp hf
  refine cl_V0 (As := [vl b0]) (st := []) miX12_lay (tX12_lay hS (hc.w rfl rfl) b0 μ2 hμ3) dX12_feed_12 lkX12_7 inX12_lay rfl (hS.lt (hc 75 rfl)) rfl ⟨rfl, rfl⟩ ⟨⟨Nat.le_of_ble_eq_true rfl, Nat.le_of_ble_eq_true rfl⟩, Nat.zero_le _, Nat.zero_le _⟩ (Nat.le_of_ble_eq_true rfl) ?_
  refine ev_aload_n dX12_feed_15 0 rfl ?_
  refine ev_lload dX12_feed_16 3 rfl ?_
  obtain ⟨μ4, hμ4, hf⟩ := Option.bind_eq_some_iff.mp hf
  refine cl_V0 (As := [vl c0]) (st := []) miX12_lay (tX12_lay hS (hc.w rfl rfl) c0 μ3 hμ4) dX12_feed_18 lkX12_7 inX12_lay rfl (hS.lt (hc 75 rfl)) rfl ⟨rfl, rfl⟩ ⟨⟨Nat.le_of_ble_eq_true rfl, Nat.le_of_ble_eq_true rfl⟩, Nat.zero_le _, Nat.zero_le _⟩ (Nat.le_of_ble_eq_true rfl) ?_
  refine ev_aload_n dX12_feed_21 0 rfl ?_
  refine ev_getI 2 dX12_feed_22 (hS.lt (hc 75 rfl)) rfl (hS.mem _ (hc 75 rfl)) ciX12 (by decide) rfl flX12_11 ?_
  obtain rfl := Option.some.inj hf
  exact ev_iret dX12_feed_25 rfl ⟨Nat.zero_le _, Nat.zero_le _⟩ hr
theorem tX12_feed (hS : Sd M K P L) (hc : CIn P 75 77) (a0 : Int) (b0 : Int) (c0 : Int) (μ : Mem) {o : Int × Mem} (hf : fX12_feed a0 b0 c0 μ = some o) : Cn l D cy g K K yX12_feed cX12_feed 7 (some .int) (rmd 2 0 0) [vr g 75, vl a0, vl b0, vl c0] M x (L μ) (PE (some (vi o.1)) M x (L o.2)) :=
 Cn.of (by decide) (Nat.le_of_ble_eq_true rfl) (eX12_feed hS hc a0 b0 c0 μ hf (PE_i _ _ _ _))
def fX12_standsAsAlways_b2 (at0 : Int) (v1 : Int) (μ : Mem) : Option ((Int × Mem) ⊕ (Mem)) :=
  if w32 v1 < w32 20 then
    gd (0 ≤ w32 (at0 + v1) ∧ w32 (at0 + v1) < 40) <|
    lt (upd2 μ 81 ((w32 (at0 + v1)).toNat) 0) fun μ4 =>
    some (.inl ((v1 + 1), μ4))
  else
    some (.inr μ)
set_option maxRecDepth 4000 in
theorem tX12_standsAsAlways_b2 (hS : Sd M K P L) (hc : CIn P 75 82) (at0 : Int) (v1 : Int) (μ : Mem)  {o : (Int × Mem) ⊕ (Mem)} (hf : fX12_standsAsAlways_b2 at0 v1 μ = some o) (hr : (Sum.elim (fun s : Int × Mem => Ev l D cy g K yX12_standsAsAlways cX12_standsAsAlways 3 none (rmd 1 0 0) (MX D cy g K (rmd 1 0 0) Φ) 0 0 M x (L s.2) 2 [(0, vr g 75), (1, vi at0), (2, vi s.1)] []) (fun e : Mem => Ev l D cy g K yX12_standsAsAlways cX12_standsAsAlways 3 none (rmd 1 0 0) (MX D cy g K (rmd 1 0 0) Φ) 0 0 M x (L e) 23 [(0, vr g 75), (1, vi at0)] [])) o) : Ev l D cy g K yX12_standsAsAlways cX12_standsAsAlways 3 none (rmd 1 0 0) (MX D cy g K (rmd 1 0 0) Φ) 0 0 M x (L μ) 2 [(0, vr g 75), (1, vi at0), (2, vi v1)] [] := by
  unfold fX12_standsAsAlways_b2 at hf
  refine ev_iload_n dX12_standsAsAlways_2 2 rfl ?_
  refine ev_bipush dX12_standsAsAlways_3 (by decide) ?_
  refine ev_icmp_ge 23 dX12_standsAsAlways_5 (by decide) (fun h2 => ?_) (fun h2 => ?_)
  · rw [if_neg h2] at hf
    obtain rfl := Option.some.inj hf
    refine ev_sub [0, 1] rfl ?_
    exact hr
  · rw [if_pos h2] at hf
    refine ev_aload_n dX12_standsAsAlways_8 0 rfl ?_
    refine ev_getK 10 dX12_standsAsAlways_9 (hS.lt (hc 75 rfl)) rfl (hS.K1 (hc 75 rfl) rfl) ciX12 (by decide) rfl flX12_73 ?_
    refine ev_iload_n dX12_standsAsAlways_12 1 rfl ?_
    refine ev_iload_n dX12_standsAsAlways_13 2 rfl ?_
    refine ev_iadd dX12_standsAsAlways_14 ?_
    refine ev_iconst dX12_standsAsAlways_15 ?_
    obtain ⟨g3, hf⟩ := gd_elim hf
    obtain ⟨μ4, hμ4, hf⟩ := lt_elim hf
    refine ev_iast dX12_standsAsAlways_16 (hS.lt (hc 81 rfl)) rfl g3 (hS.up (hc 81 rfl) hμ4) ?_
    refine ev_iinc (al2 := [(2, vi (v1 + 1)), (0, vr g 75), (1, vi at0)]) dX12_standsAsAlways_17 2 rfl (by decide) rfl ?_
    refine ev_goto 2 dX12_standsAsAlways_20 (by decide) ?_
    obtain rfl := Option.some.inj hf
    refine ev_sub [1, 2, 0] rfl ?_
    exact hr
def fX12_standsAsAlways (at0 : Int) (μ : Mem) : Option (Mem) :=
  (loopN (fun s => fX12_standsAsAlways_b2 at0 s.1 s.2) FU (0, μ)).bind fun q5 =>
  gd (0 ≤ w32 (at0 + 1) ∧ w32 (at0 + 1) < 40) <|
  lt (upd2 q5 81 ((w32 (at0 + 1)).toNat) (-1)) fun μ7 =>
  gd (0 ≤ w32 ((at0 + 1) + 1) ∧ w32 ((at0 + 1) + 1) < 40) <|
  lt (upd2 μ7 81 ((w32 ((at0 + 1) + 1)).toNat) (-1)) fun μ9 =>
  some (μ9)
set_option maxRecDepth 4000 in
theorem eX12_standsAsAlways (hS : Sd M K P L) (hc : CIn P 75 82) (at0 : Int) (μ : Mem)  {o : Mem} (hf : fX12_standsAsAlways at0 μ = some o) (hr : (fun o : Mem => Φ none M x (L o)) o) : Ev l D cy g K yX12_standsAsAlways cX12_standsAsAlways 3 none (rmd 1 0 0) (MX D cy g K (rmd 1 0 0) Φ) 0 0 M x (L μ) 0 [(0, vr g 75), (1, vi at0)] [] := by
  unfold fX12_standsAsAlways at hf
  refine ev_iconst dX12_standsAsAlways_0 ?_
  refine ev_istore_n (al2 := [(2, vi 0), (0, vr g 75), (1, vi at0)]) dX12_standsAsAlways_1 2 rfl (by decide) rfl ?_
  obtain ⟨q5, hq5, hf⟩ := Option.bind_eq_some_iff.mp hf
  refine ev_sub [1, 2, 0] rfl ?_
  refine loop_ev (H := (fun s : Int × Mem => Ev l D cy g K yX12_standsAsAlways cX12_standsAsAlways 3 none (rmd 1 0 0) (MX D cy g K (rmd 1 0 0) Φ) 0 0 M x (L s.2) 2 [(0, vr g 75), (1, vi at0), (2, vi s.1)] [])) (Hx := (fun e : Mem => Ev l D cy g K yX12_standsAsAlways cX12_standsAsAlways 3 none (rmd 1 0 0) (MX D cy g K (rmd 1 0 0) Φ) 0 0 M x (L e) 23 [(0, vr g 75), (1, vi at0)] [])) (fun s o hb hr => tX12_standsAsAlways_b2 hS hc at0 s.1 s.2 hb hr) FU _ _ hq5 ?_
  show Ev l D cy g K yX12_standsAsAlways cX12_standsAsAlways 3 none (rmd 1 0 0) (MX D cy g K (rmd 1 0 0) Φ) 0 0 M x (L q5) 23 [(0, vr g 75), (1, vi at0)] []
  refine ev_aload_n dX12_standsAsAlways_23 0 rfl ?_
  refine ev_getK 10 dX12_standsAsAlways_24 (hS.lt (hc 75 rfl)) rfl (hS.K1 (hc 75 rfl) rfl) ciX12 (by decide) rfl flX12_73 ?_
  refine ev_iload_n dX12_standsAsAlways_27 1 rfl ?_
  refine ev_iconst dX12_standsAsAlways_28 ?_
  refine ev_iadd dX12_standsAsAlways_29 ?_
  refine ev_iconst dX12_standsAsAlways_30 ?_
  obtain ⟨g6, hf⟩ := gd_elim hf
  obtain ⟨μ7, hμ7, hf⟩ := lt_elim hf
  refine ev_iast dX12_standsAsAlways_31 (hS.lt (hc 81 rfl)) rfl g6 (hS.up (hc 81 rfl) hμ7) ?_
  refine ev_aload_n dX12_standsAsAlways_32 0 rfl ?_
  refine ev_getK 10 dX12_standsAsAlways_33 (hS.lt (hc 75 rfl)) rfl (hS.K1 (hc 75 rfl) rfl) ciX12 (by decide) rfl flX12_73 ?_
  refine ev_iload_n dX12_standsAsAlways_36 1 rfl ?_
  refine ev_iconst dX12_standsAsAlways_37 ?_
  refine ev_iadd dX12_standsAsAlways_38 ?_
  refine ev_iconst dX12_standsAsAlways_39 ?_
  refine ev_iadd dX12_standsAsAlways_40 ?_
  refine ev_iconst dX12_standsAsAlways_41 ?_
  obtain ⟨g8, hf⟩ := gd_elim hf
  obtain ⟨μ9, hμ9, hf⟩ := lt_elim hf
  refine ev_iast dX12_standsAsAlways_42 (hS.lt (hc 81 rfl)) rfl g8 (hS.up (hc 81 rfl) hμ9) ?_
  obtain rfl := Option.some.inj hf
  exact ev_vret dX12_standsAsAlways_43 rfl ⟨Nat.zero_le _, Nat.zero_le _⟩ hr
theorem tX12_standsAsAlways (hS : Sd M K P L) (hc : CIn P 75 82) (at0 : Int) (μ : Mem) {o : Mem} (hf : fX12_standsAsAlways at0 μ = some o) : Cn l D cy g K K yX12_standsAsAlways cX12_standsAsAlways 3 none (rmd 1 0 0) [vr g 75, vi at0] M x (L μ) (PE none M x (L o)) :=
 Cn.of (by decide) (Nat.le_of_ble_eq_true rfl) (eX12_standsAsAlways hS hc at0 μ hf (PE_i _ _ _ _))
def fX12_cakes  (μ : Mem) : Int :=
  (μ 81 0)
set_option maxRecDepth 4000 in
theorem eX12_cakes (hS : Sd M K P L) (hc : CIn P 75 82)  (μ : Mem)  {o : Int} (hf : fX12_cakes  μ = o) (hr : (fun o : Int => Φ (some (vi o)) M x (L μ)) o) : Ev l D cy g K yX12_cakes cX12_cakes 1 (some .int) (rmd 1 0 0) (MX D cy g K (rmd 1 0 0) Φ) 0 0 M x (L μ) 0 [(0, vr g 75)] [] := by
  unfold fX12_cakes at hf
  refine ev_aload_n dX12_cakes_0 0 rfl ?_
  refine ev_getK 10 dX12_cakes_1 (hS.lt (hc 75 rfl)) rfl (hS.K1 (hc 75 rfl) rfl) ciX12 (by decide) rfl flX12_73 ?_
  refine ev_iconst dX12_cakes_4 ?_
  refine ev_iald dX12_cakes_5 (hS.lt (hc 81 rfl)) rfl (hS.mem _ (hc 81 rfl)) ⟨by decide, by decide⟩ ?_
  refine ev_rn (w := vi (μ 81 0)) (by rw [show (w32 0).toNat = 0 from by decide]) ?_
  obtain rfl := hf
  exact ev_iret dX12_cakes_6 rfl ⟨Nat.zero_le _, Nat.zero_le _⟩ hr
theorem tX12_cakes (hS : Sd M K P L) (hc : CIn P 75 82) (μ : Mem) {o : Int} (hf : fX12_cakes μ = o) : Cn l D cy g K K yX12_cakes cX12_cakes 1 (some .int) (rmd 1 0 0) [vr g 75] M x (L μ) (PE (some (vi o)) M x (L μ)) :=
 Cn.of (by decide) (Nat.le_of_ble_eq_true rfl) (eX12_cakes hS hc μ hf (PE_i _ _ _ _))
def fX12_cakeOf (k0 : Int) (what : Int) (μ : Mem) : Option (Int) :=
  gd (0 ≤ w32 ((3 + (3 * k0)) + what) ∧ w32 ((3 + (3 * k0)) + what) < 40) <|
  some ((μ 81 (w32 ((3 + (3 * k0)) + what)).toNat))
set_option maxRecDepth 4000 in
theorem eX12_cakeOf (hS : Sd M K P L) (hc : CIn P 75 82) (k0 : Int) (what : Int) (μ : Mem)  {o : Int} (hf : fX12_cakeOf k0 what μ = some o) (hr : (fun o : Int => Φ (some (vi o)) M x (L μ)) o) : Ev l D cy g K yX12_cakeOf cX12_cakeOf 3 (some .int) (rmd 1 0 0) (MX D cy g K (rmd 1 0 0) Φ) 0 0 M x (L μ) 0 [(0, vr g 75), (1, vi k0), (2, vi what)] [] := by
  unfold fX12_cakeOf at hf
  refine ev_aload_n dX12_cakeOf_0 0 rfl ?_
  refine ev_getK 10 dX12_cakeOf_1 (hS.lt (hc 75 rfl)) rfl (hS.K1 (hc 75 rfl) rfl) ciX12 (by decide) rfl flX12_73 ?_
  refine ev_iconst dX12_cakeOf_4 ?_
  refine ev_iconst dX12_cakeOf_5 ?_
  refine ev_iload_n dX12_cakeOf_6 1 rfl ?_
  refine ev_imul dX12_cakeOf_7 ?_
  refine ev_iadd dX12_cakeOf_8 ?_
  refine ev_iload_n dX12_cakeOf_9 2 rfl ?_
  refine ev_iadd dX12_cakeOf_10 ?_
  obtain ⟨g1, hf⟩ := gd_elim hf
  refine ev_iald dX12_cakeOf_11 (hS.lt (hc 81 rfl)) rfl (hS.mem _ (hc 81 rfl)) g1 ?_
  obtain rfl := Option.some.inj hf
  exact ev_iret dX12_cakeOf_12 rfl ⟨Nat.zero_le _, Nat.zero_le _⟩ hr
theorem tX12_cakeOf (hS : Sd M K P L) (hc : CIn P 75 82) (k0 : Int) (what : Int) (μ : Mem) {o : Int} (hf : fX12_cakeOf k0 what μ = some o) : Cn l D cy g K K yX12_cakeOf cX12_cakeOf 3 (some .int) (rmd 1 0 0) [vr g 75, vi k0, vi what] M x (L μ) (PE (some (vi o)) M x (L μ)) :=
 Cn.of (by decide) (Nat.le_of_ble_eq_true rfl) (eX12_cakeOf hS hc k0 what μ hf (PE_i _ _ _ _))
def fX12_hasSide (k0 : Int) (μ : Mem) : Option (Bool) :=
  (fX12_cakeOf k0 0 μ).bind fun v1 =>
  if w32 v1 = w32 1 then
    some (true)
  else
    (fX12_cakeOf k0 0 μ).bind fun v3 =>
    lt (if w32 v3 = w32 3 then
        true
      else
        false) fun v4 =>
    some (v4)
set_option maxRecDepth 4000 in
theorem eX12_hasSide (hS : Sd M K P L) (hc : CIn P 75 82) (k0 : Int) (μ : Mem)  {o : Bool} (hf : fX12_hasSide k0 μ = some o) (hr : (fun o : Bool => Φ (some (vb o)) M x (L μ)) o) : Ev l D cy g K yX12_hasSide cX12_hasSide 2 (some .boolean) (rmd 2 0 0) (MX D cy g K (rmd 2 0 0) Φ) 0 0 M x (L μ) 0 [(0, vr g 75), (1, vi k0)] [] := by
  unfold fX12_hasSide at hf
  refine ev_aload_n dX12_hasSide_0 0 rfl ?_
  refine ev_iload_n dX12_hasSide_1 1 rfl ?_
  refine ev_iconst dX12_hasSide_2 ?_
  obtain ⟨v1, hv1, hf⟩ := Option.bind_eq_some_iff.mp hf
  refine cl_V1 (As := [vi k0, vi 0]) (st := []) miX12_cakeOf (tX12_cakeOf hS (hc.w rfl rfl) k0 0 μ hv1) dX12_hasSide_3 lkX12_239 inX12_cakeOf rfl (hS.lt (hc 75 rfl)) rfl ⟨rfl, rfl⟩ ⟨⟨Nat.le_of_ble_eq_true rfl, Nat.le_of_ble_eq_true rfl⟩, Nat.zero_le _, Nat.zero_le _⟩ (Nat.le_of_ble_eq_true rfl) ?_
  refine ev_iconst dX12_hasSide_6 ?_
  refine ev_icmp_eq 20 dX12_hasSide_7 (by decide) (fun h2 => ?_) (fun h2 => ?_)
  · rw [if_pos h2] at hf
    refine ev_iconst dX12_hasSide_20 ?_
    refine ev_goto 25 dX12_hasSide_21 (by decide) ?_
    obtain rfl := Option.some.inj hf
    exact ev_bret (b := true) dX12_hasSide_25 rfl ⟨Nat.zero_le _, Nat.zero_le _⟩ hr
  · rw [if_neg h2] at hf
    refine ev_aload_n dX12_hasSide_10 0 rfl ?_
    refine ev_iload_n dX12_hasSide_11 1 rfl ?_
    refine ev_iconst dX12_hasSide_12 ?_
    obtain ⟨v3, hv3, hf⟩ := Option.bind_eq_some_iff.mp hf
    refine cl_V1 (As := [vi k0, vi 0]) (st := []) miX12_cakeOf (tX12_cakeOf hS (hc.w rfl rfl) k0 0 μ hv3) dX12_hasSide_13 lkX12_239 inX12_cakeOf rfl (hS.lt (hc 75 rfl)) rfl ⟨rfl, rfl⟩ ⟨⟨Nat.le_of_ble_eq_true rfl, Nat.le_of_ble_eq_true rfl⟩, Nat.zero_le _, Nat.zero_le _⟩ (Nat.le_of_ble_eq_true rfl) ?_
    refine ev_iconst dX12_hasSide_16 ?_
    obtain ⟨v4, hv4, hf⟩ := lt_elim hf
    have hJv4 : Ev l D cy g K yX12_hasSide cX12_hasSide 2 (some .boolean) (rmd 2 0 0) (MX D cy g K (rmd 2 0 0) Φ) 0 0 M x (L μ) 25 [(0, vr g 75), (1, vi k0)] [vb v4] := by
      obtain rfl := Option.some.inj hf
      exact ev_bret (b := v4) dX12_hasSide_25 rfl ⟨Nat.zero_le _, Nat.zero_le _⟩ hr
    refine ev_icmp_ne 24 dX12_hasSide_17 (by decide) (fun h5 => ?_) (fun h5 => ?_)
    · refine ev_iconst dX12_hasSide_24 ?_
      have e9 : v4 = false := hv4.trans ((if_neg h5))
      subst e9
      exact hJv4
    · refine ev_iconst dX12_hasSide_20 ?_
      refine ev_goto 25 dX12_hasSide_21 (by decide) ?_
      have e9 : v4 = true := hv4.trans ((if_pos h5))
      subst e9
      exact hJv4
theorem tX12_hasSide (hS : Sd M K P L) (hc : CIn P 75 82) (k0 : Int) (μ : Mem) {o : Bool} (hf : fX12_hasSide k0 μ = some o) : Cn l D cy g K K yX12_hasSide cX12_hasSide 2 (some .boolean) (rmd 2 0 0) [vr g 75, vi k0] M x (L μ) (PE (some (vb o)) M x (L μ)) :=
 Cn.of (by decide) (Nat.le_of_ble_eq_true rfl) (eX12_hasSide hS hc k0 μ hf (PE_i _ _ _ _))
def fX12_numberNow_b19 (v1 : Int) (v2 : Int) (v5 : Int) (v6 : Int) (μ : Mem) : Option ((Int × Int) ⊕ (Int)) :=
  if w32 v6 < w32 (μ 81 0) then
    gd (0 ≤ w32 v6 ∧ w32 v6 < 5) <|
    gd (0 ≤ w32 v2 ∧ w32 v2 < 5) <|
    lt (if w32 (μ 90 (w32 v6).toNat) < w32 (μ 90 (w32 v2).toNat) then
        1
      else
        0) fun v10 =>
    lt (v5 + v10) fun v12 =>
    some (.inl (v12, (v6 + 1)))
  else
    some (.inr v5)
set_option maxRecDepth 4000 in
theorem tX12_numberNow_b19 (hS : Sd M K P L) (hc : CIn P 75 92) (v1 : Int) (v2 : Int) (v5 : Int) (v6 : Int) (μ : Mem)  {o : (Int × Int) ⊕ (Int)} (hf : fX12_numberNow_b19 v1 v2 v5 v6 μ = some o) (hr : (Sum.elim (fun s : Int × Int => Ev l D cy g K yX12_numberNow cX12_numberNow 5 (some .int) (rmd 3 0 0) (MX D cy g K (rmd 3 0 0) Φ) 0 0 M x (L μ) 19 [(0, vr g 75), (1, vi v1), (2, vi v2), (3, vi s.1), (4, vi s.2)] []) (fun e : Int => Ev l D cy g K yX12_numberNow cX12_numberNow 5 (some .int) (rmd 3 0 0) (MX D cy g K (rmd 3 0 0) Φ) 0 0 M x (L μ) 58 [(0, vr g 75), (1, vi v1), (2, vi v2), (3, vi e)] [])) o) : Ev l D cy g K yX12_numberNow cX12_numberNow 5 (some .int) (rmd 3 0 0) (MX D cy g K (rmd 3 0 0) Φ) 0 0 M x (L μ) 19 [(0, vr g 75), (1, vi v1), (2, vi v2), (3, vi v5), (4, vi v6)] [] := by
  unfold fX12_numberNow_b19 at hf
  refine ev_iload dX12_numberNow_19 4 rfl ?_
  refine ev_aload_n dX12_numberNow_21 0 rfl ?_
  refine cl_V1 (As := []) (st := [vi v6]) miX12_cakes (tX12_cakes hS (hc.w rfl rfl) μ (o := (μ 81 0)) rfl) dX12_numberNow_22 lkX12_209 inX12_cakes rfl (hS.lt (hc 75 rfl)) rfl ⟨rfl, rfl⟩ ⟨⟨Nat.le_of_ble_eq_true rfl, Nat.le_of_ble_eq_true rfl⟩, Nat.zero_le _, Nat.zero_le _⟩ (Nat.le_of_ble_eq_true rfl) ?_
  refine ev_icmp_ge 58 dX12_numberNow_25 (by decide) (fun h7 => ?_) (fun h7 => ?_)
  · rw [if_neg h7] at hf
    obtain rfl := Option.some.inj hf
    refine ev_sub [0, 1, 2, 3] rfl ?_
    exact hr
  · rw [if_pos h7] at hf
    refine ev_iload_n dX12_numberNow_28 3 rfl ?_
    refine ev_aload_n dX12_numberNow_29 0 rfl ?_
    refine ev_getK 23 dX12_numberNow_30 (hS.lt (hc 75 rfl)) rfl (hS.K1 (hc 75 rfl) rfl) ciX12 (by decide) rfl flX12_101 ?_
    refine ev_iload dX12_numberNow_33 4 rfl ?_
    obtain ⟨g8, hf⟩ := gd_elim hf
    refine ev_iald dX12_numberNow_35 (hS.lt (hc 90 rfl)) rfl (hS.mem _ (hc 90 rfl)) g8 ?_
    refine ev_aload_n dX12_numberNow_36 0 rfl ?_
    refine ev_getK 23 dX12_numberNow_37 (hS.lt (hc 75 rfl)) rfl (hS.K1 (hc 75 rfl) rfl) ciX12 (by decide) rfl flX12_101 ?_
    refine ev_iload_n dX12_numberNow_40 2 rfl ?_
    obtain ⟨g9, hf⟩ := gd_elim hf
    refine ev_iald dX12_numberNow_41 (hS.lt (hc 90 rfl)) rfl (hS.mem _ (hc 90 rfl)) g9 ?_
    obtain ⟨v10, hv10, hf⟩ := lt_elim hf
    have hJv10 : Ev l D cy g K yX12_numberNow cX12_numberNow 5 (some .int) (rmd 3 0 0) (MX D cy g K (rmd 3 0 0) Φ) 0 0 M x (L μ) 50 [(0, vr g 75), (1, vi v1), (2, vi v2), (3, vi v5), (4, vi v6)] [vi v10, vi v5] := by
      refine ev_iadd dX12_numberNow_50 ?_
      obtain ⟨v12, hv12, hf⟩ := lt_elim hf
      refine ev_rni hv12 ?_
      refine ev_istore_n (al2 := [(3, vi v12), (0, vr g 75), (1, vi v1), (2, vi v2), (4, vi v6)]) dX12_numberNow_51 3 rfl (by decide) rfl ?_
      refine ev_iinc (al2 := [(4, vi (v6 + 1)), (3, vi v12), (0, vr g 75), (1, vi v1), (2, vi v2)]) dX12_numberNow_52 4 rfl (by decide) rfl ?_
      refine ev_goto 19 dX12_numberNow_55 (by decide) ?_
      obtain rfl := Option.some.inj hf
      refine ev_sub [2, 3, 4, 1, 0] rfl ?_
      exact hr
    refine ev_icmp_ge 49 dX12_numberNow_42 (by decide) (fun h11 => ?_) (fun h11 => ?_)
    · refine ev_iconst dX12_numberNow_49 ?_
      have e9 : v10 = 0 := hv10.trans ((if_neg h11))
      subst e9
      exact hJv10
    · refine ev_iconst dX12_numberNow_45 ?_
      refine ev_goto 50 dX12_numberNow_46 (by decide) ?_
      have e9 : v10 = 1 := hv10.trans ((if_pos h11))
      subst e9
      exact hJv10
def fX12_numberNow_b4 (v1 : Int) (v2 : Int) (μ : Mem) : Option ((Int × Int) ⊕ (Int)) :=
  if w32 v2 < w32 (μ 81 0) then
    lt (v2 + 1) fun v4 =>
    (loopN (fun s => fX12_numberNow_b19 v1 v2 s.1 s.2 μ) FU (0, v4)).bind fun q13 =>
    lt ((v1 * ((μ 81 0) - v2)) + q13) fun v14 =>
    some (.inl (v14, (v2 + 1)))
  else
    some (.inr v1)
set_option maxRecDepth 4000 in
theorem tX12_numberNow_b4 (hS : Sd M K P L) (hc : CIn P 75 92) (v1 : Int) (v2 : Int) (μ : Mem)  {o : (Int × Int) ⊕ (Int)} (hf : fX12_numberNow_b4 v1 v2 μ = some o) (hr : (Sum.elim (fun s : Int × Int => Ev l D cy g K yX12_numberNow cX12_numberNow 5 (some .int) (rmd 3 0 0) (MX D cy g K (rmd 3 0 0) Φ) 0 0 M x (L μ) 4 [(0, vr g 75), (1, vi s.1), (2, vi s.2)] []) (fun e : Int => Ev l D cy g K yX12_numberNow cX12_numberNow 5 (some .int) (rmd 3 0 0) (MX D cy g K (rmd 3 0 0) Φ) 0 0 M x (L μ) 75 [(0, vr g 75), (1, vi e)] [])) o) : Ev l D cy g K yX12_numberNow cX12_numberNow 5 (some .int) (rmd 3 0 0) (MX D cy g K (rmd 3 0 0) Φ) 0 0 M x (L μ) 4 [(0, vr g 75), (1, vi v1), (2, vi v2)] [] := by
  unfold fX12_numberNow_b4 at hf
  refine ev_iload_n dX12_numberNow_4 2 rfl ?_
  refine ev_aload_n dX12_numberNow_5 0 rfl ?_
  refine cl_V1 (As := []) (st := [vi v2]) miX12_cakes (tX12_cakes hS (hc.w rfl rfl) μ (o := (μ 81 0)) rfl) dX12_numberNow_6 lkX12_209 inX12_cakes rfl (hS.lt (hc 75 rfl)) rfl ⟨rfl, rfl⟩ ⟨⟨Nat.le_of_ble_eq_true rfl, Nat.le_of_ble_eq_true rfl⟩, Nat.zero_le _, Nat.zero_le _⟩ (Nat.le_of_ble_eq_true rfl) ?_
  refine ev_icmp_ge 75 dX12_numberNow_9 (by decide) (fun h3 => ?_) (fun h3 => ?_)
  · rw [if_neg h3] at hf
    obtain rfl := Option.some.inj hf
    refine ev_sub [0, 1] rfl ?_
    exact hr
  · rw [if_pos h3] at hf
    refine ev_iconst dX12_numberNow_12 ?_
    refine ev_istore_n (al2 := [(3, vi 0), (0, vr g 75), (1, vi v1), (2, vi v2)]) dX12_numberNow_13 3 rfl (by decide) rfl ?_
    refine ev_iload_n dX12_numberNow_14 3 rfl ?_
    refine ev_iconst dX12_numberNow_15 ?_
    refine ev_iadd dX12_numberNow_16 ?_
    obtain ⟨v4, hv4, hf⟩ := lt_elim hf
    refine ev_rni hv4 ?_
    refine ev_istore (al2 := [(4, vi v4), (3, vi 0), (0, vr g 75), (1, vi v1), (2, vi v2)]) dX12_numberNow_17 (by decide) rfl ?_
    obtain ⟨q13, hq13, hf⟩ := Option.bind_eq_some_iff.mp hf
    refine ev_sub [2, 3, 4, 1, 0] rfl ?_
    refine loop_ev (H := (fun s : Int × Int => Ev l D cy g K yX12_numberNow cX12_numberNow 5 (some .int) (rmd 3 0 0) (MX D cy g K (rmd 3 0 0) Φ) 0 0 M x (L μ) 19 [(0, vr g 75), (1, vi v1), (2, vi v2), (3, vi s.1), (4, vi s.2)] [])) (Hx := (fun e : Int => Ev l D cy g K yX12_numberNow cX12_numberNow 5 (some .int) (rmd 3 0 0) (MX D cy g K (rmd 3 0 0) Φ) 0 0 M x (L μ) 58 [(0, vr g 75), (1, vi v1), (2, vi v2), (3, vi e)] [])) (fun s o hb hr => tX12_numberNow_b19 hS hc v1 v2 s.1 s.2 μ hb hr) FU _ _ hq13 ?_
    show Ev l D cy g K yX12_numberNow cX12_numberNow 5 (some .int) (rmd 3 0 0) (MX D cy g K (rmd 3 0 0) Φ) 0 0 M x (L μ) 58 [(0, vr g 75), (1, vi v1), (2, vi v2), (3, vi q13)] []
    refine ev_iload_n dX12_numberNow_58 1 rfl ?_
    refine ev_aload_n dX12_numberNow_59 0 rfl ?_
    refine cl_V1 (As := []) (st := [vi v1]) miX12_cakes (tX12_cakes hS (hc.w rfl rfl) μ (o := (μ 81 0)) rfl) dX12_numberNow_60 lkX12_209 inX12_cakes rfl (hS.lt (hc 75 rfl)) rfl ⟨rfl, rfl⟩ ⟨⟨Nat.le_of_ble_eq_true rfl, Nat.le_of_ble_eq_true rfl⟩, Nat.zero_le _, Nat.zero_le _⟩ (Nat.le_of_ble_eq_true rfl) ?_
    refine ev_iload_n dX12_numberNow_63 2 rfl ?_
    refine ev_isub dX12_numberNow_64 ?_
    refine ev_imul dX12_numberNow_65 ?_
    refine ev_iload_n dX12_numberNow_66 3 rfl ?_
    refine ev_iadd dX12_numberNow_67 ?_
    obtain ⟨v14, hv14, hf⟩ := lt_elim hf
    refine ev_rni hv14 ?_
    refine ev_istore_n (al2 := [(1, vi v14), (0, vr g 75), (2, vi v2), (3, vi q13)]) dX12_numberNow_68 1 rfl (by decide) rfl ?_
    refine ev_iinc (al2 := [(2, vi (v2 + 1)), (1, vi v14), (0, vr g 75), (3, vi q13)]) dX12_numberNow_69 2 rfl (by decide) rfl ?_
    refine ev_goto 4 dX12_numberNow_72 (by decide) ?_
    obtain rfl := Option.some.inj hf
    refine ev_sub [2, 1, 0] rfl ?_
    exact hr
def fX12_numberNow_b77 (v16 : Int) (v17 : Int) (μ : Mem) : Option ((Int × Int) ⊕ (Int)) :=
  if w32 v17 < w32 (μ 81 0) then
    gd (0 ≤ w32 v17 ∧ w32 v17 < 5) <|
    (fX12_hasSide (μ 90 (w32 v17).toNat) μ).bind fun v20 =>
    if v20 = true then
      gd (0 ≤ w32 v17 ∧ w32 v17 < 5) <|
      gd (0 ≤ w32 (μ 90 (w32 v17).toNat) ∧ w32 (μ 90 (w32 v17).toNat) < 5) <|
      lt (if ((μ 91 (w32 (μ 90 (w32 v17).toNat)).toNat) != 0) = true then
          1
        else
          0) fun v24 =>
      lt ((2 * v16) + v24) fun v26 =>
      some (.inl (v26, (v17 + 1)))
    else
      some (.inl (v16, (v17 + 1)))
  else
    some (.inr v16)
set_option maxRecDepth 4000 in
theorem tX12_numberNow_b77 (hS : Sd M K P L) (hc : CIn P 75 92) (v16 : Int) (v17 : Int) (μ : Mem)  {o : (Int × Int) ⊕ (Int)} (hf : fX12_numberNow_b77 v16 v17 μ = some o) (hr : (Sum.elim (fun s : Int × Int => Ev l D cy g K yX12_numberNow cX12_numberNow 5 (some .int) (rmd 3 0 0) (MX D cy g K (rmd 3 0 0) Φ) 0 0 M x (L μ) 77 [(0, vr g 75), (1, vi s.1), (2, vi s.2)] []) (fun e : Int => Ev l D cy g K yX12_numberNow cX12_numberNow 5 (some .int) (rmd 3 0 0) (MX D cy g K (rmd 3 0 0) Φ) 0 0 M x (L μ) 128 [(1, vi e)] [])) o) : Ev l D cy g K yX12_numberNow cX12_numberNow 5 (some .int) (rmd 3 0 0) (MX D cy g K (rmd 3 0 0) Φ) 0 0 M x (L μ) 77 [(0, vr g 75), (1, vi v16), (2, vi v17)] [] := by
  unfold fX12_numberNow_b77 at hf
  refine ev_iload_n dX12_numberNow_77 2 rfl ?_
  refine ev_aload_n dX12_numberNow_78 0 rfl ?_
  refine cl_V1 (As := []) (st := [vi v17]) miX12_cakes (tX12_cakes hS (hc.w rfl rfl) μ (o := (μ 81 0)) rfl) dX12_numberNow_79 lkX12_209 inX12_cakes rfl (hS.lt (hc 75 rfl)) rfl ⟨rfl, rfl⟩ ⟨⟨Nat.le_of_ble_eq_true rfl, Nat.le_of_ble_eq_true rfl⟩, Nat.zero_le _, Nat.zero_le _⟩ (Nat.le_of_ble_eq_true rfl) ?_
  refine ev_icmp_ge 128 dX12_numberNow_82 (by decide) (fun h18 => ?_) (fun h18 => ?_)
  · rw [if_neg h18] at hf
    obtain rfl := Option.some.inj hf
    refine ev_sub [1] rfl ?_
    exact hr
  · rw [if_pos h18] at hf
    refine ev_aload_n dX12_numberNow_85 0 rfl ?_
    refine ev_aload_n dX12_numberNow_86 0 rfl ?_
    refine ev_getK 23 dX12_numberNow_87 (hS.lt (hc 75 rfl)) rfl (hS.K1 (hc 75 rfl) rfl) ciX12 (by decide) rfl flX12_101 ?_
    refine ev_iload_n dX12_numberNow_90 2 rfl ?_
    obtain ⟨g19, hf⟩ := gd_elim hf
    refine ev_iald dX12_numberNow_91 (hS.lt (hc 90 rfl)) rfl (hS.mem _ (hc 90 rfl)) g19 ?_
    obtain ⟨v20, hv20, hf⟩ := Option.bind_eq_some_iff.mp hf
    refine cl_V1 (As := [vi (μ 90 (w32 v17).toNat)]) (st := []) miX12_hasSide (tX12_hasSide hS (hc.w rfl rfl) (μ 90 (w32 v17).toNat) μ hv20) dX12_numberNow_92 lkX12_236 inX12_hasSide rfl (hS.lt (hc 75 rfl)) rfl ⟨rfl, rfl⟩ ⟨⟨Nat.le_of_ble_eq_true rfl, Nat.le_of_ble_eq_true rfl⟩, Nat.zero_le _, Nat.zero_le _⟩ (Nat.le_of_ble_eq_true rfl) ?_
    refine ev_ifb_eq 122 dX12_numberNow_95 (by decide) (fun h21 => ?_) (fun h21 => ?_)
    · rw [if_neg h21] at hf
      refine ev_iinc (al2 := [(2, vi (v17 + 1)), (0, vr g 75), (1, vi v16)]) dX12_numberNow_122 2 rfl (by decide) rfl ?_
      refine ev_goto 77 dX12_numberNow_125 (by decide) ?_
      obtain rfl := Option.some.inj hf
      refine ev_sub [1, 2, 0] rfl ?_
      exact hr
    · rw [if_pos h21] at hf
      refine ev_iconst dX12_numberNow_98 ?_
      refine ev_iload_n dX12_numberNow_99 1 rfl ?_
      refine ev_imul dX12_numberNow_100 ?_
      refine ev_aload_n dX12_numberNow_101 0 rfl ?_
      refine ev_getK 24 dX12_numberNow_102 (hS.lt (hc 75 rfl)) rfl (hS.K1 (hc 75 rfl) rfl) ciX12 (by decide) rfl flX12_104 ?_
      refine ev_aload_n dX12_numberNow_105 0 rfl ?_
      refine ev_getK 23 dX12_numberNow_106 (hS.lt (hc 75 rfl)) rfl (hS.K1 (hc 75 rfl) rfl) ciX12 (by decide) rfl flX12_101 ?_
      refine ev_iload_n dX12_numberNow_109 2 rfl ?_
      obtain ⟨g22, hf⟩ := gd_elim hf
      refine ev_iald dX12_numberNow_110 (hS.lt (hc 90 rfl)) rfl (hS.mem _ (hc 90 rfl)) g22 ?_
      obtain ⟨g23, hf⟩ := gd_elim hf
      refine ev_zald dX12_numberNow_111 (hS.lt (hc 91 rfl)) rfl (hS.mem _ (hc 91 rfl)) g23 ?_
      obtain ⟨v24, hv24, hf⟩ := lt_elim hf
      have hJv24 : Ev l D cy g K yX12_numberNow cX12_numberNow 5 (some .int) (rmd 3 0 0) (MX D cy g K (rmd 3 0 0) Φ) 0 0 M x (L μ) 120 [(0, vr g 75), (1, vi v16), (2, vi v17)] [vi v24, vi (2 * v16)] := by
        refine ev_iadd dX12_numberNow_120 ?_
        obtain ⟨v26, hv26, hf⟩ := lt_elim hf
        refine ev_rni hv26 ?_
        refine ev_istore_n (al2 := [(1, vi v26), (0, vr g 75), (2, vi v17)]) dX12_numberNow_121 1 rfl (by decide) rfl ?_
        refine ev_iinc (al2 := [(2, vi (v17 + 1)), (1, vi v26), (0, vr g 75)]) dX12_numberNow_122 2 rfl (by decide) rfl ?_
        refine ev_goto 77 dX12_numberNow_125 (by decide) ?_
        obtain rfl := Option.some.inj hf
        refine ev_sub [2, 1, 0] rfl ?_
        exact hr
      refine ev_ifb_eq 119 dX12_numberNow_112 (by decide) (fun h25 => ?_) (fun h25 => ?_)
      · refine ev_iconst dX12_numberNow_119 ?_
        have e9 : v24 = 0 := hv24.trans ((if_neg h25))
        subst e9
        exact hJv24
      · refine ev_iconst dX12_numberNow_115 ?_
        refine ev_goto 120 dX12_numberNow_116 (by decide) ?_
        have e9 : v24 = 1 := hv24.trans ((if_pos h25))
        subst e9
        exact hJv24
def fX12_numberNow  (μ : Mem) : Option (Int) :=
  (loopN (fun s => fX12_numberNow_b4 s.1 s.2 μ) FU (0, 0)).bind fun q15 =>
  (loopN (fun s => fX12_numberNow_b77 s.1 s.2 μ) FU (q15, 0)).bind fun q27 =>
  some (q27)
set_option maxRecDepth 4000 in
theorem eX12_numberNow (hS : Sd M K P L) (hc : CIn P 75 92)  (μ : Mem)  {o : Int} (hf : fX12_numberNow  μ = some o) (hr : (fun o : Int => Φ (some (vi o)) M x (L μ)) o) : Ev l D cy g K yX12_numberNow cX12_numberNow 5 (some .int) (rmd 3 0 0) (MX D cy g K (rmd 3 0 0) Φ) 0 0 M x (L μ) 0 [(0, vr g 75)] [] := by
  unfold fX12_numberNow at hf
  refine ev_iconst dX12_numberNow_0 ?_
  refine ev_istore_n (al2 := [(1, vi 0), (0, vr g 75)]) dX12_numberNow_1 1 rfl (by decide) rfl ?_
  refine ev_iconst dX12_numberNow_2 ?_
  refine ev_istore_n (al2 := [(2, vi 0), (1, vi 0), (0, vr g 75)]) dX12_numberNow_3 2 rfl (by decide) rfl ?_
  obtain ⟨q15, hq15, hf⟩ := Option.bind_eq_some_iff.mp hf
  refine ev_sub [2, 1, 0] rfl ?_
  refine loop_ev (H := (fun s : Int × Int => Ev l D cy g K yX12_numberNow cX12_numberNow 5 (some .int) (rmd 3 0 0) (MX D cy g K (rmd 3 0 0) Φ) 0 0 M x (L μ) 4 [(0, vr g 75), (1, vi s.1), (2, vi s.2)] [])) (Hx := (fun e : Int => Ev l D cy g K yX12_numberNow cX12_numberNow 5 (some .int) (rmd 3 0 0) (MX D cy g K (rmd 3 0 0) Φ) 0 0 M x (L μ) 75 [(0, vr g 75), (1, vi e)] [])) (fun s o hb hr => tX12_numberNow_b4 hS hc s.1 s.2 μ hb hr) FU _ _ hq15 ?_
  show Ev l D cy g K yX12_numberNow cX12_numberNow 5 (some .int) (rmd 3 0 0) (MX D cy g K (rmd 3 0 0) Φ) 0 0 M x (L μ) 75 [(0, vr g 75), (1, vi q15)] []
  refine ev_iconst dX12_numberNow_75 ?_
  refine ev_istore_n (al2 := [(2, vi 0), (0, vr g 75), (1, vi q15)]) dX12_numberNow_76 2 rfl (by decide) rfl ?_
  obtain ⟨q27, hq27, hf⟩ := Option.bind_eq_some_iff.mp hf
  refine ev_sub [1, 2, 0] rfl ?_
  refine loop_ev (H := (fun s : Int × Int => Ev l D cy g K yX12_numberNow cX12_numberNow 5 (some .int) (rmd 3 0 0) (MX D cy g K (rmd 3 0 0) Φ) 0 0 M x (L μ) 77 [(0, vr g 75), (1, vi s.1), (2, vi s.2)] [])) (Hx := (fun e : Int => Ev l D cy g K yX12_numberNow cX12_numberNow 5 (some .int) (rmd 3 0 0) (MX D cy g K (rmd 3 0 0) Φ) 0 0 M x (L μ) 128 [(1, vi e)] [])) (fun s o hb hr => tX12_numberNow_b77 hS hc s.1 s.2 μ hb hr) FU _ _ hq27 ?_
  show Ev l D cy g K yX12_numberNow cX12_numberNow 5 (some .int) (rmd 3 0 0) (MX D cy g K (rmd 3 0 0) Φ) 0 0 M x (L μ) 128 [(1, vi q27)] []
  refine ev_iload_n dX12_numberNow_128 0 rfl ?_
  obtain rfl := Option.some.inj hf
  exact ev_iret dX12_numberNow_129 rfl ⟨Nat.zero_le _, Nat.zero_le _⟩ hr
theorem tX12_numberNow (hS : Sd M K P L) (hc : CIn P 75 92) (μ : Mem) {o : Int} (hf : fX12_numberNow μ = some o) : Cn l D cy g K K yX12_numberNow cX12_numberNow 5 (some .int) (rmd 3 0 0) [vr g 75] M x (L μ) (PE (some (vi o)) M x (L μ)) :=
 Cn.of (by decide) (Nat.le_of_ble_eq_true rfl) (eX12_numberNow hS hc μ hf (PE_i _ _ _ _))
def fX12_begins_b2 (v1 : Int) (μ : Mem) : Option ((Int × Mem) ⊕ (Mem)) :=
  if w32 v1 < w32 (μ 81 0) then
    gd (0 ≤ w32 v1 ∧ w32 v1 < 5) <|
    lt (upd2 μ 90 ((w32 v1).toNat) v1) fun μ4 =>
    (fX12_hasSide v1 μ4).bind fun v5 =>
    if v5 = true then
      (fX12_cakeOf v1 2 μ4).bind fun v9 =>
      lt (if w32 v9 = w32 1 then
          true
        else
          false) fun v10 =>
      gd (0 ≤ w32 v1 ∧ w32 v1 < 5) <|
      lt (upd2 μ4 91 ((w32 v1).toNat) (b2i v10)) fun μ13 =>
      some (.inl ((v1 + 1), μ13))
    else
      gd (0 ≤ w32 v1 ∧ w32 v1 < 5) <|
      lt (upd2 μ4 91 ((w32 v1).toNat) 0) fun μ8 =>
      some (.inl ((v1 + 1), μ8))
  else
    some (.inr μ)
set_option maxRecDepth 4000 in
theorem tX12_begins_b2 (hS : Sd M K P L) (hc : CIn P 75 92) (v1 : Int) (μ : Mem)  {o : (Int × Mem) ⊕ (Mem)} (hf : fX12_begins_b2 v1 μ = some o) (hr : (Sum.elim (fun s : Int × Mem => Ev l D cy g K yX12_begins cX12_begins 2 none (rmd 4 0 0) (MX D cy g K (rmd 4 0 0) Φ) 0 0 M x (L s.2) 2 [(0, vr g 75), (1, vi s.1)] []) (fun e : Mem => Ev l D cy g K yX12_begins cX12_begins 2 none (rmd 4 0 0) (MX D cy g K (rmd 4 0 0) Φ) 0 0 M x (L e) 52 [(0, vr g 75)] [])) o) : Ev l D cy g K yX12_begins cX12_begins 2 none (rmd 4 0 0) (MX D cy g K (rmd 4 0 0) Φ) 0 0 M x (L μ) 2 [(0, vr g 75), (1, vi v1)] [] := by
  unfold fX12_begins_b2 at hf
  refine ev_iload_n dX12_begins_2 1 rfl ?_
  refine ev_aload_n dX12_begins_3 0 rfl ?_
  refine cl_V1 (As := []) (st := [vi v1]) miX12_cakes (tX12_cakes hS (hc.w rfl rfl) μ (o := (μ 81 0)) rfl) dX12_begins_4 lkX12_209 inX12_cakes rfl (hS.lt (hc 75 rfl)) rfl ⟨rfl, rfl⟩ ⟨⟨Nat.le_of_ble_eq_true rfl, Nat.le_of_ble_eq_true rfl⟩, Nat.zero_le _, Nat.zero_le _⟩ (Nat.le_of_ble_eq_true rfl) ?_
  refine ev_icmp_ge 52 dX12_begins_7 (by decide) (fun h2 => ?_) (fun h2 => ?_)
  · rw [if_neg h2] at hf
    obtain rfl := Option.some.inj hf
    refine ev_sub [0] rfl ?_
    exact hr
  · rw [if_pos h2] at hf
    refine ev_aload_n dX12_begins_10 0 rfl ?_
    refine ev_getK 23 dX12_begins_11 (hS.lt (hc 75 rfl)) rfl (hS.K1 (hc 75 rfl) rfl) ciX12 (by decide) rfl flX12_101 ?_
    refine ev_iload_n dX12_begins_14 1 rfl ?_
    refine ev_iload_n dX12_begins_15 1 rfl ?_
    obtain ⟨g3, hf⟩ := gd_elim hf
    obtain ⟨μ4, hμ4, hf⟩ := lt_elim hf
    refine ev_iast dX12_begins_16 (hS.lt (hc 90 rfl)) rfl g3 (hS.up (hc 90 rfl) hμ4) ?_
    refine ev_aload_n dX12_begins_17 0 rfl ?_
    refine ev_getK 24 dX12_begins_18 (hS.lt (hc 75 rfl)) rfl (hS.K1 (hc 75 rfl) rfl) ciX12 (by decide) rfl flX12_104 ?_
    refine ev_iload_n dX12_begins_21 1 rfl ?_
    refine ev_aload_n dX12_begins_22 0 rfl ?_
    refine ev_iload_n dX12_begins_23 1 rfl ?_
    obtain ⟨v5, hv5, hf⟩ := Option.bind_eq_some_iff.mp hf
    refine cl_V1 (As := [vi v1]) (st := [vi v1, vr g 91]) miX12_hasSide (tX12_hasSide hS (hc.w rfl rfl) v1 μ4 hv5) dX12_begins_24 lkX12_236 inX12_hasSide rfl (hS.lt (hc 75 rfl)) rfl ⟨rfl, rfl⟩ ⟨⟨Nat.le_of_ble_eq_true rfl, Nat.le_of_ble_eq_true rfl⟩, Nat.zero_le _, Nat.zero_le _⟩ (Nat.le_of_ble_eq_true rfl) ?_
    refine ev_ifb_eq 44 dX12_begins_27 (by decide) (fun h6 => ?_) (fun h6 => ?_)
    · rw [if_neg h6] at hf
      refine ev_iconst dX12_begins_44 ?_
      obtain ⟨g7, hf⟩ := gd_elim hf
      obtain ⟨μ8, hμ8, hf⟩ := lt_elim hf
      refine ev_zast (b := false) dX12_begins_45 (hS.lt (hc 91 rfl)) rfl g7 (hS.up (hc 91 rfl) hμ8) ?_
      refine ev_iinc (al2 := [(1, vi (v1 + 1)), (0, vr g 75)]) dX12_begins_46 1 rfl (by decide) rfl ?_
      refine ev_goto 2 dX12_begins_49 (by decide) ?_
      obtain rfl := Option.some.inj hf
      refine ev_sub [1, 0] rfl ?_
      exact hr
    · rw [if_pos h6] at hf
      refine ev_aload_n dX12_begins_30 0 rfl ?_
      refine ev_iload_n dX12_begins_31 1 rfl ?_
      refine ev_iconst dX12_begins_32 ?_
      obtain ⟨v9, hv9, hf⟩ := Option.bind_eq_some_iff.mp hf
      refine cl_V1 (As := [vi v1, vi 2]) (st := [vi v1, vr g 91]) miX12_cakeOf (tX12_cakeOf hS (hc.w rfl rfl) v1 2 μ4 hv9) dX12_begins_33 lkX12_239 inX12_cakeOf rfl (hS.lt (hc 75 rfl)) rfl ⟨rfl, rfl⟩ ⟨⟨Nat.le_of_ble_eq_true rfl, Nat.le_of_ble_eq_true rfl⟩, Nat.zero_le _, Nat.zero_le _⟩ (Nat.le_of_ble_eq_true rfl) ?_
      refine ev_iconst dX12_begins_36 ?_
      obtain ⟨v10, hv10, hf⟩ := lt_elim hf
      have hJv10 : Ev l D cy g K yX12_begins cX12_begins 2 none (rmd 4 0 0) (MX D cy g K (rmd 4 0 0) Φ) 0 0 M x (L μ4) 45 [(0, vr g 75), (1, vi v1)] [vb v10, vi v1, vr g 91] := by
        obtain ⟨g12, hf⟩ := gd_elim hf
        obtain ⟨μ13, hμ13, hf⟩ := lt_elim hf
        refine ev_zast (b := v10) dX12_begins_45 (hS.lt (hc 91 rfl)) rfl g12 (hS.up (hc 91 rfl) hμ13) ?_
        refine ev_iinc (al2 := [(1, vi (v1 + 1)), (0, vr g 75)]) dX12_begins_46 1 rfl (by decide) rfl ?_
        refine ev_goto 2 dX12_begins_49 (by decide) ?_
        obtain rfl := Option.some.inj hf
        refine ev_sub [1, 0] rfl ?_
        exact hr
      refine ev_icmp_ne 44 dX12_begins_37 (by decide) (fun h11 => ?_) (fun h11 => ?_)
      · refine ev_iconst dX12_begins_44 ?_
        have e9 : v10 = false := hv10.trans ((if_neg h11))
        subst e9
        exact hJv10
      · refine ev_iconst dX12_begins_40 ?_
        refine ev_goto 45 dX12_begins_41 (by decide) ?_
        have e9 : v10 = true := hv10.trans ((if_pos h11))
        subst e9
        exact hJv10
def fX12_begins_b115 (v25 : Int) (μ : Mem) : Option ((Int × Mem) ⊕ (Mem)) :=
  if w32 v25 < w32 4 then
    gd (0 ≤ w32 v25 ∧ w32 v25 < 4) <|
    lt (upd2 μ 89 ((w32 v25).toNat) 0) fun μ28 =>
    some (.inl ((v25 + 1), μ28))
  else
    some (.inr μ)
set_option maxRecDepth 4000 in
theorem tX12_begins_b115 (hS : Sd M K P L) (hc : CIn P 75 92) (v25 : Int) (μ : Mem)  {o : (Int × Mem) ⊕ (Mem)} (hf : fX12_begins_b115 v25 μ = some o) (hr : (Sum.elim (fun s : Int × Mem => Ev l D cy g K yX12_begins cX12_begins 2 none (rmd 4 0 0) (MX D cy g K (rmd 4 0 0) Φ) 0 0 M x (L s.2) 115 [(0, vr g 75), (1, vi s.1)] []) (fun e : Mem => Ev l D cy g K yX12_begins cX12_begins 2 none (rmd 4 0 0) (MX D cy g K (rmd 4 0 0) Φ) 0 0 M x (L e) 133 [] [])) o) : Ev l D cy g K yX12_begins cX12_begins 2 none (rmd 4 0 0) (MX D cy g K (rmd 4 0 0) Φ) 0 0 M x (L μ) 115 [(0, vr g 75), (1, vi v25)] [] := by
  unfold fX12_begins_b115 at hf
  refine ev_iload_n dX12_begins_115 1 rfl ?_
  refine ev_iconst dX12_begins_116 ?_
  refine ev_icmp_ge 133 dX12_begins_117 (by decide) (fun h26 => ?_) (fun h26 => ?_)
  · rw [if_neg h26] at hf
    obtain rfl := Option.some.inj hf
    refine ev_sub [] rfl ?_
    exact hr
  · rw [if_pos h26] at hf
    refine ev_aload_n dX12_begins_120 0 rfl ?_
    refine ev_getK 21 dX12_begins_121 (hS.lt (hc 75 rfl)) rfl (hS.K1 (hc 75 rfl) rfl) ciX12 (by decide) rfl flX12_97 ?_
    refine ev_iload_n dX12_begins_124 1 rfl ?_
    refine ev_iconst dX12_begins_125 ?_
    obtain ⟨g27, hf⟩ := gd_elim hf
    obtain ⟨μ28, hμ28, hf⟩ := lt_elim hf
    refine ev_zast (b := false) dX12_begins_126 (hS.lt (hc 89 rfl)) rfl g27 (hS.up (hc 89 rfl) hμ28) ?_
    refine ev_iinc (al2 := [(1, vi (v25 + 1)), (0, vr g 75)]) dX12_begins_127 1 rfl (by decide) rfl ?_
    refine ev_goto 115 dX12_begins_130 (by decide) ?_
    obtain rfl := Option.some.inj hf
    refine ev_sub [1, 0] rfl ?_
    exact hr
def fX12_begins  (μ : Mem) : Option (Mem) :=
  (loopN (fun s => fX12_begins_b2 s.1 s.2) FU (0, μ)).bind fun q14 =>
  (fX12_numberNow q14).bind fun v15 =>
  lt (upd2 q14 75 22 v15) fun μ16 =>
  lt (upd2 μ16 88 0 (μ16 75 22)) fun μ17 =>
  lt (upd2 μ17 88 1 0) fun μ18 =>
  lt (upd2 μ18 88 2 0) fun μ19 =>
  lt (upd2 μ19 88 3 0) fun μ20 =>
  lt (upd2 μ20 84 0 0) fun μ21 =>
  lt (upd2 μ21 75 16 0) fun μ22 =>
  lt (upd2 μ22 75 20 0) fun μ23 =>
  lt (upd2 μ23 75 26 0) fun μ24 =>
  (loopN (fun s => fX12_begins_b115 s.1 s.2) FU (0, μ24)).bind fun q29 =>
  some (q29)
set_option maxRecDepth 4000 in
theorem eX12_begins (hS : Sd M K P L) (hc : CIn P 75 92)  (μ : Mem)  {o : Mem} (hf : fX12_begins  μ = some o) (hr : (fun o : Mem => Φ none M x (L o)) o) : Ev l D cy g K yX12_begins cX12_begins 2 none (rmd 4 0 0) (MX D cy g K (rmd 4 0 0) Φ) 0 0 M x (L μ) 0 [(0, vr g 75)] [] := by
  unfold fX12_begins at hf
  refine ev_iconst dX12_begins_0 ?_
  refine ev_istore_n (al2 := [(1, vi 0), (0, vr g 75)]) dX12_begins_1 1 rfl (by decide) rfl ?_
  obtain ⟨q14, hq14, hf⟩ := Option.bind_eq_some_iff.mp hf
  refine ev_sub [1, 0] rfl ?_
  refine loop_ev (H := (fun s : Int × Mem => Ev l D cy g K yX12_begins cX12_begins 2 none (rmd 4 0 0) (MX D cy g K (rmd 4 0 0) Φ) 0 0 M x (L s.2) 2 [(0, vr g 75), (1, vi s.1)] [])) (Hx := (fun e : Mem => Ev l D cy g K yX12_begins cX12_begins 2 none (rmd 4 0 0) (MX D cy g K (rmd 4 0 0) Φ) 0 0 M x (L e) 52 [(0, vr g 75)] [])) (fun s o hb hr => tX12_begins_b2 hS hc s.1 s.2 hb hr) FU _ _ hq14 ?_
  show Ev l D cy g K yX12_begins cX12_begins 2 none (rmd 4 0 0) (MX D cy g K (rmd 4 0 0) Φ) 0 0 M x (L q14) 52 [(0, vr g 75)] []
  refine ev_aload_n dX12_begins_52 0 rfl ?_
  refine ev_aload_n dX12_begins_53 0 rfl ?_
  obtain ⟨v15, hv15, hf⟩ := Option.bind_eq_some_iff.mp hf
  refine cl_V1 (As := []) (st := [vr g 75]) miX12_numberNow (tX12_numberNow hS (hc.w rfl rfl) q14 hv15) dX12_begins_54 lkX12_242 inX12_numberNow rfl (hS.lt (hc 75 rfl)) rfl ⟨rfl, rfl⟩ ⟨⟨Nat.le_of_ble_eq_true rfl, Nat.le_of_ble_eq_true rfl⟩, Nat.zero_le _, Nat.zero_le _⟩ (Nat.le_of_ble_eq_true rfl) ?_
  obtain ⟨μ16, hμ16, hf⟩ := lt_elim hf
  refine ev_putI 22 dX12_begins_57 (hS.lt (hc 75 rfl)) rfl ciX12 (by decide) (Or.inl rfl) rfl rfl flX12_245 (hS.up (hc 75 rfl) hμ16) ?_
  refine ev_aload_n dX12_begins_60 0 rfl ?_
  refine ev_getK 19 dX12_begins_61 (hS.lt (hc 75 rfl)) rfl (hS.K1 (hc 75 rfl) rfl) ciX12 (by decide) rfl flX12_94 ?_
  refine ev_iconst dX12_begins_64 ?_
  refine ev_aload_n dX12_begins_65 0 rfl ?_
  refine ev_getI 22 dX12_begins_66 (hS.lt (hc 75 rfl)) rfl (hS.mem _ (hc 75 rfl)) ciX12 (by decide) rfl flX12_245 ?_
  obtain ⟨μ17, hμ17, hf⟩ := lt_elim hf
  refine ev_iast (N2 := L μ17) dX12_begins_69 (hS.lt (hc 88 rfl)) rfl ⟨by decide, by decide⟩ (by rw [show (w32 0).toNat = 0 from by decide]; exact hS.up (hc 88 rfl) hμ17) ?_
  refine ev_aload_n dX12_begins_70 0 rfl ?_
  refine ev_getK 19 dX12_begins_71 (hS.lt (hc 75 rfl)) rfl (hS.K1 (hc 75 rfl) rfl) ciX12 (by decide) rfl flX12_94 ?_
  refine ev_iconst dX12_begins_74 ?_
  refine ev_iconst dX12_begins_75 ?_
  obtain ⟨μ18, hμ18, hf⟩ := lt_elim hf
  refine ev_iast (N2 := L μ18) dX12_begins_76 (hS.lt (hc 88 rfl)) rfl ⟨by decide, by decide⟩ (by rw [show (w32 1).toNat = 1 from by decide]; exact hS.up (hc 88 rfl) hμ18) ?_
  refine ev_aload_n dX12_begins_77 0 rfl ?_
  refine ev_getK 19 dX12_begins_78 (hS.lt (hc 75 rfl)) rfl (hS.K1 (hc 75 rfl) rfl) ciX12 (by decide) rfl flX12_94 ?_
  refine ev_iconst dX12_begins_81 ?_
  refine ev_iconst dX12_begins_82 ?_
  obtain ⟨μ19, hμ19, hf⟩ := lt_elim hf
  refine ev_iast (N2 := L μ19) dX12_begins_83 (hS.lt (hc 88 rfl)) rfl ⟨by decide, by decide⟩ (by rw [show (w32 2).toNat = 2 from by decide]; exact hS.up (hc 88 rfl) hμ19) ?_
  refine ev_aload_n dX12_begins_84 0 rfl ?_
  refine ev_getK 19 dX12_begins_85 (hS.lt (hc 75 rfl)) rfl (hS.K1 (hc 75 rfl) rfl) ciX12 (by decide) rfl flX12_94 ?_
  refine ev_iconst dX12_begins_88 ?_
  refine ev_iconst dX12_begins_89 ?_
  obtain ⟨μ20, hμ20, hf⟩ := lt_elim hf
  refine ev_iast (N2 := L μ20) dX12_begins_90 (hS.lt (hc 88 rfl)) rfl ⟨by decide, by decide⟩ (by rw [show (w32 3).toNat = 3 from by decide]; exact hS.up (hc 88 rfl) hμ20) ?_
  refine ev_aload_n dX12_begins_91 0 rfl ?_
  refine ev_getK 14 dX12_begins_92 (hS.lt (hc 75 rfl)) rfl (hS.K1 (hc 75 rfl) rfl) ciX12 (by decide) rfl flX12_82 ?_
  refine ev_iconst dX12_begins_95 ?_
  refine ev_iconst dX12_begins_96 ?_
  obtain ⟨μ21, hμ21, hf⟩ := lt_elim hf
  refine ev_iast (N2 := L μ21) dX12_begins_97 (hS.lt (hc 84 rfl)) rfl ⟨by decide, by decide⟩ (by rw [show (w32 0).toNat = 0 from by decide]; exact hS.up (hc 84 rfl) hμ21) ?_
  refine ev_aload_n dX12_begins_98 0 rfl ?_
  refine ev_iconst dX12_begins_99 ?_
  obtain ⟨μ22, hμ22, hf⟩ := lt_elim hf
  refine ev_putZ (b := false) 16 dX12_begins_100 (hS.lt (hc 75 rfl)) rfl ciX12 (by decide) (Or.inl rfl) rfl rfl flX12_213 (hS.up (hc 75 rfl) hμ22) ?_
  refine ev_aload_n dX12_begins_103 0 rfl ?_
  refine ev_iconst dX12_begins_104 ?_
  obtain ⟨μ23, hμ23, hf⟩ := lt_elim hf
  refine ev_putI 20 dX12_begins_105 (hS.lt (hc 75 rfl)) rfl ciX12 (by decide) (Or.inl rfl) rfl rfl flX12_248 (hS.up (hc 75 rfl) hμ23) ?_
  refine ev_aload_n dX12_begins_108 0 rfl ?_
  refine ev_iconst dX12_begins_109 ?_
  obtain ⟨μ24, hμ24, hf⟩ := lt_elim hf
  refine ev_putI 26 dX12_begins_110 (hS.lt (hc 75 rfl)) rfl ciX12 (by decide) (Or.inl rfl) rfl rfl flX12_251 (hS.up (hc 75 rfl) hμ24) ?_
  refine ev_iconst dX12_begins_113 ?_
  refine ev_istore_n (al2 := [(1, vi 0), (0, vr g 75)]) dX12_begins_114 1 rfl (by decide) rfl ?_
  obtain ⟨q29, hq29, hf⟩ := Option.bind_eq_some_iff.mp hf
  refine ev_sub [1, 0] rfl ?_
  refine loop_ev (H := (fun s : Int × Mem => Ev l D cy g K yX12_begins cX12_begins 2 none (rmd 4 0 0) (MX D cy g K (rmd 4 0 0) Φ) 0 0 M x (L s.2) 115 [(0, vr g 75), (1, vi s.1)] [])) (Hx := (fun e : Mem => Ev l D cy g K yX12_begins cX12_begins 2 none (rmd 4 0 0) (MX D cy g K (rmd 4 0 0) Φ) 0 0 M x (L e) 133 [] [])) (fun s o hb hr => tX12_begins_b115 hS hc s.1 s.2 hb hr) FU _ _ hq29 ?_
  show Ev l D cy g K yX12_begins cX12_begins 2 none (rmd 4 0 0) (MX D cy g K (rmd 4 0 0) Φ) 0 0 M x (L q29) 133 [] []
  obtain rfl := Option.some.inj hf
  exact ev_vret dX12_begins_133 rfl ⟨Nat.zero_le _, Nat.zero_le _⟩ hr
theorem tX12_begins (hS : Sd M K P L) (hc : CIn P 75 92) (μ : Mem) {o : Mem} (hf : fX12_begins μ = some o) : Cn l D cy g K K yX12_begins cX12_begins 2 none (rmd 4 0 0) [vr g 75] M x (L μ) (PE none M x (L o)) :=
 Cn.of (by decide) (Nat.le_of_ble_eq_true rfl) (eX12_begins hS hc μ hf (PE_i _ _ _ _))
def fX12_isLetter (c0 : Int) : Bool :=
  lt (if w32 c0 < w32 97 then
      false
    else
      if w32 c0 ≤ w32 122 then
        true
      else
        false) fun v1 =>
  v1
set_option maxRecDepth 4000 in
theorem eX12_isLetter  (c0 : Int) (μ : Mem)  {o : Bool} (hf : fX12_isLetter c0 = o) (hr : (fun o : Bool => Φ (some (vb o)) M x μ) o) : Ev l D cy g K yX12_isLetter cX12_isLetter 1 (some .boolean) (rmd 1 0 0) (MX D cy g K (rmd 1 0 0) Φ) 0 0 M x μ 0 [(0, vi c0)] [] := by
  unfold fX12_isLetter at hf
  refine ev_iload_n dX12_isLetter_0 0 rfl ?_
  refine ev_bipush dX12_isLetter_1 (by decide) ?_
  obtain ⟨v1, hv1, hf⟩ := lt_elim hf
  have hJv1 : Ev l D cy g K yX12_isLetter cX12_isLetter 1 (some .boolean) (rmd 1 0 0) (MX D cy g K (rmd 1 0 0) Φ) 0 0 M x μ 17 [(0, vi c0)] [vb v1] := by
    obtain rfl := hf
    exact ev_bret (b := v1) dX12_isLetter_17 rfl ⟨Nat.zero_le _, Nat.zero_le _⟩ hr
  refine ev_icmp_lt 16 dX12_isLetter_3 (by decide) (fun h2 => ?_) (fun h2 => ?_)
  · refine ev_iconst dX12_isLetter_16 ?_
    have e9 : v1 = false := hv1.trans ((if_pos h2))
    subst e9
    exact hJv1
  · refine ev_iload_n dX12_isLetter_6 0 rfl ?_
    refine ev_bipush dX12_isLetter_7 (by decide) ?_
    refine ev_icmp_gt 16 dX12_isLetter_9 (by decide) (fun h3 => ?_) (fun h3 => ?_)
    · refine ev_iconst dX12_isLetter_16 ?_
      have e9 : v1 = false := hv1.trans (((if_neg h2)).trans (if_neg h3))
      subst e9
      exact hJv1
    · refine ev_iconst dX12_isLetter_12 ?_
      refine ev_goto 17 dX12_isLetter_13 (by decide) ?_
      have e9 : v1 = true := hv1.trans (((if_neg h2)).trans (if_pos h3))
      subst e9
      exact hJv1
theorem tX12_isLetter (c0 : Int) (μ : Mem) {o : Bool} (hf : fX12_isLetter c0 = o) : Cn l D cy g K K yX12_isLetter cX12_isLetter 1 (some .boolean) (rmd 1 0 0) [vi c0] M x μ (PE (some (vb o)) M x μ) :=
 Cn.of (by decide) (Nat.le_of_ble_eq_true rfl) (eX12_isLetter c0 μ hf (PE_i _ _ _ _))
def fX12_isDigit (c0 : Int) : Bool :=
  lt (if w32 c0 < w32 48 then
      false
    else
      if w32 c0 ≤ w32 57 then
        true
      else
        false) fun v1 =>
  v1
set_option maxRecDepth 4000 in
theorem eX12_isDigit  (c0 : Int) (μ : Mem)  {o : Bool} (hf : fX12_isDigit c0 = o) (hr : (fun o : Bool => Φ (some (vb o)) M x μ) o) : Ev l D cy g K yX12_isDigit cX12_isDigit 1 (some .boolean) (rmd 1 0 0) (MX D cy g K (rmd 1 0 0) Φ) 0 0 M x μ 0 [(0, vi c0)] [] := by
  unfold fX12_isDigit at hf
  refine ev_iload_n dX12_isDigit_0 0 rfl ?_
  refine ev_bipush dX12_isDigit_1 (by decide) ?_
  obtain ⟨v1, hv1, hf⟩ := lt_elim hf
  have hJv1 : Ev l D cy g K yX12_isDigit cX12_isDigit 1 (some .boolean) (rmd 1 0 0) (MX D cy g K (rmd 1 0 0) Φ) 0 0 M x μ 17 [(0, vi c0)] [vb v1] := by
    obtain rfl := hf
    exact ev_bret (b := v1) dX12_isDigit_17 rfl ⟨Nat.zero_le _, Nat.zero_le _⟩ hr
  refine ev_icmp_lt 16 dX12_isDigit_3 (by decide) (fun h2 => ?_) (fun h2 => ?_)
  · refine ev_iconst dX12_isDigit_16 ?_
    have e9 : v1 = false := hv1.trans ((if_pos h2))
    subst e9
    exact hJv1
  · refine ev_iload_n dX12_isDigit_6 0 rfl ?_
    refine ev_bipush dX12_isDigit_7 (by decide) ?_
    refine ev_icmp_gt 16 dX12_isDigit_9 (by decide) (fun h3 => ?_) (fun h3 => ?_)
    · refine ev_iconst dX12_isDigit_16 ?_
      have e9 : v1 = false := hv1.trans (((if_neg h2)).trans (if_neg h3))
      subst e9
      exact hJv1
    · refine ev_iconst dX12_isDigit_12 ?_
      refine ev_goto 17 dX12_isDigit_13 (by decide) ?_
      have e9 : v1 = true := hv1.trans (((if_neg h2)).trans (if_pos h3))
      subst e9
      exact hJv1
theorem tX12_isDigit (c0 : Int) (μ : Mem) {o : Bool} (hf : fX12_isDigit c0 = o) : Cn l D cy g K K yX12_isDigit cX12_isDigit 1 (some .boolean) (rmd 1 0 0) [vi c0] M x μ (PE (some (vb o)) M x μ) :=
 Cn.of (by decide) (Nat.le_of_ble_eq_true rfl) (eX12_isDigit c0 μ hf (PE_i _ _ _ _))
def fX12_rank (c0 : Int) : Int :=
  lt (if (fX12_isLetter c0) = true then
      (c0 - 96)
    else
      (c0 - 21)) fun v1 =>
  v1
set_option maxRecDepth 4000 in
theorem eX12_rank  (c0 : Int) (μ : Mem)  {o : Int} (hf : fX12_rank c0 = o) (hr : (fun o : Int => Φ (some (vi o)) M x μ) o) : Ev l D cy g K yX12_rank cX12_rank 1 (some .int) (rmd 2 0 0) (MX D cy g K (rmd 2 0 0) Φ) 0 0 M x μ 0 [(0, vi c0)] [] := by
  unfold fX12_rank at hf
  refine ev_iload_n dX12_rank_0 0 rfl ?_
  refine cl_S1 (As := [vi c0]) (st := []) miX12_isLetter (tX12_isLetter c0 μ (o := (fX12_isLetter c0)) rfl) dX12_rank_1 lkX12_126 stX12_isLetter rfl ⟨⟨Nat.le_of_ble_eq_true rfl, Nat.le_of_ble_eq_true rfl⟩, Nat.zero_le _, Nat.zero_le _⟩ (Nat.le_of_ble_eq_true rfl) ?_
  obtain ⟨v1, hv1, hf⟩ := lt_elim hf
  have hJv1 : Ev l D cy g K yX12_rank cX12_rank 1 (some .int) (rmd 2 0 0) (MX D cy g K (rmd 2 0 0) Φ) 0 0 M x μ 18 [(0, vi c0)] [vi v1] := by
    obtain rfl := hf
    exact ev_iret dX12_rank_18 rfl ⟨Nat.zero_le _, Nat.zero_le _⟩ hr
  refine ev_ifb_eq 14 dX12_rank_4 (by decide) (fun h2 => ?_) (fun h2 => ?_)
  · refine ev_iload_n dX12_rank_14 0 rfl ?_
    refine ev_bipush dX12_rank_15 (by decide) ?_
    refine ev_isub dX12_rank_17 ?_
    have e9 : v1 = (c0 - 21) := hv1.trans ((if_neg h2))
    subst e9
    exact hJv1
  · refine ev_iload_n dX12_rank_7 0 rfl ?_
    refine ev_bipush dX12_rank_8 (by decide) ?_
    refine ev_isub dX12_rank_10 ?_
    refine ev_goto 18 dX12_rank_11 (by decide) ?_
    have e9 : v1 = (c0 - 96) := hv1.trans ((if_pos h2))
    subst e9
    exact hJv1
theorem tX12_rank (c0 : Int) (μ : Mem) {o : Int} (hf : fX12_rank c0 = o) : Cn l D cy g K K yX12_rank cX12_rank 1 (some .int) (rmd 2 0 0) [vi c0] M x μ (PE (some (vi o)) M x μ) :=
 Cn.of (by decide) (Nat.le_of_ble_eq_true rfl) (eX12_rank c0 μ hf (PE_i _ _ _ _))
def fX12_isSignOf (c0 : Int) : Bool :=
  lt (if w32 c0 = w32 40 then
      true
    else
      if w32 c0 = w32 41 then
        true
      else
        if w32 c0 = w32 59 then
          true
        else
          if w32 c0 = w32 61 then
            true
          else
            if w32 c0 = w32 60 then
              true
            else
              if w32 c0 = w32 43 then
                true
              else
                if w32 c0 = w32 45 then
                  true
                else
                  if w32 c0 = w32 42 then
                    true
                  else
                    false) fun v1 =>
  v1
set_option maxRecDepth 4000 in
theorem eX12_isSignOf  (c0 : Int) (μ : Mem)  {o : Bool} (hf : fX12_isSignOf c0 = o) (hr : (fun o : Bool => Φ (some (vb o)) M x μ) o) : Ev l D cy g K yX12_isSignOf cX12_isSignOf 1 (some .boolean) (rmd 1 0 0) (MX D cy g K (rmd 1 0 0) Φ) 0 0 M x μ 0 [(0, vi c0)] [] := by
  unfold fX12_isSignOf at hf
  refine ev_iload_n dX12_isSignOf_0 0 rfl ?_
  refine ev_bipush dX12_isSignOf_1 (by decide) ?_
  obtain ⟨v1, hv1, hf⟩ := lt_elim hf
  have hJv1 : Ev l D cy g K yX12_isSignOf cX12_isSignOf 1 (some .boolean) (rmd 1 0 0) (MX D cy g K (rmd 1 0 0) Φ) 0 0 M x μ 53 [(0, vi c0)] [vb v1] := by
    obtain rfl := hf
    exact ev_bret (b := v1) dX12_isSignOf_53 rfl ⟨Nat.zero_le _, Nat.zero_le _⟩ hr
  refine ev_icmp_eq 48 dX12_isSignOf_3 (by decide) (fun h2 => ?_) (fun h2 => ?_)
  · refine ev_iconst dX12_isSignOf_48 ?_
    refine ev_goto 53 dX12_isSignOf_49 (by decide) ?_
    have e9 : v1 = true := hv1.trans ((if_pos h2))
    subst e9
    exact hJv1
  · refine ev_iload_n dX12_isSignOf_6 0 rfl ?_
    refine ev_bipush dX12_isSignOf_7 (by decide) ?_
    refine ev_icmp_eq 48 dX12_isSignOf_9 (by decide) (fun h3 => ?_) (fun h3 => ?_)
    · refine ev_iconst dX12_isSignOf_48 ?_
      refine ev_goto 53 dX12_isSignOf_49 (by decide) ?_
      have e9 : v1 = true := hv1.trans (((if_neg h2)).trans (if_pos h3))
      subst e9
      exact hJv1
    · refine ev_iload_n dX12_isSignOf_12 0 rfl ?_
      refine ev_bipush dX12_isSignOf_13 (by decide) ?_
      refine ev_icmp_eq 48 dX12_isSignOf_15 (by decide) (fun h4 => ?_) (fun h4 => ?_)
      · refine ev_iconst dX12_isSignOf_48 ?_
        refine ev_goto 53 dX12_isSignOf_49 (by decide) ?_
        have e9 : v1 = true := hv1.trans (((if_neg h2)).trans (((if_neg h3)).trans (if_pos h4)))
        subst e9
        exact hJv1
      · refine ev_iload_n dX12_isSignOf_18 0 rfl ?_
        refine ev_bipush dX12_isSignOf_19 (by decide) ?_
        refine ev_icmp_eq 48 dX12_isSignOf_21 (by decide) (fun h5 => ?_) (fun h5 => ?_)
        · refine ev_iconst dX12_isSignOf_48 ?_
          refine ev_goto 53 dX12_isSignOf_49 (by decide) ?_
          have e9 : v1 = true := hv1.trans (((if_neg h2)).trans (((if_neg h3)).trans (((if_neg h4)).trans (if_pos h5))))
          subst e9
          exact hJv1
        · refine ev_iload_n dX12_isSignOf_24 0 rfl ?_
          refine ev_bipush dX12_isSignOf_25 (by decide) ?_
          refine ev_icmp_eq 48 dX12_isSignOf_27 (by decide) (fun h6 => ?_) (fun h6 => ?_)
          · refine ev_iconst dX12_isSignOf_48 ?_
            refine ev_goto 53 dX12_isSignOf_49 (by decide) ?_
            have e9 : v1 = true := hv1.trans (((if_neg h2)).trans (((if_neg h3)).trans (((if_neg h4)).trans (((if_neg h5)).trans (if_pos h6)))))
            subst e9
            exact hJv1
          · refine ev_iload_n dX12_isSignOf_30 0 rfl ?_
            refine ev_bipush dX12_isSignOf_31 (by decide) ?_
            refine ev_icmp_eq 48 dX12_isSignOf_33 (by decide) (fun h7 => ?_) (fun h7 => ?_)
            · refine ev_iconst dX12_isSignOf_48 ?_
              refine ev_goto 53 dX12_isSignOf_49 (by decide) ?_
              have e9 : v1 = true := hv1.trans (((if_neg h2)).trans (((if_neg h3)).trans (((if_neg h4)).trans (((if_neg h5)).trans (((if_neg h6)).trans (if_pos h7))))))
              subst e9
              exact hJv1
            · refine ev_iload_n dX12_isSignOf_36 0 rfl ?_
              refine ev_bipush dX12_isSignOf_37 (by decide) ?_
              refine ev_icmp_eq 48 dX12_isSignOf_39 (by decide) (fun h8 => ?_) (fun h8 => ?_)
              · refine ev_iconst dX12_isSignOf_48 ?_
                refine ev_goto 53 dX12_isSignOf_49 (by decide) ?_
                have e9 : v1 = true := hv1.trans (((if_neg h2)).trans (((if_neg h3)).trans (((if_neg h4)).trans (((if_neg h5)).trans (((if_neg h6)).trans (((if_neg h7)).trans (if_pos h8)))))))
                subst e9
                exact hJv1
              · refine ev_iload_n dX12_isSignOf_42 0 rfl ?_
                refine ev_bipush dX12_isSignOf_43 (by decide) ?_
                refine ev_icmp_ne 52 dX12_isSignOf_45 (by decide) (fun h9 => ?_) (fun h9 => ?_)
                · refine ev_iconst dX12_isSignOf_52 ?_
                  have e9 : v1 = false := hv1.trans (((if_neg h2)).trans (((if_neg h3)).trans (((if_neg h4)).trans (((if_neg h5)).trans (((if_neg h6)).trans (((if_neg h7)).trans (((if_neg h8)).trans (if_neg h9))))))))
                  subst e9
                  exact hJv1
                · refine ev_iconst dX12_isSignOf_48 ?_
                  refine ev_goto 53 dX12_isSignOf_49 (by decide) ?_
                  have e9 : v1 = true := hv1.trans (((if_neg h2)).trans (((if_neg h3)).trans (((if_neg h4)).trans (((if_neg h5)).trans (((if_neg h6)).trans (((if_neg h7)).trans (((if_neg h8)).trans (if_pos h9))))))))
                  subst e9
                  exact hJv1
theorem tX12_isSignOf (c0 : Int) (μ : Mem) {o : Bool} (hf : fX12_isSignOf c0 = o) : Cn l D cy g K K yX12_isSignOf cX12_isSignOf 1 (some .boolean) (rmd 1 0 0) [vi c0] M x μ (PE (some (vb o)) M x μ) :=
 Cn.of (by decide) (Nat.le_of_ble_eq_true rfl) (eX12_isSignOf c0 μ hf (PE_i _ _ _ _))
def fX12_cutAll_j265 (v19 : Int) (v20 : Int) (v21 : Int) (μ : Mem) : Option ((Int × Int × Mem) ⊕ (Int × Mem)) :=
  gd (0 ≤ w32 v19 ∧ w32 v19 < 1002) <|
  lt (upd2 μ 79 ((w32 v19).toNat) v21) fun μ23 =>
  some (.inl ((v19 + 1), v20, μ23))
set_option maxRecDepth 4000 in
theorem tX12_cutAll_j265 (hS : Sd M K P L) (hc : CIn P 75 80) (v19 : Int) (v20 : Int) (v21 : Int) (μ : Mem)  {o : (Int × Int × Mem) ⊕ (Int × Mem)} (hf : fX12_cutAll_j265 v19 v20 v21 μ = some o) (hr : (Sum.elim (fun s : Int × Int × Mem => Ev l D cy g K yX12_cutAll cX12_cutAll 7 none (rmd 3 0 0) (MX D cy g K (rmd 3 0 0) Φ) 0 0 M x (L s.2.2) 17 [(0, vr g 75), (1, vi s.1), (2, vi s.2.1)] []) (fun e : Int × Mem => Ev l D cy g K yX12_cutAll cX12_cutAll 7 none (rmd 3 0 0) (MX D cy g K (rmd 3 0 0) Φ) 0 0 M x (L e.2) 279 [(0, vr g 75), (1, vi e.1)] [])) o) : Ev l D cy g K yX12_cutAll cX12_cutAll 7 none (rmd 3 0 0) (MX D cy g K (rmd 3 0 0) Φ) 0 0 M x (L μ) 265 [(0, vr g 75), (1, vi v19), (2, vi v20), (5, vl v21)] [] := by
  unfold fX12_cutAll_j265 at hf
  refine ev_aload_n dX12_cutAll_265 0 rfl ?_
  refine ev_getK 6 dX12_cutAll_266 (hS.lt (hc 75 rfl)) rfl (hS.K1 (hc 75 rfl) rfl) ciX12 (by decide) rfl flX12_30 ?_
  refine ev_iload_n dX12_cutAll_269 1 rfl ?_
  refine ev_lload dX12_cutAll_270 3 rfl ?_
  obtain ⟨g22, hf⟩ := gd_elim hf
  obtain ⟨μ23, hμ23, hf⟩ := lt_elim hf
  refine ev_last dX12_cutAll_272 (hS.lt (hc 79 rfl)) rfl g22 (hS.up (hc 79 rfl) hμ23) ?_
  refine ev_iinc (al2 := [(1, vi (v19 + 1)), (0, vr g 75), (2, vi v20), (5, vl v21)]) dX12_cutAll_273 1 rfl (by decide) rfl ?_
  refine ev_goto 17 dX12_cutAll_276 (by decide) ?_
  obtain rfl := Option.some.inj hf
  refine ev_sub [1, 0, 2] rfl ?_
  exact hr
def fX12_cutAll_b159 (v3 : Int) (v4 : Int) (v24 : Int) (v25 : Int) (μ : Mem) : Option ((Int × Int × Mem) ⊕ (Int × Int × Mem)) :=
  if w32 v24 < w32 (μ 75 3) then
    gd (0 ≤ w32 v24 ∧ w32 v24 < 1000) <|
    lt (fX12_isDigit (μ 76 (w32 v24).toNat)) fun v28 =>
    if v28 = true then
      if w32 (v24 - v4) < w32 4 then
        gd (0 ≤ w32 v24 ∧ w32 v24 < 1000) <|
        lt (((10 * v25) + (w32 (μ 76 (w32 v24).toNat))) - 48) fun v32 =>
        some (.inl ((v24 + 1), v32, μ))
      else
        some (.inl ((v24 + 1), v25, μ))
    else
      some (.inr (v24, v25, μ))
  else
    some (.inr (v24, v25, μ))
set_option maxRecDepth 4000 in
theorem tX12_cutAll_b159 (hS : Sd M K P L) (hc : CIn P 75 80) (v3 : Int) (v4 : Int) (v24 : Int) (v25 : Int) (μ : Mem)  {o : (Int × Int × Mem) ⊕ (Int × Int × Mem)} (hf : fX12_cutAll_b159 v3 v4 v24 v25 μ = some o) (hr : (Sum.elim (fun s : Int × Int × Mem => Ev l D cy g K yX12_cutAll cX12_cutAll 7 none (rmd 3 0 0) (MX D cy g K (rmd 3 0 0) Φ) 0 0 M x (L s.2.2) 159 [(0, vr g 75), (1, vi v3), (2, vi s.1), (4, vi v4), (5, vl s.2.1)] []) (fun e : Int × Int × Mem => Ev l D cy g K yX12_cutAll cX12_cutAll 7 none (rmd 3 0 0) (MX D cy g K (rmd 3 0 0) Φ) 0 0 M x (L e.2.2) 218 [(0, vr g 75), (1, vi v3), (2, vi e.1), (4, vi v4), (5, vl e.2.1)] [])) o) : Ev l D cy g K yX12_cutAll cX12_cutAll 7 none (rmd 3 0 0) (MX D cy g K (rmd 3 0 0) Φ) 0 0 M x (L μ) 159 [(0, vr g 75), (1, vi v3), (2, vi v24), (4, vi v4), (5, vl v25)] [] := by
  unfold fX12_cutAll_b159 at hf
  refine ev_iload_n dX12_cutAll_159 2 rfl ?_
  refine ev_aload_n dX12_cutAll_160 0 rfl ?_
  refine ev_getI 3 dX12_cutAll_161 (hS.lt (hc 75 rfl)) rfl (hS.mem _ (hc 75 rfl)) ciX12 (by decide) rfl flX12_130 ?_
  refine ev_icmp_ge 218 dX12_cutAll_164 (by decide) (fun h26 => ?_) (fun h26 => ?_)
  · rw [if_neg h26] at hf
    obtain rfl := Option.some.inj hf
    refine ev_sub [0, 1, 2, 3, 4] rfl ?_
    exact hr
  · rw [if_pos h26] at hf
    refine ev_aload_n dX12_cutAll_167 0 rfl ?_
    refine ev_getK 1 dX12_cutAll_168 (hS.lt (hc 75 rfl)) rfl (hS.K1 (hc 75 rfl) rfl) ciX12 (by decide) rfl flX12_14 ?_
    refine ev_iload_n dX12_cutAll_171 2 rfl ?_
    obtain ⟨g27, hf⟩ := gd_elim hf
    refine ev_iald dX12_cutAll_172 (hS.lt (hc 76 rfl)) rfl (hS.mem _ (hc 76 rfl)) g27 ?_
    obtain ⟨v28, hv28, hf⟩ := lt_elim hf
    refine cl_S1 (As := [vi (μ 76 (w32 v24).toNat)]) (st := []) miX12_isDigit (tX12_isDigit (μ 76 (w32 v24).toNat) (L μ) hv28.symm) dX12_cutAll_173 lkX12_139 stX12_isDigit rfl ⟨⟨Nat.le_of_ble_eq_true rfl, Nat.le_of_ble_eq_true rfl⟩, Nat.zero_le _, Nat.zero_le _⟩ (Nat.le_of_ble_eq_true rfl) ?_
    refine ev_ifb_eq 218 dX12_cutAll_176 (by decide) (fun h29 => ?_) (fun h29 => ?_)
    · rw [if_neg h29] at hf
      obtain rfl := Option.some.inj hf
      refine ev_sub [0, 1, 2, 3, 4] rfl ?_
      exact hr
    · rw [if_pos h29] at hf
      refine ev_iload_n dX12_cutAll_179 2 rfl ?_
      refine ev_iload dX12_cutAll_180 3 rfl ?_
      refine ev_isub dX12_cutAll_182 ?_
      refine ev_iconst dX12_cutAll_183 ?_
      refine ev_icmp_ge 208 dX12_cutAll_184 (by decide) (fun h30 => ?_) (fun h30 => ?_)
      · rw [if_neg h30] at hf
        refine ev_lload dX12_cutAll_208 4 rfl ?_
        refine ev_lstore (al2 := [(5, vl v25), (0, vr g 75), (1, vi v3), (2, vi v24), (4, vi v4)]) dX12_cutAll_210 (by decide) rfl ?_
        refine ev_iinc (al2 := [(2, vi (v24 + 1)), (5, vl v25), (0, vr g 75), (1, vi v3), (4, vi v4)]) dX12_cutAll_212 3 rfl (by decide) rfl ?_
        refine ev_goto 159 dX12_cutAll_215 (by decide) ?_
        obtain rfl := Option.some.inj hf
        refine ev_sub [2, 3, 0, 4, 1] rfl ?_
        exact hr
      · rw [if_pos h30] at hf
        refine ev_ldc2 10 dX12_cutAll_187 klX12_142 (by decide) ?_
        refine ev_lload dX12_cutAll_190 4 rfl ?_
        refine ev_lmul dX12_cutAll_192 ?_
        refine ev_aload_n dX12_cutAll_193 0 rfl ?_
        refine ev_getK 1 dX12_cutAll_194 (hS.lt (hc 75 rfl)) rfl (hS.K1 (hc 75 rfl) rfl) ciX12 (by decide) rfl flX12_14 ?_
        refine ev_iload_n dX12_cutAll_197 2 rfl ?_
        obtain ⟨g31, hf⟩ := gd_elim hf
        refine ev_iald dX12_cutAll_198 (hS.lt (hc 76 rfl)) rfl (hS.mem _ (hc 76 rfl)) g31 ?_
        refine ev_i2l dX12_cutAll_199 ?_
        refine ev_ladd dX12_cutAll_200 ?_
        refine ev_ldc2 48 dX12_cutAll_201 klX12_144 (by decide) ?_
        refine ev_lsub dX12_cutAll_204 ?_
        refine ev_goto 210 dX12_cutAll_205 (by decide) ?_
        obtain ⟨v32, hv32, hf⟩ := lt_elim hf
        refine ev_rnl hv32 ?_
        refine ev_lstore (al2 := [(5, vl v32), (0, vr g 75), (1, vi v3), (2, vi v24), (4, vi v4)]) dX12_cutAll_210 (by decide) rfl ?_
        refine ev_iinc (al2 := [(2, vi (v24 + 1)), (5, vl v32), (0, vr g 75), (1, vi v3), (4, vi v4)]) dX12_cutAll_212 3 rfl (by decide) rfl ?_
        refine ev_goto 159 dX12_cutAll_215 (by decide) ?_
        obtain rfl := Option.some.inj hf
        refine ev_sub [2, 3, 0, 4, 1] rfl ?_
        exact hr
def fX12_cutAll_j218 (v34 : Int) (v35 : Int) (v36 : Int) (v37 : Int) (μ : Mem) : Option ((Int × Int × Mem) ⊕ (Int × Mem)) :=
  lt (if w32 (v35 - v36) ≤ w32 4 then
      2
    else
      4) fun v38 =>
  gd (0 ≤ w32 v34 ∧ w32 v34 < 1002) <|
  lt (upd2 μ 77 ((w32 v34).toNat) v38) fun μ41 =>
  fX12_cutAll_j265 v34 v35 v37 μ41
set_option maxRecDepth 4000 in
theorem tX12_cutAll_j218 (hS : Sd M K P L) (hc : CIn P 75 80) (v34 : Int) (v35 : Int) (v36 : Int) (v37 : Int) (μ : Mem)  {o : (Int × Int × Mem) ⊕ (Int × Mem)} (hf : fX12_cutAll_j218 v34 v35 v36 v37 μ = some o) (hr : (Sum.elim (fun s : Int × Int × Mem => Ev l D cy g K yX12_cutAll cX12_cutAll 7 none (rmd 3 0 0) (MX D cy g K (rmd 3 0 0) Φ) 0 0 M x (L s.2.2) 17 [(0, vr g 75), (1, vi s.1), (2, vi s.2.1)] []) (fun e : Int × Mem => Ev l D cy g K yX12_cutAll cX12_cutAll 7 none (rmd 3 0 0) (MX D cy g K (rmd 3 0 0) Φ) 0 0 M x (L e.2) 279 [(0, vr g 75), (1, vi e.1)] [])) o) : Ev l D cy g K yX12_cutAll cX12_cutAll 7 none (rmd 3 0 0) (MX D cy g K (rmd 3 0 0) Φ) 0 0 M x (L μ) 218 [(0, vr g 75), (1, vi v34), (2, vi v35), (4, vi v36), (5, vl v37)] [] := by
  unfold fX12_cutAll_j218 at hf
  refine ev_aload_n dX12_cutAll_218 0 rfl ?_
  refine ev_getK 4 dX12_cutAll_219 (hS.lt (hc 75 rfl)) rfl (hS.K1 (hc 75 rfl) rfl) ciX12 (by decide) rfl flX12_24 ?_
  refine ev_iload_n dX12_cutAll_222 1 rfl ?_
  refine ev_iload_n dX12_cutAll_223 2 rfl ?_
  refine ev_iload dX12_cutAll_224 3 rfl ?_
  refine ev_isub dX12_cutAll_226 ?_
  refine ev_iconst dX12_cutAll_227 ?_
  obtain ⟨v38, hv38, hf⟩ := lt_elim hf
  have hJv38 : Ev l D cy g K yX12_cutAll cX12_cutAll 7 none (rmd 3 0 0) (MX D cy g K (rmd 3 0 0) Φ) 0 0 M x (L μ) 236 [(0, vr g 75), (1, vi v34), (2, vi v35), (4, vi v36), (5, vl v37)] [vi v38, vi v34, vr g 77] := by
    obtain ⟨g40, hf⟩ := gd_elim hf
    obtain ⟨μ41, hμ41, hf⟩ := lt_elim hf
    refine ev_iast dX12_cutAll_236 (hS.lt (hc 77 rfl)) rfl g40 (hS.up (hc 77 rfl) hμ41) ?_
    refine ev_goto 265 dX12_cutAll_237 (by decide) ?_
    refine ev_sub [0, 1, 2, 4] rfl ?_
    exact tX12_cutAll_j265 hS hc v34 v35 v37 μ41 hf hr
  refine ev_icmp_le 235 dX12_cutAll_228 (by decide) (fun h39 => ?_) (fun h39 => ?_)
  · refine ev_iconst dX12_cutAll_235 ?_
    have e9 : v38 = 2 := hv38.trans ((if_pos h39))
    subst e9
    exact hJv38
  · refine ev_iconst dX12_cutAll_231 ?_
    refine ev_goto 236 dX12_cutAll_232 (by decide) ?_
    have e9 : v38 = 4 := hv38.trans ((if_neg h39))
    subst e9
    exact hJv38
def fX12_cutAll_b70 (v3 : Int) (v4 : Int) (v45 : Int) (v46 : Int) (μ : Mem) : Option ((Int × Int × Mem) ⊕ (Int × Int × Mem)) :=
  if w32 v45 < w32 (μ 75 3) then
    gd (0 ≤ w32 v45 ∧ w32 v45 < 1000) <|
    lt (fX12_isLetter (μ 76 (w32 v45).toNat)) fun v49 =>
    if v49 = true then
      if w32 (v45 - v4) < w32 8 then
        gd (0 ≤ w32 v45 ∧ w32 v45 < 1000) <|
        lt (fX12_rank (μ 76 (w32 v45).toNat)) fun v53 =>
        lt ((37 * v46) + (w32 v53)) fun v54 =>
        some (.inl ((v45 + 1), v54, μ))
      else
        some (.inl ((v45 + 1), v46, μ))
    else
      some (.inr (v45, v46, μ))
  else
    some (.inr (v45, v46, μ))
set_option maxRecDepth 4000 in
theorem tX12_cutAll_b70 (hS : Sd M K P L) (hc : CIn P 75 80) (v3 : Int) (v4 : Int) (v45 : Int) (v46 : Int) (μ : Mem)  {o : (Int × Int × Mem) ⊕ (Int × Int × Mem)} (hf : fX12_cutAll_b70 v3 v4 v45 v46 μ = some o) (hr : (Sum.elim (fun s : Int × Int × Mem => Ev l D cy g K yX12_cutAll cX12_cutAll 7 none (rmd 3 0 0) (MX D cy g K (rmd 3 0 0) Φ) 0 0 M x (L s.2.2) 70 [(0, vr g 75), (1, vi v3), (2, vi s.1), (4, vi v4), (5, vl s.2.1)] []) (fun e : Int × Int × Mem => Ev l D cy g K yX12_cutAll cX12_cutAll 7 none (rmd 3 0 0) (MX D cy g K (rmd 3 0 0) Φ) 0 0 M x (L e.2.2) 129 [(0, vr g 75), (1, vi v3), (2, vi e.1), (4, vi v4), (5, vl e.2.1)] [])) o) : Ev l D cy g K yX12_cutAll cX12_cutAll 7 none (rmd 3 0 0) (MX D cy g K (rmd 3 0 0) Φ) 0 0 M x (L μ) 70 [(0, vr g 75), (1, vi v3), (2, vi v45), (4, vi v4), (5, vl v46)] [] := by
  unfold fX12_cutAll_b70 at hf
  refine ev_iload_n dX12_cutAll_70 2 rfl ?_
  refine ev_aload_n dX12_cutAll_71 0 rfl ?_
  refine ev_getI 3 dX12_cutAll_72 (hS.lt (hc 75 rfl)) rfl (hS.mem _ (hc 75 rfl)) ciX12 (by decide) rfl flX12_130 ?_
  refine ev_icmp_ge 129 dX12_cutAll_75 (by decide) (fun h47 => ?_) (fun h47 => ?_)
  · rw [if_neg h47] at hf
    obtain rfl := Option.some.inj hf
    refine ev_sub [0, 1, 2, 3, 4] rfl ?_
    exact hr
  · rw [if_pos h47] at hf
    refine ev_aload_n dX12_cutAll_78 0 rfl ?_
    refine ev_getK 1 dX12_cutAll_79 (hS.lt (hc 75 rfl)) rfl (hS.K1 (hc 75 rfl) rfl) ciX12 (by decide) rfl flX12_14 ?_
    refine ev_iload_n dX12_cutAll_82 2 rfl ?_
    obtain ⟨g48, hf⟩ := gd_elim hf
    refine ev_iald dX12_cutAll_83 (hS.lt (hc 76 rfl)) rfl (hS.mem _ (hc 76 rfl)) g48 ?_
    obtain ⟨v49, hv49, hf⟩ := lt_elim hf
    refine cl_S1 (As := [vi (μ 76 (w32 v45).toNat)]) (st := []) miX12_isLetter (tX12_isLetter (μ 76 (w32 v45).toNat) (L μ) hv49.symm) dX12_cutAll_84 lkX12_126 stX12_isLetter rfl ⟨⟨Nat.le_of_ble_eq_true rfl, Nat.le_of_ble_eq_true rfl⟩, Nat.zero_le _, Nat.zero_le _⟩ (Nat.le_of_ble_eq_true rfl) ?_
    refine ev_ifb_eq 129 dX12_cutAll_87 (by decide) (fun h50 => ?_) (fun h50 => ?_)
    · rw [if_neg h50] at hf
      obtain rfl := Option.some.inj hf
      refine ev_sub [0, 1, 2, 3, 4] rfl ?_
      exact hr
    · rw [if_pos h50] at hf
      refine ev_iload_n dX12_cutAll_90 2 rfl ?_
      refine ev_iload dX12_cutAll_91 3 rfl ?_
      refine ev_isub dX12_cutAll_93 ?_
      refine ev_bipush dX12_cutAll_94 (by decide) ?_
      refine ev_icmp_ge 119 dX12_cutAll_96 (by decide) (fun h51 => ?_) (fun h51 => ?_)
      · rw [if_neg h51] at hf
        refine ev_lload dX12_cutAll_119 4 rfl ?_
        refine ev_lstore (al2 := [(5, vl v46), (0, vr g 75), (1, vi v3), (2, vi v45), (4, vi v4)]) dX12_cutAll_121 (by decide) rfl ?_
        refine ev_iinc (al2 := [(2, vi (v45 + 1)), (5, vl v46), (0, vr g 75), (1, vi v3), (4, vi v4)]) dX12_cutAll_123 3 rfl (by decide) rfl ?_
        refine ev_goto 70 dX12_cutAll_126 (by decide) ?_
        obtain rfl := Option.some.inj hf
        refine ev_sub [2, 3, 0, 4, 1] rfl ?_
        exact hr
      · rw [if_pos h51] at hf
        refine ev_ldc2 37 dX12_cutAll_99 klX12_133 (by decide) ?_
        refine ev_lload dX12_cutAll_102 4 rfl ?_
        refine ev_lmul dX12_cutAll_104 ?_
        refine ev_aload_n dX12_cutAll_105 0 rfl ?_
        refine ev_getK 1 dX12_cutAll_106 (hS.lt (hc 75 rfl)) rfl (hS.K1 (hc 75 rfl) rfl) ciX12 (by decide) rfl flX12_14 ?_
        refine ev_iload_n dX12_cutAll_109 2 rfl ?_
        obtain ⟨g52, hf⟩ := gd_elim hf
        refine ev_iald dX12_cutAll_110 (hS.lt (hc 76 rfl)) rfl (hS.mem _ (hc 76 rfl)) g52 ?_
        obtain ⟨v53, hv53, hf⟩ := lt_elim hf
        refine cl_S1 (As := [vi (μ 76 (w32 v45).toNat)]) (st := [vl (37 * v46)]) miX12_rank (tX12_rank (μ 76 (w32 v45).toNat) (L μ) hv53.symm) dX12_cutAll_111 lkX12_135 stX12_rank rfl ⟨⟨Nat.le_of_ble_eq_true rfl, Nat.le_of_ble_eq_true rfl⟩, Nat.zero_le _, Nat.zero_le _⟩ (Nat.le_of_ble_eq_true rfl) ?_
        refine ev_i2l dX12_cutAll_114 ?_
        refine ev_ladd dX12_cutAll_115 ?_
        refine ev_goto 121 dX12_cutAll_116 (by decide) ?_
        obtain ⟨v54, hv54, hf⟩ := lt_elim hf
        refine ev_rnl hv54 ?_
        refine ev_lstore (al2 := [(5, vl v54), (0, vr g 75), (1, vi v3), (2, vi v45), (4, vi v4)]) dX12_cutAll_121 (by decide) rfl ?_
        refine ev_iinc (al2 := [(2, vi (v45 + 1)), (5, vl v54), (0, vr g 75), (1, vi v3), (4, vi v4)]) dX12_cutAll_123 3 rfl (by decide) rfl ?_
        refine ev_goto 70 dX12_cutAll_126 (by decide) ?_
        obtain rfl := Option.some.inj hf
        refine ev_sub [2, 3, 0, 4, 1] rfl ?_
        exact hr
def fX12_cutAll_j129 (v56 : Int) (v57 : Int) (v58 : Int) (v59 : Int) (μ : Mem) : Option ((Int × Int × Mem) ⊕ (Int × Mem)) :=
  lt (if w32 (v57 - v58) ≤ w32 8 then
      1
    else
      4) fun v60 =>
  gd (0 ≤ w32 v56 ∧ w32 v56 < 1002) <|
  lt (upd2 μ 77 ((w32 v56).toNat) v60) fun μ63 =>
  fX12_cutAll_j265 v56 v57 v59 μ63
set_option maxRecDepth 4000 in
theorem tX12_cutAll_j129 (hS : Sd M K P L) (hc : CIn P 75 80) (v56 : Int) (v57 : Int) (v58 : Int) (v59 : Int) (μ : Mem)  {o : (Int × Int × Mem) ⊕ (Int × Mem)} (hf : fX12_cutAll_j129 v56 v57 v58 v59 μ = some o) (hr : (Sum.elim (fun s : Int × Int × Mem => Ev l D cy g K yX12_cutAll cX12_cutAll 7 none (rmd 3 0 0) (MX D cy g K (rmd 3 0 0) Φ) 0 0 M x (L s.2.2) 17 [(0, vr g 75), (1, vi s.1), (2, vi s.2.1)] []) (fun e : Int × Mem => Ev l D cy g K yX12_cutAll cX12_cutAll 7 none (rmd 3 0 0) (MX D cy g K (rmd 3 0 0) Φ) 0 0 M x (L e.2) 279 [(0, vr g 75), (1, vi e.1)] [])) o) : Ev l D cy g K yX12_cutAll cX12_cutAll 7 none (rmd 3 0 0) (MX D cy g K (rmd 3 0 0) Φ) 0 0 M x (L μ) 129 [(0, vr g 75), (1, vi v56), (2, vi v57), (4, vi v58), (5, vl v59)] [] := by
  unfold fX12_cutAll_j129 at hf
  refine ev_aload_n dX12_cutAll_129 0 rfl ?_
  refine ev_getK 4 dX12_cutAll_130 (hS.lt (hc 75 rfl)) rfl (hS.K1 (hc 75 rfl) rfl) ciX12 (by decide) rfl flX12_24 ?_
  refine ev_iload_n dX12_cutAll_133 1 rfl ?_
  refine ev_iload_n dX12_cutAll_134 2 rfl ?_
  refine ev_iload dX12_cutAll_135 3 rfl ?_
  refine ev_isub dX12_cutAll_137 ?_
  refine ev_bipush dX12_cutAll_138 (by decide) ?_
  obtain ⟨v60, hv60, hf⟩ := lt_elim hf
  have hJv60 : Ev l D cy g K yX12_cutAll cX12_cutAll 7 none (rmd 3 0 0) (MX D cy g K (rmd 3 0 0) Φ) 0 0 M x (L μ) 148 [(0, vr g 75), (1, vi v56), (2, vi v57), (4, vi v58), (5, vl v59)] [vi v60, vi v56, vr g 77] := by
    obtain ⟨g62, hf⟩ := gd_elim hf
    obtain ⟨μ63, hμ63, hf⟩ := lt_elim hf
    refine ev_iast dX12_cutAll_148 (hS.lt (hc 77 rfl)) rfl g62 (hS.up (hc 77 rfl) hμ63) ?_
    refine ev_goto 265 dX12_cutAll_149 (by decide) ?_
    refine ev_sub [0, 1, 2, 4] rfl ?_
    exact tX12_cutAll_j265 hS hc v56 v57 v59 μ63 hf hr
  refine ev_icmp_le 147 dX12_cutAll_140 (by decide) (fun h61 => ?_) (fun h61 => ?_)
  · refine ev_iconst dX12_cutAll_147 ?_
    have e9 : v60 = 1 := hv60.trans ((if_pos h61))
    subst e9
    exact hJv60
  · refine ev_iconst dX12_cutAll_143 ?_
    refine ev_goto 148 dX12_cutAll_144 (by decide) ?_
    have e9 : v60 = 4 := hv60.trans ((if_neg h61))
    subst e9
    exact hJv60
def fX12_cutAll_b17 (v3 : Int) (v4 : Int) (μ : Mem) : Option ((Int × Int × Mem) ⊕ (Int × Mem)) :=
  if w32 v4 < w32 (μ 75 3) then
    gd (0 ≤ w32 v4 ∧ w32 v4 < 1000) <|
    lt (μ 76 (w32 v4).toNat) fun v7 =>
    if w32 v7 = w32 10 then
      some (.inl (v3, (v4 + 1), μ))
    else
      if w32 v7 = w32 32 then
        some (.inl (v3, (v4 + 1), μ))
      else
        gd (0 ≤ w32 v3 ∧ w32 v3 < 1002) <|
        lt (upd2 μ 78 ((w32 v3).toNat) v4) fun μ11 =>
        if (fX12_isLetter v7) = true then
          (loopN (fun s => fX12_cutAll_b70 v3 v4 s.1 s.2.1 s.2.2) FU (v4, 0, μ11)).bind fun q55 =>
          fX12_cutAll_j129 v3 q55.1 v4 q55.2.1 q55.2.2
        else
          if (fX12_isDigit v7) = true then
            (loopN (fun s => fX12_cutAll_b159 v3 v4 s.1 s.2.1 s.2.2) FU (v4, 0, μ11)).bind fun q33 =>
            fX12_cutAll_j218 v3 q33.1 v4 q33.2.1 q33.2.2
          else
            lt (w32 v7) fun v14 =>
            lt (if (fX12_isSignOf v7) = true then
                3
              else
                4) fun v15 =>
            gd (0 ≤ w32 v3 ∧ w32 v3 < 1002) <|
            lt (upd2 μ11 77 ((w32 v3).toNat) v15) fun μ18 =>
            fX12_cutAll_j265 v3 (v4 + 1) v14 μ18
  else
    some (.inr (v3, μ))
set_option maxRecDepth 4000 in
theorem tX12_cutAll_b17 (hS : Sd M K P L) (hc : CIn P 75 80) (v3 : Int) (v4 : Int) (μ : Mem)  {o : (Int × Int × Mem) ⊕ (Int × Mem)} (hf : fX12_cutAll_b17 v3 v4 μ = some o) (hr : (Sum.elim (fun s : Int × Int × Mem => Ev l D cy g K yX12_cutAll cX12_cutAll 7 none (rmd 3 0 0) (MX D cy g K (rmd 3 0 0) Φ) 0 0 M x (L s.2.2) 17 [(0, vr g 75), (1, vi s.1), (2, vi s.2.1)] []) (fun e : Int × Mem => Ev l D cy g K yX12_cutAll cX12_cutAll 7 none (rmd 3 0 0) (MX D cy g K (rmd 3 0 0) Φ) 0 0 M x (L e.2) 279 [(0, vr g 75), (1, vi e.1)] [])) o) : Ev l D cy g K yX12_cutAll cX12_cutAll 7 none (rmd 3 0 0) (MX D cy g K (rmd 3 0 0) Φ) 0 0 M x (L μ) 17 [(0, vr g 75), (1, vi v3), (2, vi v4)] [] := by
  unfold fX12_cutAll_b17 at hf
  refine ev_iload_n dX12_cutAll_17 2 rfl ?_
  refine ev_aload_n dX12_cutAll_18 0 rfl ?_
  refine ev_getI 3 dX12_cutAll_19 (hS.lt (hc 75 rfl)) rfl (hS.mem _ (hc 75 rfl)) ciX12 (by decide) rfl flX12_130 ?_
  refine ev_icmp_ge 279 dX12_cutAll_22 (by decide) (fun h5 => ?_) (fun h5 => ?_)
  · rw [if_neg h5] at hf
    obtain rfl := Option.some.inj hf
    refine ev_sub [0, 1] rfl ?_
    exact hr
  · rw [if_pos h5] at hf
    refine ev_aload_n dX12_cutAll_25 0 rfl ?_
    refine ev_getK 1 dX12_cutAll_26 (hS.lt (hc 75 rfl)) rfl (hS.K1 (hc 75 rfl) rfl) ciX12 (by decide) rfl flX12_14 ?_
    refine ev_iload_n dX12_cutAll_29 2 rfl ?_
    obtain ⟨g6, hf⟩ := gd_elim hf
    refine ev_iald dX12_cutAll_30 (hS.lt (hc 76 rfl)) rfl (hS.mem _ (hc 76 rfl)) g6 ?_
    obtain ⟨v7, hv7, hf⟩ := lt_elim hf
    refine ev_rni hv7 ?_
    refine ev_istore_n (al2 := [(3, vi v7), (0, vr g 75), (1, vi v3), (2, vi v4)]) dX12_cutAll_31 3 rfl (by decide) rfl ?_
    refine ev_iload_n dX12_cutAll_32 0 rfl ?_
    refine ev_bipush dX12_cutAll_33 (by decide) ?_
    refine ev_icmp_eq 44 dX12_cutAll_35 (by decide) (fun h8 => ?_) (fun h8 => ?_)
    · rw [if_pos h8] at hf
      refine ev_iinc (al2 := [(2, vi (v4 + 1)), (3, vi v7), (0, vr g 75), (1, vi v3)]) dX12_cutAll_44 3 rfl (by decide) rfl ?_
      refine ev_goto 17 dX12_cutAll_47 (by decide) ?_
      obtain rfl := Option.some.inj hf
      refine ev_sub [2, 3, 0] rfl ?_
      exact hr
    · rw [if_neg h8] at hf
      refine ev_iload_n dX12_cutAll_38 0 rfl ?_
      refine ev_bipush dX12_cutAll_39 (by decide) ?_
      refine ev_icmp_ne 50 dX12_cutAll_41 (by decide) (fun h9 => ?_) (fun h9 => ?_)
      · rw [if_neg h9] at hf
        refine ev_iload_n dX12_cutAll_50 3 rfl ?_
        refine ev_istore (al2 := [(4, vi v4), (3, vi v7), (0, vr g 75), (1, vi v3), (2, vi v4)]) dX12_cutAll_51 (by decide) rfl ?_
        refine ev_lconst 0 dX12_cutAll_53 rfl ?_
        refine ev_lstore (al2 := [(5, vl 0), (4, vi v4), (3, vi v7), (0, vr g 75), (1, vi v3), (2, vi v4)]) dX12_cutAll_54 (by decide) rfl ?_
        refine ev_aload_n dX12_cutAll_56 3 rfl ?_
        refine ev_getK 5 dX12_cutAll_57 (hS.lt (hc 75 rfl)) rfl (hS.K1 (hc 75 rfl) rfl) ciX12 (by decide) rfl flX12_27 ?_
        refine ev_iload_n dX12_cutAll_60 4 rfl ?_
        refine ev_iload_n dX12_cutAll_61 5 rfl ?_
        obtain ⟨g10, hf⟩ := gd_elim hf
        obtain ⟨μ11, hμ11, hf⟩ := lt_elim hf
        refine ev_iast dX12_cutAll_62 (hS.lt (hc 78 rfl)) rfl g10 (hS.up (hc 78 rfl) hμ11) ?_
        refine ev_iload_n dX12_cutAll_63 2 rfl ?_
        refine cl_S1 (As := [vi v7]) (st := []) miX12_isLetter (tX12_isLetter v7 (L μ11) (o := (fX12_isLetter v7)) rfl) dX12_cutAll_64 lkX12_126 stX12_isLetter rfl ⟨⟨Nat.le_of_ble_eq_true rfl, Nat.le_of_ble_eq_true rfl⟩, Nat.zero_le _, Nat.zero_le _⟩ (Nat.le_of_ble_eq_true rfl) ?_
        refine ev_ifb_eq 152 dX12_cutAll_67 (by decide) (fun h12 => ?_) (fun h12 => ?_)
        · rw [if_neg h12] at hf
          refine ev_iload_n dX12_cutAll_152 2 rfl ?_
          refine cl_S1 (As := [vi v7]) (st := []) miX12_isDigit (tX12_isDigit v7 (L μ11) (o := (fX12_isDigit v7)) rfl) dX12_cutAll_153 lkX12_139 stX12_isDigit rfl ⟨⟨Nat.le_of_ble_eq_true rfl, Nat.le_of_ble_eq_true rfl⟩, Nat.zero_le _, Nat.zero_le _⟩ (Nat.le_of_ble_eq_true rfl) ?_
          refine ev_ifb_eq 240 dX12_cutAll_156 (by decide) (fun h13 => ?_) (fun h13 => ?_)
          · rw [if_neg h13] at hf
            refine ev_iload_n dX12_cutAll_240 2 rfl ?_
            refine ev_i2l dX12_cutAll_241 ?_
            obtain ⟨v14, hv14, hf⟩ := lt_elim hf
            refine ev_rnl hv14 ?_
            refine ev_lstore (al2 := [(5, vl v14), (4, vi v4), (3, vi v7), (0, vr g 75), (1, vi v3), (2, vi v4)]) dX12_cutAll_242 (by decide) rfl ?_
            refine ev_aload_n dX12_cutAll_244 3 rfl ?_
            refine ev_getK 4 dX12_cutAll_245 (hS.lt (hc 75 rfl)) rfl (hS.K1 (hc 75 rfl) rfl) ciX12 (by decide) rfl flX12_24 ?_
            refine ev_iload_n dX12_cutAll_248 4 rfl ?_
            refine ev_iload_n dX12_cutAll_249 2 rfl ?_
            refine cl_S1 (As := [vi v7]) (st := [vi v3, vr g 77]) miX12_isSignOf (tX12_isSignOf v7 (L μ11) (o := (fX12_isSignOf v7)) rfl) dX12_cutAll_250 lkX12_146 stX12_isSignOf rfl ⟨⟨Nat.le_of_ble_eq_true rfl, Nat.le_of_ble_eq_true rfl⟩, Nat.zero_le _, Nat.zero_le _⟩ (Nat.le_of_ble_eq_true rfl) ?_
            obtain ⟨v15, hv15, hf⟩ := lt_elim hf
            have hJv15 : Ev l D cy g K yX12_cutAll cX12_cutAll 7 none (rmd 3 0 0) (MX D cy g K (rmd 3 0 0) Φ) 0 0 M x (L μ11) 261 [(5, vl v14), (4, vi v4), (3, vi v7), (0, vr g 75), (1, vi v3), (2, vi v4)] [vi v15, vi v3, vr g 77] := by
              obtain ⟨g17, hf⟩ := gd_elim hf
              obtain ⟨μ18, hμ18, hf⟩ := lt_elim hf
              refine ev_iast dX12_cutAll_261 (hS.lt (hc 77 rfl)) rfl g17 (hS.up (hc 77 rfl) hμ18) ?_
              refine ev_iinc (al2 := [(2, vi (v4 + 1)), (5, vl v14), (4, vi v4), (3, vi v7), (0, vr g 75), (1, vi v3)]) dX12_cutAll_262 5 rfl (by decide) rfl ?_
              refine ev_sub [4, 5, 0, 1] rfl ?_
              exact tX12_cutAll_j265 hS hc v3 (v4 + 1) v14 μ18 hf hr
            refine ev_ifb_eq 260 dX12_cutAll_253 (by decide) (fun h16 => ?_) (fun h16 => ?_)
            · refine ev_iconst dX12_cutAll_260 ?_
              have e9 : v15 = 4 := hv15.trans ((if_neg h16))
              subst e9
              exact hJv15
            · refine ev_iconst dX12_cutAll_256 ?_
              refine ev_goto 261 dX12_cutAll_257 (by decide) ?_
              have e9 : v15 = 3 := hv15.trans ((if_pos h16))
              subst e9
              exact hJv15
          · rw [if_pos h13] at hf
            obtain ⟨q33, hq33, hf⟩ := Option.bind_eq_some_iff.mp hf
            refine ev_sub [3, 4, 5, 1, 0] rfl ?_
            refine loop_ev (H := (fun s : Int × Int × Mem => Ev l D cy g K yX12_cutAll cX12_cutAll 7 none (rmd 3 0 0) (MX D cy g K (rmd 3 0 0) Φ) 0 0 M x (L s.2.2) 159 [(0, vr g 75), (1, vi v3), (2, vi s.1), (4, vi v4), (5, vl s.2.1)] [])) (Hx := (fun e : Int × Int × Mem => Ev l D cy g K yX12_cutAll cX12_cutAll 7 none (rmd 3 0 0) (MX D cy g K (rmd 3 0 0) Φ) 0 0 M x (L e.2.2) 218 [(0, vr g 75), (1, vi v3), (2, vi e.1), (4, vi v4), (5, vl e.2.1)] [])) (fun s o hb hr => tX12_cutAll_b159 hS hc v3 v4 s.1 s.2.1 s.2.2 hb hr) FU _ _ hq33 ?_
            show Ev l D cy g K yX12_cutAll cX12_cutAll 7 none (rmd 3 0 0) (MX D cy g K (rmd 3 0 0) Φ) 0 0 M x (L q33.2.2) 218 [(0, vr g 75), (1, vi v3), (2, vi q33.1), (4, vi v4), (5, vl q33.2.1)] []
            refine ev_sub [0, 1, 2, 3, 4] rfl ?_
            exact tX12_cutAll_j218 hS hc v3 q33.1 v4 q33.2.1 q33.2.2 hf hr
        · rw [if_pos h12] at hf
          obtain ⟨q55, hq55, hf⟩ := Option.bind_eq_some_iff.mp hf
          refine ev_sub [3, 4, 5, 1, 0] rfl ?_
          refine loop_ev (H := (fun s : Int × Int × Mem => Ev l D cy g K yX12_cutAll cX12_cutAll 7 none (rmd 3 0 0) (MX D cy g K (rmd 3 0 0) Φ) 0 0 M x (L s.2.2) 70 [(0, vr g 75), (1, vi v3), (2, vi s.1), (4, vi v4), (5, vl s.2.1)] [])) (Hx := (fun e : Int × Int × Mem => Ev l D cy g K yX12_cutAll cX12_cutAll 7 none (rmd 3 0 0) (MX D cy g K (rmd 3 0 0) Φ) 0 0 M x (L e.2.2) 129 [(0, vr g 75), (1, vi v3), (2, vi e.1), (4, vi v4), (5, vl e.2.1)] [])) (fun s o hb hr => tX12_cutAll_b70 hS hc v3 v4 s.1 s.2.1 s.2.2 hb hr) FU _ _ hq55 ?_
          show Ev l D cy g K yX12_cutAll cX12_cutAll 7 none (rmd 3 0 0) (MX D cy g K (rmd 3 0 0) Φ) 0 0 M x (L q55.2.2) 129 [(0, vr g 75), (1, vi v3), (2, vi q55.1), (4, vi v4), (5, vl q55.2.1)] []
          refine ev_sub [0, 1, 2, 3, 4] rfl ?_
          exact tX12_cutAll_j129 hS hc v3 q55.1 v4 q55.2.1 q55.2.2 hf hr
      · rw [if_pos h9] at hf
        refine ev_iinc (al2 := [(2, vi (v4 + 1)), (3, vi v7), (0, vr g 75), (1, vi v3)]) dX12_cutAll_44 3 rfl (by decide) rfl ?_
        refine ev_goto 17 dX12_cutAll_47 (by decide) ?_
        obtain rfl := Option.some.inj hf
        refine ev_sub [2, 3, 0] rfl ?_
        exact hr
def fX12_cutAll  (μ : Mem) : Option (Mem) :=
  lt (upd2 μ 75 3 (μ 75 2)) fun μ1 =>
  lt (upd2 μ1 75 2 0) fun μ2 =>
  (loopN (fun s => fX12_cutAll_b17 s.1 s.2.1 s.2.2) FU (0, 0, μ2)).bind fun q67 =>
  gd (0 ≤ w32 q67.1 ∧ w32 q67.1 < 1002) <|
  lt (upd2 q67.2 77 ((w32 q67.1).toNat) 0) fun μ69 =>
  gd (0 ≤ w32 q67.1 ∧ w32 q67.1 < 1002) <|
  lt (upd2 μ69 78 ((w32 q67.1).toNat) (μ69 75 3)) fun μ71 =>
  lt (upd2 μ71 75 7 0) fun μ72 =>
  lt (upd2 μ72 75 8 0) fun μ73 =>
  some (μ73)
set_option maxRecDepth 4000 in
theorem eX12_cutAll (hS : Sd M K P L) (hc : CIn P 75 80)  (μ : Mem)  {o : Mem} (hf : fX12_cutAll  μ = some o) (hr : (fun o : Mem => Φ none M x (L o)) o) : Ev l D cy g K yX12_cutAll cX12_cutAll 7 none (rmd 3 0 0) (MX D cy g K (rmd 3 0 0) Φ) 0 0 M x (L μ) 0 [(0, vr g 75)] [] := by
  unfold fX12_cutAll at hf
  refine ev_aload_n dX12_cutAll_0 0 rfl ?_
  refine ev_aload_n dX12_cutAll_1 0 rfl ?_
  refine ev_getI 2 dX12_cutAll_2 (hS.lt (hc 75 rfl)) rfl (hS.mem _ (hc 75 rfl)) ciX12 (by decide) rfl flX12_11 ?_
  obtain ⟨μ1, hμ1, hf⟩ := lt_elim hf
  refine ev_putI 3 dX12_cutAll_5 (hS.lt (hc 75 rfl)) rfl ciX12 (by decide) (Or.inl rfl) rfl rfl flX12_130 (hS.up (hc 75 rfl) hμ1) ?_
  refine ev_aload_n dX12_cutAll_8 0 rfl ?_
  refine ev_iconst dX12_cutAll_9 ?_
  obtain ⟨μ2, hμ2, hf⟩ := lt_elim hf
  refine ev_putI 2 dX12_cutAll_10 (hS.lt (hc 75 rfl)) rfl ciX12 (by decide) (Or.inl rfl) rfl rfl flX12_11 (hS.up (hc 75 rfl) hμ2) ?_
  refine ev_iconst dX12_cutAll_13 ?_
  refine ev_istore_n (al2 := [(1, vi 0), (0, vr g 75)]) dX12_cutAll_14 1 rfl (by decide) rfl ?_
  refine ev_iconst dX12_cutAll_15 ?_
  refine ev_istore_n (al2 := [(2, vi 0), (1, vi 0), (0, vr g 75)]) dX12_cutAll_16 2 rfl (by decide) rfl ?_
  obtain ⟨q67, hq67, hf⟩ := Option.bind_eq_some_iff.mp hf
  refine ev_sub [2, 1, 0] rfl ?_
  refine loop_ev (H := (fun s : Int × Int × Mem => Ev l D cy g K yX12_cutAll cX12_cutAll 7 none (rmd 3 0 0) (MX D cy g K (rmd 3 0 0) Φ) 0 0 M x (L s.2.2) 17 [(0, vr g 75), (1, vi s.1), (2, vi s.2.1)] [])) (Hx := (fun e : Int × Mem => Ev l D cy g K yX12_cutAll cX12_cutAll 7 none (rmd 3 0 0) (MX D cy g K (rmd 3 0 0) Φ) 0 0 M x (L e.2) 279 [(0, vr g 75), (1, vi e.1)] [])) (fun s o hb hr => tX12_cutAll_b17 hS hc s.1 s.2.1 s.2.2 hb hr) FU _ _ hq67 ?_
  show Ev l D cy g K yX12_cutAll cX12_cutAll 7 none (rmd 3 0 0) (MX D cy g K (rmd 3 0 0) Φ) 0 0 M x (L q67.2) 279 [(0, vr g 75), (1, vi q67.1)] []
  refine ev_aload_n dX12_cutAll_279 0 rfl ?_
  refine ev_getK 4 dX12_cutAll_280 (hS.lt (hc 75 rfl)) rfl (hS.K1 (hc 75 rfl) rfl) ciX12 (by decide) rfl flX12_24 ?_
  refine ev_iload_n dX12_cutAll_283 1 rfl ?_
  refine ev_iconst dX12_cutAll_284 ?_
  obtain ⟨g68, hf⟩ := gd_elim hf
  obtain ⟨μ69, hμ69, hf⟩ := lt_elim hf
  refine ev_iast dX12_cutAll_285 (hS.lt (hc 77 rfl)) rfl g68 (hS.up (hc 77 rfl) hμ69) ?_
  refine ev_aload_n dX12_cutAll_286 0 rfl ?_
  refine ev_getK 5 dX12_cutAll_287 (hS.lt (hc 75 rfl)) rfl (hS.K1 (hc 75 rfl) rfl) ciX12 (by decide) rfl flX12_27 ?_
  refine ev_iload_n dX12_cutAll_290 1 rfl ?_
  refine ev_aload_n dX12_cutAll_291 0 rfl ?_
  refine ev_getI 3 dX12_cutAll_292 (hS.lt (hc 75 rfl)) rfl (hS.mem _ (hc 75 rfl)) ciX12 (by decide) rfl flX12_130 ?_
  obtain ⟨g70, hf⟩ := gd_elim hf
  obtain ⟨μ71, hμ71, hf⟩ := lt_elim hf
  refine ev_iast dX12_cutAll_295 (hS.lt (hc 78 rfl)) rfl g70 (hS.up (hc 78 rfl) hμ71) ?_
  refine ev_aload_n dX12_cutAll_296 0 rfl ?_
  refine ev_iconst dX12_cutAll_297 ?_
  obtain ⟨μ72, hμ72, hf⟩ := lt_elim hf
  refine ev_putI 7 dX12_cutAll_298 (hS.lt (hc 75 rfl)) rfl ciX12 (by decide) (Or.inl rfl) rfl rfl flX12_149 (hS.up (hc 75 rfl) hμ72) ?_
  refine ev_aload_n dX12_cutAll_301 0 rfl ?_
  refine ev_iconst dX12_cutAll_302 ?_
  obtain ⟨μ73, hμ73, hf⟩ := lt_elim hf
  refine ev_putI 8 dX12_cutAll_303 (hS.lt (hc 75 rfl)) rfl ciX12 (by decide) (Or.inl rfl) rfl rfl flX12_152 (hS.up (hc 75 rfl) hμ73) ?_
  obtain rfl := Option.some.inj hf
  exact ev_vret dX12_cutAll_306 rfl ⟨Nat.zero_le _, Nat.zero_le _⟩ hr
theorem tX12_cutAll (hS : Sd M K P L) (hc : CIn P 75 80) (μ : Mem) {o : Mem} (hf : fX12_cutAll μ = some o) : Cn l D cy g K K yX12_cutAll cX12_cutAll 7 none (rmd 3 0 0) [vr g 75] M x (L μ) (PE none M x (L o)) :=
 Cn.of (by decide) (Nat.le_of_ble_eq_true rfl) (eX12_cutAll hS hc μ hf (PE_i _ _ _ _))
def fX12_wrong (what : Int) (μ : Mem) : Option (Mem) :=
  if w32 (μ 75 8) = 0 then
    gd (0 ≤ w32 (μ 75 7) ∧ w32 (μ 75 7) < 1002) <|
    lt (upd2 μ 75 8 (what + (16 * (μ 78 (w32 (μ 75 7)).toNat)))) fun μ3 =>
    some (μ3)
  else
    some (μ)
set_option maxRecDepth 4000 in
theorem eX12_wrong (hS : Sd M K P L) (hc : CIn P 75 79) (what : Int) (μ : Mem)  {o : Mem} (hf : fX12_wrong what μ = some o) (hr : (fun o : Mem => Φ none M x (L o)) o) : Ev l D cy g K yX12_wrong cX12_wrong 2 none (rmd 1 0 0) (MX D cy g K (rmd 1 0 0) Φ) 0 0 M x (L μ) 0 [(0, vr g 75), (1, vi what)] [] := by
  unfold fX12_wrong at hf
  refine ev_aload_n dX12_wrong_0 0 rfl ?_
  refine ev_getI 8 dX12_wrong_1 (hS.lt (hc 75 rfl)) rfl (hS.mem _ (hc 75 rfl)) ciX12 (by decide) rfl flX12_152 ?_
  refine ev_if_ne 25 dX12_wrong_4 (by decide) (fun h1 => ?_) (fun h1 => ?_)
  · rw [if_neg h1] at hf
    obtain rfl := Option.some.inj hf
    exact ev_vret dX12_wrong_25 rfl ⟨Nat.zero_le _, Nat.zero_le _⟩ hr
  · rw [if_pos h1] at hf
    refine ev_aload_n dX12_wrong_7 0 rfl ?_
    refine ev_iload_n dX12_wrong_8 1 rfl ?_
    refine ev_bipush dX12_wrong_9 (by decide) ?_
    refine ev_aload_n dX12_wrong_11 0 rfl ?_
    refine ev_getK 5 dX12_wrong_12 (hS.lt (hc 75 rfl)) rfl (hS.K1 (hc 75 rfl) rfl) ciX12 (by decide) rfl flX12_27 ?_
    refine ev_aload_n dX12_wrong_15 0 rfl ?_
    refine ev_getI 7 dX12_wrong_16 (hS.lt (hc 75 rfl)) rfl (hS.mem _ (hc 75 rfl)) ciX12 (by decide) rfl flX12_149 ?_
    obtain ⟨g2, hf⟩ := gd_elim hf
    refine ev_iald dX12_wrong_19 (hS.lt (hc 78 rfl)) rfl (hS.mem _ (hc 78 rfl)) g2 ?_
    refine ev_imul dX12_wrong_20 ?_
    refine ev_iadd dX12_wrong_21 ?_
    obtain ⟨μ3, hμ3, hf⟩ := lt_elim hf
    refine ev_putI 8 dX12_wrong_22 (hS.lt (hc 75 rfl)) rfl ciX12 (by decide) (Or.inl rfl) rfl rfl flX12_152 (hS.up (hc 75 rfl) hμ3) ?_
    obtain rfl := Option.some.inj hf
    exact ev_vret dX12_wrong_25 rfl ⟨Nat.zero_le _, Nat.zero_le _⟩ hr
theorem tX12_wrong (hS : Sd M K P L) (hc : CIn P 75 79) (what : Int) (μ : Mem) {o : Mem} (hf : fX12_wrong what μ = some o) : Cn l D cy g K K yX12_wrong cX12_wrong 2 none (rmd 1 0 0) [vr g 75, vi what] M x (L μ) (PE none M x (L o)) :=
 Cn.of (by decide) (Nat.le_of_ble_eq_true rfl) (eX12_wrong hS hc what μ hf (PE_i _ _ _ _))
def fX12_isSign (c0 : Int) (μ : Mem) : Option (Bool) :=
  if w32 (μ 75 8) = 0 then
    gd (0 ≤ w32 (μ 75 7) ∧ w32 (μ 75 7) < 1002) <|
    if w32 (μ 77 (w32 (μ 75 7)).toNat) = w32 3 then
      gd (0 ≤ w32 (μ 75 7) ∧ w32 (μ 75 7) < 1002) <|
      lt (if w64 (μ 79 (w32 (μ 75 7)).toNat) = w64 (w32 c0) then
          true
        else
          false) fun v5 =>
      some (v5)
    else
      some (false)
  else
    some (false)
set_option maxRecDepth 4000 in
theorem eX12_isSign (hS : Sd M K P L) (hc : CIn P 75 80) (c0 : Int) (μ : Mem)  {o : Bool} (hf : fX12_isSign c0 μ = some o) (hr : (fun o : Bool => Φ (some (vb o)) M x (L μ)) o) : Ev l D cy g K yX12_isSign cX12_isSign 2 (some .boolean) (rmd 1 0 0) (MX D cy g K (rmd 1 0 0) Φ) 0 0 M x (L μ) 0 [(0, vr g 75), (1, vi c0)] [] := by
  unfold fX12_isSign at hf
  refine ev_aload_n dX12_isSign_0 0 rfl ?_
  refine ev_getI 8 dX12_isSign_1 (hS.lt (hc 75 rfl)) rfl (hS.mem _ (hc 75 rfl)) ciX12 (by decide) rfl flX12_152 ?_
  refine ev_if_ne 39 dX12_isSign_4 (by decide) (fun h1 => ?_) (fun h1 => ?_)
  · rw [if_neg h1] at hf
    refine ev_iconst dX12_isSign_39 ?_
    obtain rfl := Option.some.inj hf
    exact ev_bret (b := false) dX12_isSign_40 rfl ⟨Nat.zero_le _, Nat.zero_le _⟩ hr
  · rw [if_pos h1] at hf
    refine ev_aload_n dX12_isSign_7 0 rfl ?_
    refine ev_getK 4 dX12_isSign_8 (hS.lt (hc 75 rfl)) rfl (hS.K1 (hc 75 rfl) rfl) ciX12 (by decide) rfl flX12_24 ?_
    refine ev_aload_n dX12_isSign_11 0 rfl ?_
    refine ev_getI 7 dX12_isSign_12 (hS.lt (hc 75 rfl)) rfl (hS.mem _ (hc 75 rfl)) ciX12 (by decide) rfl flX12_149 ?_
    obtain ⟨g2, hf⟩ := gd_elim hf
    refine ev_iald dX12_isSign_15 (hS.lt (hc 77 rfl)) rfl (hS.mem _ (hc 77 rfl)) g2 ?_
    refine ev_iconst dX12_isSign_16 ?_
    refine ev_icmp_ne 39 dX12_isSign_17 (by decide) (fun h3 => ?_) (fun h3 => ?_)
    · rw [if_neg h3] at hf
      refine ev_iconst dX12_isSign_39 ?_
      obtain rfl := Option.some.inj hf
      exact ev_bret (b := false) dX12_isSign_40 rfl ⟨Nat.zero_le _, Nat.zero_le _⟩ hr
    · rw [if_pos h3] at hf
      refine ev_aload_n dX12_isSign_20 0 rfl ?_
      refine ev_getK 6 dX12_isSign_21 (hS.lt (hc 75 rfl)) rfl (hS.K1 (hc 75 rfl) rfl) ciX12 (by decide) rfl flX12_30 ?_
      refine ev_aload_n dX12_isSign_24 0 rfl ?_
      refine ev_getI 7 dX12_isSign_25 (hS.lt (hc 75 rfl)) rfl (hS.mem _ (hc 75 rfl)) ciX12 (by decide) rfl flX12_149 ?_
      obtain ⟨g4, hf⟩ := gd_elim hf
      refine ev_lald dX12_isSign_28 (hS.lt (hc 79 rfl)) rfl (hS.mem _ (hc 79 rfl)) g4 ?_
      refine ev_iload_n dX12_isSign_29 1 rfl ?_
      refine ev_i2l dX12_isSign_30 ?_
      obtain ⟨v5, hv5, hf⟩ := lt_elim hf
      have hJv5 : Ev l D cy g K yX12_isSign cX12_isSign 2 (some .boolean) (rmd 1 0 0) (MX D cy g K (rmd 1 0 0) Φ) 0 0 M x (L μ) 40 [(0, vr g 75), (1, vi c0)] [vb v5] := by
        obtain rfl := Option.some.inj hf
        exact ev_bret (b := v5) dX12_isSign_40 rfl ⟨Nat.zero_le _, Nat.zero_le _⟩ hr
      refine ev_lcmp_ne 39 dX12_isSign_31 dX12_isSign_32 (by decide) (fun h6 => ?_) (fun h6 => ?_)
      · refine ev_iconst dX12_isSign_39 ?_
        have e9 : v5 = false := hv5.trans ((if_neg h6))
        subst e9
        exact hJv5
      · refine ev_iconst dX12_isSign_35 ?_
        refine ev_goto 40 dX12_isSign_36 (by decide) ?_
        have e9 : v5 = true := hv5.trans ((if_pos h6))
        subst e9
        exact hJv5
theorem tX12_isSign (hS : Sd M K P L) (hc : CIn P 75 80) (c0 : Int) (μ : Mem) {o : Bool} (hf : fX12_isSign c0 μ = some o) : Cn l D cy g K K yX12_isSign cX12_isSign 2 (some .boolean) (rmd 1 0 0) [vr g 75, vi c0] M x (L μ) (PE (some (vb o)) M x (L μ)) :=
 Cn.of (by decide) (Nat.le_of_ble_eq_true rfl) (eX12_isSign hS hc c0 μ hf (PE_i _ _ _ _))
def fX12_isWord (w0 : Int) (μ : Mem) : Option (Bool) :=
  if w32 (μ 75 8) = 0 then
    gd (0 ≤ w32 (μ 75 7) ∧ w32 (μ 75 7) < 1002) <|
    if w32 (μ 77 (w32 (μ 75 7)).toNat) = w32 1 then
      gd (0 ≤ w32 (μ 75 7) ∧ w32 (μ 75 7) < 1002) <|
      gd (0 ≤ w32 w0 ∧ w32 w0 < 18) <|
      lt (if w64 (μ 79 (w32 (μ 75 7)).toNat) = w64 (μ 80 (w32 w0).toNat) then
          true
        else
          false) fun v6 =>
      some (v6)
    else
      some (false)
  else
    some (false)
set_option maxRecDepth 4000 in
theorem eX12_isWord (hS : Sd M K P L) (hc : CIn P 75 81) (w0 : Int) (μ : Mem)  {o : Bool} (hf : fX12_isWord w0 μ = some o) (hr : (fun o : Bool => Φ (some (vb o)) M x (L μ)) o) : Ev l D cy g K yX12_isWord cX12_isWord 2 (some .boolean) (rmd 1 0 0) (MX D cy g K (rmd 1 0 0) Φ) 0 0 M x (L μ) 0 [(0, vr g 75), (1, vi w0)] [] := by
  unfold fX12_isWord at hf
  refine ev_aload_n dX12_isWord_0 0 rfl ?_
  refine ev_getI 8 dX12_isWord_1 (hS.lt (hc 75 rfl)) rfl (hS.mem _ (hc 75 rfl)) ciX12 (by decide) rfl flX12_152 ?_
  refine ev_if_ne 43 dX12_isWord_4 (by decide) (fun h1 => ?_) (fun h1 => ?_)
  · rw [if_neg h1] at hf
    refine ev_iconst dX12_isWord_43 ?_
    obtain rfl := Option.some.inj hf
    exact ev_bret (b := false) dX12_isWord_44 rfl ⟨Nat.zero_le _, Nat.zero_le _⟩ hr
  · rw [if_pos h1] at hf
    refine ev_aload_n dX12_isWord_7 0 rfl ?_
    refine ev_getK 4 dX12_isWord_8 (hS.lt (hc 75 rfl)) rfl (hS.K1 (hc 75 rfl) rfl) ciX12 (by decide) rfl flX12_24 ?_
    refine ev_aload_n dX12_isWord_11 0 rfl ?_
    refine ev_getI 7 dX12_isWord_12 (hS.lt (hc 75 rfl)) rfl (hS.mem _ (hc 75 rfl)) ciX12 (by decide) rfl flX12_149 ?_
    obtain ⟨g2, hf⟩ := gd_elim hf
    refine ev_iald dX12_isWord_15 (hS.lt (hc 77 rfl)) rfl (hS.mem _ (hc 77 rfl)) g2 ?_
    refine ev_iconst dX12_isWord_16 ?_
    refine ev_icmp_ne 43 dX12_isWord_17 (by decide) (fun h3 => ?_) (fun h3 => ?_)
    · rw [if_neg h3] at hf
      refine ev_iconst dX12_isWord_43 ?_
      obtain rfl := Option.some.inj hf
      exact ev_bret (b := false) dX12_isWord_44 rfl ⟨Nat.zero_le _, Nat.zero_le _⟩ hr
    · rw [if_pos h3] at hf
      refine ev_aload_n dX12_isWord_20 0 rfl ?_
      refine ev_getK 6 dX12_isWord_21 (hS.lt (hc 75 rfl)) rfl (hS.K1 (hc 75 rfl) rfl) ciX12 (by decide) rfl flX12_30 ?_
      refine ev_aload_n dX12_isWord_24 0 rfl ?_
      refine ev_getI 7 dX12_isWord_25 (hS.lt (hc 75 rfl)) rfl (hS.mem _ (hc 75 rfl)) ciX12 (by decide) rfl flX12_149 ?_
      obtain ⟨g4, hf⟩ := gd_elim hf
      refine ev_lald dX12_isWord_28 (hS.lt (hc 79 rfl)) rfl (hS.mem _ (hc 79 rfl)) g4 ?_
      refine ev_aload_n dX12_isWord_29 0 rfl ?_
      refine ev_getK 9 dX12_isWord_30 (hS.lt (hc 75 rfl)) rfl (hS.K1 (hc 75 rfl) rfl) ciX12 (by decide) rfl flX12_70 ?_
      refine ev_iload_n dX12_isWord_33 1 rfl ?_
      obtain ⟨g5, hf⟩ := gd_elim hf
      refine ev_lald dX12_isWord_34 (hS.lt (hc 80 rfl)) rfl (hS.mem _ (hc 80 rfl)) g5 ?_
      obtain ⟨v6, hv6, hf⟩ := lt_elim hf
      have hJv6 : Ev l D cy g K yX12_isWord cX12_isWord 2 (some .boolean) (rmd 1 0 0) (MX D cy g K (rmd 1 0 0) Φ) 0 0 M x (L μ) 44 [(0, vr g 75), (1, vi w0)] [vb v6] := by
        obtain rfl := Option.some.inj hf
        exact ev_bret (b := v6) dX12_isWord_44 rfl ⟨Nat.zero_le _, Nat.zero_le _⟩ hr
      refine ev_lcmp_ne 43 dX12_isWord_35 dX12_isWord_36 (by decide) (fun h7 => ?_) (fun h7 => ?_)
      · refine ev_iconst dX12_isWord_43 ?_
        have e9 : v6 = false := hv6.trans ((if_neg h7))
        subst e9
        exact hJv6
      · refine ev_iconst dX12_isWord_39 ?_
        refine ev_goto 44 dX12_isWord_40 (by decide) ?_
        have e9 : v6 = true := hv6.trans ((if_pos h7))
        subst e9
        exact hJv6
theorem tX12_isWord (hS : Sd M K P L) (hc : CIn P 75 81) (w0 : Int) (μ : Mem) {o : Bool} (hf : fX12_isWord w0 μ = some o) : Cn l D cy g K K yX12_isWord cX12_isWord 2 (some .boolean) (rmd 1 0 0) [vr g 75, vi w0] M x (L μ) (PE (some (vb o)) M x (L μ)) :=
 Cn.of (by decide) (Nat.le_of_ble_eq_true rfl) (eX12_isWord hS hc w0 μ hf (PE_i _ _ _ _))
def fX12_takeSign (c0 : Int) (μ : Mem) : Option (Mem) :=
  (fX12_isSign c0 μ).bind fun v1 =>
  if v1 = true then
    lt (upd2 μ 75 7 ((μ 75 7) + 1)) fun μ4 =>
    some (μ4)
  else
    (fX12_wrong 1 μ).bind fun μ3 =>
    some (μ3)
set_option maxRecDepth 4000 in
theorem eX12_takeSign (hS : Sd M K P L) (hc : CIn P 75 80) (c0 : Int) (μ : Mem)  {o : Mem} (hf : fX12_takeSign c0 μ = some o) (hr : (fun o : Mem => Φ none M x (L o)) o) : Ev l D cy g K yX12_takeSign cX12_takeSign 2 none (rmd 2 0 0) (MX D cy g K (rmd 2 0 0) Φ) 0 0 M x (L μ) 0 [(0, vr g 75), (1, vi c0)] [] := by
  unfold fX12_takeSign at hf
  refine ev_aload_n dX12_takeSign_0 0 rfl ?_
  refine ev_iload_n dX12_takeSign_1 1 rfl ?_
  obtain ⟨v1, hv1, hf⟩ := Option.bind_eq_some_iff.mp hf
  refine cl_V1 (As := [vi c0]) (st := []) miX12_isSign (tX12_isSign hS (hc.w rfl rfl) c0 μ hv1) dX12_takeSign_2 lkX12_155 inX12_isSign rfl (hS.lt (hc 75 rfl)) rfl ⟨rfl, rfl⟩ ⟨⟨Nat.le_of_ble_eq_true rfl, Nat.le_of_ble_eq_true rfl⟩, Nat.zero_le _, Nat.zero_le _⟩ (Nat.le_of_ble_eq_true rfl) ?_
  refine ev_ifb_eq 21 dX12_takeSign_5 (by decide) (fun h2 => ?_) (fun h2 => ?_)
  · rw [if_neg h2] at hf
    refine ev_aload_n dX12_takeSign_21 0 rfl ?_
    refine ev_iconst dX12_takeSign_22 ?_
    obtain ⟨μ3, hμ3, hf⟩ := Option.bind_eq_some_iff.mp hf
    refine cl_V0 (As := [vi 1]) (st := []) miX12_wrong (tX12_wrong hS (hc.w rfl rfl) 1 μ hμ3) dX12_takeSign_23 lkX12_158 inX12_wrong rfl (hS.lt (hc 75 rfl)) rfl ⟨rfl, rfl⟩ ⟨⟨Nat.le_of_ble_eq_true rfl, Nat.le_of_ble_eq_true rfl⟩, Nat.zero_le _, Nat.zero_le _⟩ (Nat.le_of_ble_eq_true rfl) ?_
    obtain rfl := Option.some.inj hf
    exact ev_vret dX12_takeSign_26 rfl ⟨Nat.zero_le _, Nat.zero_le _⟩ hr
  · rw [if_pos h2] at hf
    refine ev_aload_n dX12_takeSign_8 0 rfl ?_
    refine ev_dup dX12_takeSign_9 rfl ?_
    refine ev_getI 7 dX12_takeSign_10 (hS.lt (hc 75 rfl)) rfl (hS.mem _ (hc 75 rfl)) ciX12 (by decide) rfl flX12_149 ?_
    refine ev_iconst dX12_takeSign_13 ?_
    refine ev_iadd dX12_takeSign_14 ?_
    obtain ⟨μ4, hμ4, hf⟩ := lt_elim hf
    refine ev_putI 7 dX12_takeSign_15 (hS.lt (hc 75 rfl)) rfl ciX12 (by decide) (Or.inl rfl) rfl rfl flX12_149 (hS.up (hc 75 rfl) hμ4) ?_
    refine ev_goto 26 dX12_takeSign_18 (by decide) ?_
    obtain rfl := Option.some.inj hf
    exact ev_vret dX12_takeSign_26 rfl ⟨Nat.zero_le _, Nat.zero_le _⟩ hr
theorem tX12_takeSign (hS : Sd M K P L) (hc : CIn P 75 80) (c0 : Int) (μ : Mem) {o : Mem} (hf : fX12_takeSign c0 μ = some o) : Cn l D cy g K K yX12_takeSign cX12_takeSign 2 none (rmd 2 0 0) [vr g 75, vi c0] M x (L μ) (PE none M x (L o)) :=
 Cn.of (by decide) (Nat.le_of_ble_eq_true rfl) (eX12_takeSign hS hc c0 μ hf (PE_i _ _ _ _))
def fX12_hasSign (c0 : Int) (μ : Mem) : Option (Bool × Mem) :=
  (fX12_isSign c0 μ).bind fun v1 =>
  lt (if v1 = true then
      1
    else
      0) fun v2 =>
  lt (upd2 μ 75 7 ((μ 75 7) + v2)) fun μ4 =>
  some ((v1, μ4))
set_option maxRecDepth 4000 in
theorem eX12_hasSign (hS : Sd M K P L) (hc : CIn P 75 80) (c0 : Int) (μ : Mem)  {o : Bool × Mem} (hf : fX12_hasSign c0 μ = some o) (hr : (fun o : Bool × Mem => Φ (some (vb o.1)) M x (L o.2)) o) : Ev l D cy g K yX12_hasSign cX12_hasSign 3 (some .boolean) (rmd 2 0 0) (MX D cy g K (rmd 2 0 0) Φ) 0 0 M x (L μ) 0 [(0, vr g 75), (1, vi c0)] [] := by
  unfold fX12_hasSign at hf
  refine ev_aload_n dX12_hasSign_0 0 rfl ?_
  refine ev_iload_n dX12_hasSign_1 1 rfl ?_
  obtain ⟨v1, hv1, hf⟩ := Option.bind_eq_some_iff.mp hf
  refine cl_V1 (As := [vi c0]) (st := []) miX12_isSign (tX12_isSign hS (hc.w rfl rfl) c0 μ hv1) dX12_hasSign_2 lkX12_155 inX12_isSign rfl (hS.lt (hc 75 rfl)) rfl ⟨rfl, rfl⟩ ⟨⟨Nat.le_of_ble_eq_true rfl, Nat.le_of_ble_eq_true rfl⟩, Nat.zero_le _, Nat.zero_le _⟩ (Nat.le_of_ble_eq_true rfl) ?_
  refine ev_istore_n (al2 := [(2, vb v1), (0, vr g 75), (1, vi c0)]) dX12_hasSign_5 2 rfl (by decide) rfl ?_
  refine ev_aload_n dX12_hasSign_6 1 rfl ?_
  refine ev_dup dX12_hasSign_7 rfl ?_
  refine ev_getI 7 dX12_hasSign_8 (hS.lt (hc 75 rfl)) rfl (hS.mem _ (hc 75 rfl)) ciX12 (by decide) rfl flX12_149 ?_
  refine ev_iload_n dX12_hasSign_11 0 rfl ?_
  obtain ⟨v2, hv2, hf⟩ := lt_elim hf
  have hJv2 : Ev l D cy g K yX12_hasSign cX12_hasSign 3 (some .boolean) (rmd 2 0 0) (MX D cy g K (rmd 2 0 0) Φ) 0 0 M x (L μ) 20 [(2, vb v1), (0, vr g 75), (1, vi c0)] [vi v2, vi (μ 75 7), vr g 75] := by
    refine ev_iadd dX12_hasSign_20 ?_
    obtain ⟨μ4, hμ4, hf⟩ := lt_elim hf
    refine ev_putI 7 dX12_hasSign_21 (hS.lt (hc 75 rfl)) rfl ciX12 (by decide) (Or.inl rfl) rfl rfl flX12_149 (hS.up (hc 75 rfl) hμ4) ?_
    refine ev_iload_n dX12_hasSign_24 0 rfl ?_
    obtain rfl := Option.some.inj hf
    exact ev_bret (b := v1) dX12_hasSign_25 rfl ⟨Nat.zero_le _, Nat.zero_le _⟩ hr
  refine ev_ifb_eq 19 dX12_hasSign_12 (by decide) (fun h3 => ?_) (fun h3 => ?_)
  · refine ev_iconst dX12_hasSign_19 ?_
    have e9 : v2 = 0 := hv2.trans ((if_neg h3))
    subst e9
    exact hJv2
  · refine ev_iconst dX12_hasSign_15 ?_
    refine ev_goto 20 dX12_hasSign_16 (by decide) ?_
    have e9 : v2 = 1 := hv2.trans ((if_pos h3))
    subst e9
    exact hJv2
theorem tX12_hasSign (hS : Sd M K P L) (hc : CIn P 75 80) (c0 : Int) (μ : Mem) {o : Bool × Mem} (hf : fX12_hasSign c0 μ = some o) : Cn l D cy g K K yX12_hasSign cX12_hasSign 3 (some .boolean) (rmd 2 0 0) [vr g 75, vi c0] M x (L μ) (PE (some (vb o.1)) M x (L o.2)) :=
 Cn.of (by decide) (Nat.le_of_ble_eq_true rfl) (eX12_hasSign hS hc c0 μ hf (PE_i _ _ _ _))
def fX12_hasWord (w0 : Int) (μ : Mem) : Option (Bool × Mem) :=
  (fX12_isWord w0 μ).bind fun v1 =>
  lt (if v1 = true then
      1
    else
      0) fun v2 =>
  lt (upd2 μ 75 7 ((μ 75 7) + v2)) fun μ4 =>
  some ((v1, μ4))
set_option maxRecDepth 4000 in
theorem eX12_hasWord (hS : Sd M K P L) (hc : CIn P 75 81) (w0 : Int) (μ : Mem)  {o : Bool × Mem} (hf : fX12_hasWord w0 μ = some o) (hr : (fun o : Bool × Mem => Φ (some (vb o.1)) M x (L o.2)) o) : Ev l D cy g K yX12_hasWord cX12_hasWord 3 (some .boolean) (rmd 2 0 0) (MX D cy g K (rmd 2 0 0) Φ) 0 0 M x (L μ) 0 [(0, vr g 75), (1, vi w0)] [] := by
  unfold fX12_hasWord at hf
  refine ev_aload_n dX12_hasWord_0 0 rfl ?_
  refine ev_iload_n dX12_hasWord_1 1 rfl ?_
  obtain ⟨v1, hv1, hf⟩ := Option.bind_eq_some_iff.mp hf
  refine cl_V1 (As := [vi w0]) (st := []) miX12_isWord (tX12_isWord hS (hc.w rfl rfl) w0 μ hv1) dX12_hasWord_2 lkX12_161 inX12_isWord rfl (hS.lt (hc 75 rfl)) rfl ⟨rfl, rfl⟩ ⟨⟨Nat.le_of_ble_eq_true rfl, Nat.le_of_ble_eq_true rfl⟩, Nat.zero_le _, Nat.zero_le _⟩ (Nat.le_of_ble_eq_true rfl) ?_
  refine ev_istore_n (al2 := [(2, vb v1), (0, vr g 75), (1, vi w0)]) dX12_hasWord_5 2 rfl (by decide) rfl ?_
  refine ev_aload_n dX12_hasWord_6 1 rfl ?_
  refine ev_dup dX12_hasWord_7 rfl ?_
  refine ev_getI 7 dX12_hasWord_8 (hS.lt (hc 75 rfl)) rfl (hS.mem _ (hc 75 rfl)) ciX12 (by decide) rfl flX12_149 ?_
  refine ev_iload_n dX12_hasWord_11 0 rfl ?_
  obtain ⟨v2, hv2, hf⟩ := lt_elim hf
  have hJv2 : Ev l D cy g K yX12_hasWord cX12_hasWord 3 (some .boolean) (rmd 2 0 0) (MX D cy g K (rmd 2 0 0) Φ) 0 0 M x (L μ) 20 [(2, vb v1), (0, vr g 75), (1, vi w0)] [vi v2, vi (μ 75 7), vr g 75] := by
    refine ev_iadd dX12_hasWord_20 ?_
    obtain ⟨μ4, hμ4, hf⟩ := lt_elim hf
    refine ev_putI 7 dX12_hasWord_21 (hS.lt (hc 75 rfl)) rfl ciX12 (by decide) (Or.inl rfl) rfl rfl flX12_149 (hS.up (hc 75 rfl) hμ4) ?_
    refine ev_iload_n dX12_hasWord_24 0 rfl ?_
    obtain rfl := Option.some.inj hf
    exact ev_bret (b := v1) dX12_hasWord_25 rfl ⟨Nat.zero_le _, Nat.zero_le _⟩ hr
  refine ev_ifb_eq 19 dX12_hasWord_12 (by decide) (fun h3 => ?_) (fun h3 => ?_)
  · refine ev_iconst dX12_hasWord_19 ?_
    have e9 : v2 = 0 := hv2.trans ((if_neg h3))
    subst e9
    exact hJv2
  · refine ev_iconst dX12_hasWord_15 ?_
    refine ev_goto 20 dX12_hasWord_16 (by decide) ?_
    have e9 : v2 = 1 := hv2.trans ((if_pos h3))
    subst e9
    exact hJv2
theorem tX12_hasWord (hS : Sd M K P L) (hc : CIn P 75 81) (w0 : Int) (μ : Mem) {o : Bool × Mem} (hf : fX12_hasWord w0 μ = some o) : Cn l D cy g K K yX12_hasWord cX12_hasWord 3 (some .boolean) (rmd 2 0 0) [vr g 75, vi w0] M x (L μ) (PE (some (vb o.1)) M x (L o.2)) :=
 Cn.of (by decide) (Nat.le_of_ble_eq_true rfl) (eX12_hasWord hS hc w0 μ hf (PE_i _ _ _ _))
end L1
