section L1
variable {l : Launch} {D : va_G} {cy : Nat → ClassId} {g : Nat → Nat} {K : KT} {M : Nat} {x : Bool} {P : Nat → Prop} {L : Mem → Mem} {Φ : Post}
def fX12_takeWord (w0 : Int) (μ : Mem) : Option (Mem) :=
  (fX12_hasWord w0 μ).bind fun q1 =>
  if q1.1 = true then
    some (q1.2)
  else
    (fX12_wrong 1 q1.2).bind fun μ3 =>
    some (μ3)
set_option maxRecDepth 4000 in
theorem eX12_takeWord (hS : Sd M K P L) (hc : CIn P 75 81) (w0 : Int) (μ : Mem)  {o : Mem} (hf : fX12_takeWord w0 μ = some o) (hr : (fun o : Mem => Φ none M x (L o)) o) : Ev l D cy g K yX12_takeWord cX12_takeWord 2 none (rmd 3 0 0) (MX D cy g K (rmd 3 0 0) Φ) 0 0 M x (L μ) 0 [(0, vr g 75), (1, vi w0)] [] := by
  unfold fX12_takeWord at hf
  refine ev_aload_n dX12_takeWord_0 0 rfl ?_
  refine ev_iload_n dX12_takeWord_1 1 rfl ?_
  obtain ⟨q1, hq1, hf⟩ := Option.bind_eq_some_iff.mp hf
  refine cl_V1 (As := [vi w0]) (st := []) miX12_hasWord (tX12_hasWord hS (hc.w rfl rfl) w0 μ hq1) dX12_takeWord_2 lkX12_164 inX12_hasWord rfl (hS.lt (hc 75 rfl)) rfl ⟨rfl, rfl⟩ ⟨⟨Nat.le_of_ble_eq_true rfl, Nat.le_of_ble_eq_true rfl⟩, Nat.zero_le _, Nat.zero_le _⟩ (Nat.le_of_ble_eq_true rfl) ?_
  refine ev_ifb_ne 13 dX12_takeWord_5 (by decide) (fun h2 => ?_) (fun h2 => ?_)
  · rw [if_pos h2] at hf
    obtain rfl := Option.some.inj hf
    exact ev_vret dX12_takeWord_13 rfl ⟨Nat.zero_le _, Nat.zero_le _⟩ hr
  · rw [if_neg h2] at hf
    refine ev_aload_n dX12_takeWord_8 0 rfl ?_
    refine ev_iconst dX12_takeWord_9 ?_
    obtain ⟨μ3, hμ3, hf⟩ := Option.bind_eq_some_iff.mp hf
    refine cl_V0 (As := [vi 1]) (st := []) miX12_wrong (tX12_wrong hS (hc.w rfl rfl) 1 q1.2 hμ3) dX12_takeWord_10 lkX12_158 inX12_wrong rfl (hS.lt (hc 75 rfl)) rfl ⟨rfl, rfl⟩ ⟨⟨Nat.le_of_ble_eq_true rfl, Nat.le_of_ble_eq_true rfl⟩, Nat.zero_le _, Nat.zero_le _⟩ (Nat.le_of_ble_eq_true rfl) ?_
    obtain rfl := Option.some.inj hf
    exact ev_vret dX12_takeWord_13 rfl ⟨Nat.zero_le _, Nat.zero_le _⟩ hr
theorem tX12_takeWord (hS : Sd M K P L) (hc : CIn P 75 81) (w0 : Int) (μ : Mem) {o : Mem} (hf : fX12_takeWord w0 μ = some o) : Cn l D cy g K K yX12_takeWord cX12_takeWord 2 none (rmd 3 0 0) [vr g 75, vi w0] M x (L μ) (PE none M x (L o)) :=
 Cn.of (by decide) (Nat.le_of_ble_eq_true rfl) (eX12_takeWord hS hc w0 μ hf (PE_i _ _ _ _))
def fX12_within (v0 : Int) (low : Int) (high : Int) : Bool :=
  lt (if w32 v0 < w32 low then
      false
    else
      if w32 v0 ≤ w32 high then
        true
      else
        false) fun v1 =>
  v1
set_option maxRecDepth 4000 in
theorem eX12_within  (v0 : Int) (low : Int) (high : Int) (μ : Mem)  {o : Bool} (hf : fX12_within v0 low high = o) (hr : (fun o : Bool => Φ (some (vb o)) M x μ) o) : Ev l D cy g K yX12_within cX12_within 3 (some .boolean) (rmd 1 0 0) (MX D cy g K (rmd 1 0 0) Φ) 0 0 M x μ 0 [(0, vi v0), (1, vi low), (2, vi high)] [] := by
  unfold fX12_within at hf
  refine ev_iload_n dX12_within_0 0 rfl ?_
  refine ev_iload_n dX12_within_1 1 rfl ?_
  obtain ⟨v1, hv1, hf⟩ := lt_elim hf
  have hJv1 : Ev l D cy g K yX12_within cX12_within 3 (some .boolean) (rmd 1 0 0) (MX D cy g K (rmd 1 0 0) Φ) 0 0 M x μ 15 [(0, vi v0), (1, vi low), (2, vi high)] [vb v1] := by
    obtain rfl := hf
    exact ev_bret (b := v1) dX12_within_15 rfl ⟨Nat.zero_le _, Nat.zero_le _⟩ hr
  refine ev_icmp_lt 14 dX12_within_2 (by decide) (fun h2 => ?_) (fun h2 => ?_)
  · refine ev_iconst dX12_within_14 ?_
    have e9 : v1 = false := hv1.trans ((if_pos h2))
    subst e9
    exact hJv1
  · refine ev_iload_n dX12_within_5 0 rfl ?_
    refine ev_iload_n dX12_within_6 2 rfl ?_
    refine ev_icmp_gt 14 dX12_within_7 (by decide) (fun h3 => ?_) (fun h3 => ?_)
    · refine ev_iconst dX12_within_14 ?_
      have e9 : v1 = false := hv1.trans (((if_neg h2)).trans (if_neg h3))
      subst e9
      exact hJv1
    · refine ev_iconst dX12_within_10 ?_
      refine ev_goto 15 dX12_within_11 (by decide) ?_
      have e9 : v1 = true := hv1.trans (((if_neg h2)).trans (if_pos h3))
      subst e9
      exact hJv1
theorem tX12_within (v0 : Int) (low : Int) (high : Int) (μ : Mem) {o : Bool} (hf : fX12_within v0 low high = o) : Cn l D cy g K K yX12_within cX12_within 3 (some .boolean) (rmd 1 0 0) [vi v0, vi low, vi high] M x μ (PE (some (vb o)) M x μ) :=
 Cn.of (by decide) (Nat.le_of_ble_eq_true rfl) (eX12_within v0 low high μ hf (PE_i _ _ _ _))
def fX12_takeNumber_j70 (low : Int) (high : Int) (μ : Mem) : Option (Int × Mem) :=
  if w32 (μ 75 8) ≤ 0 then
    lt (upd2 μ 75 7 ((μ 75 7) + 1)) fun μ4 =>
    gd (0 ≤ w32 ((μ4 75 7) - 1) ∧ w32 ((μ4 75 7) - 1) < 1002) <|
    some (((l_2i (μ4 79 (w32 ((μ4 75 7) - 1)).toNat)), μ4))
  else
    some ((0, μ))
set_option maxRecDepth 4000 in
theorem tX12_takeNumber_j70 (hS : Sd M K P L) (hc : CIn P 75 80) (low : Int) (high : Int) (μ : Mem)  {o : Int × Mem} (hf : fX12_takeNumber_j70 low high μ = some o) (hr : (fun o : Int × Mem => Φ (some (vi o.1)) M x (L o.2)) o) : Ev l D cy g K yX12_takeNumber cX12_takeNumber 3 (some .int) (rmd 2 0 0) (MX D cy g K (rmd 2 0 0) Φ) 0 0 M x (L μ) 70 [(0, vr g 75)] [] := by
  unfold fX12_takeNumber_j70 at hf
  refine ev_aload_n dX12_takeNumber_70 0 rfl ?_
  refine ev_getI 8 dX12_takeNumber_71 (hS.lt (hc 75 rfl)) rfl (hS.mem _ (hc 75 rfl)) ciX12 (by decide) rfl flX12_152 ?_
  refine ev_if_le 79 dX12_takeNumber_74 (by decide) (fun h3 => ?_) (fun h3 => ?_)
  · rw [if_pos h3] at hf
    refine ev_aload_n dX12_takeNumber_79 0 rfl ?_
    refine ev_dup dX12_takeNumber_80 rfl ?_
    refine ev_getI 7 dX12_takeNumber_81 (hS.lt (hc 75 rfl)) rfl (hS.mem _ (hc 75 rfl)) ciX12 (by decide) rfl flX12_149 ?_
    refine ev_iconst dX12_takeNumber_84 ?_
    refine ev_iadd dX12_takeNumber_85 ?_
    obtain ⟨μ4, hμ4, hf⟩ := lt_elim hf
    refine ev_putI 7 dX12_takeNumber_86 (hS.lt (hc 75 rfl)) rfl ciX12 (by decide) (Or.inl rfl) rfl rfl flX12_149 (hS.up (hc 75 rfl) hμ4) ?_
    refine ev_aload_n dX12_takeNumber_89 0 rfl ?_
    refine ev_getK 6 dX12_takeNumber_90 (hS.lt (hc 75 rfl)) rfl (hS.K1 (hc 75 rfl) rfl) ciX12 (by decide) rfl flX12_30 ?_
    refine ev_aload_n dX12_takeNumber_93 0 rfl ?_
    refine ev_getI 7 dX12_takeNumber_94 (hS.lt (hc 75 rfl)) rfl (hS.mem _ (hc 75 rfl)) ciX12 (by decide) rfl flX12_149 ?_
    refine ev_iconst dX12_takeNumber_97 ?_
    refine ev_isub dX12_takeNumber_98 ?_
    obtain ⟨g5, hf⟩ := gd_elim hf
    refine ev_lald dX12_takeNumber_99 (hS.lt (hc 79 rfl)) rfl (hS.mem _ (hc 79 rfl)) g5 ?_
    refine ev_l2i dX12_takeNumber_100 ?_
    obtain rfl := Option.some.inj hf
    exact ev_iret dX12_takeNumber_101 rfl ⟨Nat.zero_le _, Nat.zero_le _⟩ hr
  · rw [if_neg h3] at hf
    refine ev_iconst dX12_takeNumber_77 ?_
    obtain rfl := Option.some.inj hf
    exact ev_iret dX12_takeNumber_78 rfl ⟨Nat.zero_le _, Nat.zero_le _⟩ hr
def fX12_takeNumber_j65 (low : Int) (high : Int) (μ : Mem) : Option (Int × Mem) :=
  (fX12_wrong 4 μ).bind fun μ8 =>
  fX12_takeNumber_j70 low high μ8
set_option maxRecDepth 4000 in
theorem tX12_takeNumber_j65 (hS : Sd M K P L) (hc : CIn P 75 80) (low : Int) (high : Int) (μ : Mem)  {o : Int × Mem} (hf : fX12_takeNumber_j65 low high μ = some o) (hr : (fun o : Int × Mem => Φ (some (vi o.1)) M x (L o.2)) o) : Ev l D cy g K yX12_takeNumber cX12_takeNumber 3 (some .int) (rmd 2 0 0) (MX D cy g K (rmd 2 0 0) Φ) 0 0 M x (L μ) 65 [(0, vr g 75)] [] := by
  unfold fX12_takeNumber_j65 at hf
  refine ev_aload_n dX12_takeNumber_65 0 rfl ?_
  refine ev_iconst dX12_takeNumber_66 ?_
  obtain ⟨μ8, hμ8, hf⟩ := Option.bind_eq_some_iff.mp hf
  refine cl_V0 (As := [vi 4]) (st := []) miX12_wrong (tX12_wrong hS (hc.w rfl rfl) 4 μ hμ8) dX12_takeNumber_67 lkX12_158 inX12_wrong rfl (hS.lt (hc 75 rfl)) rfl ⟨rfl, rfl⟩ ⟨⟨Nat.le_of_ble_eq_true rfl, Nat.le_of_ble_eq_true rfl⟩, Nat.zero_le _, Nat.zero_le _⟩ (Nat.le_of_ble_eq_true rfl) ?_
  refine ev_sub [0] rfl ?_
  exact tX12_takeNumber_j70 hS hc low high μ8 hf hr
def fX12_takeNumber_j28 (low : Int) (high : Int) (μ : Mem) : Option (Int × Mem) :=
  if w32 (μ 75 8) = 0 then
    gd (0 ≤ w32 (μ 75 7) ∧ w32 (μ 75 7) < 1002) <|
    if w64 (μ 79 (w32 (μ 75 7)).toNat) < w64 (w32 low) then
      fX12_takeNumber_j65 low high μ
    else
      gd (0 ≤ w32 (μ 75 7) ∧ w32 (μ 75 7) < 1002) <|
      if w64 (μ 79 (w32 (μ 75 7)).toNat) ≤ w64 (w32 high) then
        fX12_takeNumber_j70 low high μ
      else
        fX12_takeNumber_j65 low high μ
  else
    fX12_takeNumber_j70 low high μ
set_option maxRecDepth 4000 in
theorem tX12_takeNumber_j28 (hS : Sd M K P L) (hc : CIn P 75 80) (low : Int) (high : Int) (μ : Mem)  {o : Int × Mem} (hf : fX12_takeNumber_j28 low high μ = some o) (hr : (fun o : Int × Mem => Φ (some (vi o.1)) M x (L o.2)) o) : Ev l D cy g K yX12_takeNumber cX12_takeNumber 3 (some .int) (rmd 2 0 0) (MX D cy g K (rmd 2 0 0) Φ) 0 0 M x (L μ) 28 [(0, vr g 75), (1, vi low), (2, vi high)] [] := by
  unfold fX12_takeNumber_j28 at hf
  refine ev_aload_n dX12_takeNumber_28 0 rfl ?_
  refine ev_getI 8 dX12_takeNumber_29 (hS.lt (hc 75 rfl)) rfl (hS.mem _ (hc 75 rfl)) ciX12 (by decide) rfl flX12_152 ?_
  refine ev_if_ne 70 dX12_takeNumber_32 (by decide) (fun h2 => ?_) (fun h2 => ?_)
  · rw [if_neg h2] at hf
    refine ev_sub [0] rfl ?_
    exact tX12_takeNumber_j70 hS hc low high μ hf hr
  · rw [if_pos h2] at hf
    refine ev_aload_n dX12_takeNumber_35 0 rfl ?_
    refine ev_getK 6 dX12_takeNumber_36 (hS.lt (hc 75 rfl)) rfl (hS.K1 (hc 75 rfl) rfl) ciX12 (by decide) rfl flX12_30 ?_
    refine ev_aload_n dX12_takeNumber_39 0 rfl ?_
    refine ev_getI 7 dX12_takeNumber_40 (hS.lt (hc 75 rfl)) rfl (hS.mem _ (hc 75 rfl)) ciX12 (by decide) rfl flX12_149 ?_
    obtain ⟨g6, hf⟩ := gd_elim hf
    refine ev_lald dX12_takeNumber_43 (hS.lt (hc 79 rfl)) rfl (hS.mem _ (hc 79 rfl)) g6 ?_
    refine ev_iload_n dX12_takeNumber_44 1 rfl ?_
    refine ev_i2l dX12_takeNumber_45 ?_
    refine ev_lcmp_lt 65 dX12_takeNumber_46 dX12_takeNumber_47 (by decide) (fun h7 => ?_) (fun h7 => ?_)
    · rw [if_pos h7] at hf
      refine ev_sub [0] rfl ?_
      exact tX12_takeNumber_j65 hS hc low high μ hf hr
    · rw [if_neg h7] at hf
      refine ev_aload_n dX12_takeNumber_50 0 rfl ?_
      refine ev_getK 6 dX12_takeNumber_51 (hS.lt (hc 75 rfl)) rfl (hS.K1 (hc 75 rfl) rfl) ciX12 (by decide) rfl flX12_30 ?_
      refine ev_aload_n dX12_takeNumber_54 0 rfl ?_
      refine ev_getI 7 dX12_takeNumber_55 (hS.lt (hc 75 rfl)) rfl (hS.mem _ (hc 75 rfl)) ciX12 (by decide) rfl flX12_149 ?_
      obtain ⟨g9, hf⟩ := gd_elim hf
      refine ev_lald dX12_takeNumber_58 (hS.lt (hc 79 rfl)) rfl (hS.mem _ (hc 79 rfl)) g9 ?_
      refine ev_iload_n dX12_takeNumber_59 2 rfl ?_
      refine ev_i2l dX12_takeNumber_60 ?_
      refine ev_lcmp_le 70 dX12_takeNumber_61 dX12_takeNumber_62 (by decide) (fun h10 => ?_) (fun h10 => ?_)
      · rw [if_pos h10] at hf
        refine ev_sub [0] rfl ?_
        exact tX12_takeNumber_j70 hS hc low high μ hf hr
      · rw [if_neg h10] at hf
        refine ev_sub [0] rfl ?_
        exact tX12_takeNumber_j65 hS hc low high μ hf hr
def fX12_takeNumber (low : Int) (high : Int) (μ : Mem) : Option (Int × Mem) :=
  if w32 (μ 75 8) = 0 then
    gd (0 ≤ w32 (μ 75 7) ∧ w32 (μ 75 7) < 1002) <|
    if w32 (μ 77 (w32 (μ 75 7)).toNat) = w32 2 then
      fX12_takeNumber_j28 low high μ
    else
      (fX12_wrong 1 μ).bind fun μ13 =>
      fX12_takeNumber_j70 low high μ13
  else
    fX12_takeNumber_j28 low high μ
set_option maxRecDepth 4000 in
theorem eX12_takeNumber (hS : Sd M K P L) (hc : CIn P 75 80) (low : Int) (high : Int) (μ : Mem)  {o : Int × Mem} (hf : fX12_takeNumber low high μ = some o) (hr : (fun o : Int × Mem => Φ (some (vi o.1)) M x (L o.2)) o) : Ev l D cy g K yX12_takeNumber cX12_takeNumber 3 (some .int) (rmd 2 0 0) (MX D cy g K (rmd 2 0 0) Φ) 0 0 M x (L μ) 0 [(0, vr g 75), (1, vi low), (2, vi high)] [] := by
  unfold fX12_takeNumber at hf
  refine ev_aload_n dX12_takeNumber_0 0 rfl ?_
  refine ev_getI 8 dX12_takeNumber_1 (hS.lt (hc 75 rfl)) rfl (hS.mem _ (hc 75 rfl)) ciX12 (by decide) rfl flX12_152 ?_
  refine ev_if_ne 28 dX12_takeNumber_4 (by decide) (fun h1 => ?_) (fun h1 => ?_)
  · rw [if_neg h1] at hf
    refine ev_sub [0, 1, 2] rfl ?_
    exact tX12_takeNumber_j28 hS hc low high μ hf hr
  · rw [if_pos h1] at hf
    refine ev_aload_n dX12_takeNumber_7 0 rfl ?_
    refine ev_getK 4 dX12_takeNumber_8 (hS.lt (hc 75 rfl)) rfl (hS.K1 (hc 75 rfl) rfl) ciX12 (by decide) rfl flX12_24 ?_
    refine ev_aload_n dX12_takeNumber_11 0 rfl ?_
    refine ev_getI 7 dX12_takeNumber_12 (hS.lt (hc 75 rfl)) rfl (hS.mem _ (hc 75 rfl)) ciX12 (by decide) rfl flX12_149 ?_
    obtain ⟨g11, hf⟩ := gd_elim hf
    refine ev_iald dX12_takeNumber_15 (hS.lt (hc 77 rfl)) rfl (hS.mem _ (hc 77 rfl)) g11 ?_
    refine ev_iconst dX12_takeNumber_16 ?_
    refine ev_icmp_eq 28 dX12_takeNumber_17 (by decide) (fun h12 => ?_) (fun h12 => ?_)
    · rw [if_pos h12] at hf
      refine ev_sub [0, 1, 2] rfl ?_
      exact tX12_takeNumber_j28 hS hc low high μ hf hr
    · rw [if_neg h12] at hf
      refine ev_aload_n dX12_takeNumber_20 0 rfl ?_
      refine ev_iconst dX12_takeNumber_21 ?_
      obtain ⟨μ13, hμ13, hf⟩ := Option.bind_eq_some_iff.mp hf
      refine cl_V0 (As := [vi 1]) (st := []) miX12_wrong (tX12_wrong hS (hc.w rfl rfl) 1 μ hμ13) dX12_takeNumber_22 lkX12_158 inX12_wrong rfl (hS.lt (hc 75 rfl)) rfl ⟨rfl, rfl⟩ ⟨⟨Nat.le_of_ble_eq_true rfl, Nat.le_of_ble_eq_true rfl⟩, Nat.zero_le _, Nat.zero_le _⟩ (Nat.le_of_ble_eq_true rfl) ?_
      refine ev_goto 70 dX12_takeNumber_25 (by decide) ?_
      refine ev_sub [0] rfl ?_
      exact tX12_takeNumber_j70 hS hc low high μ13 hf hr
theorem tX12_takeNumber (hS : Sd M K P L) (hc : CIn P 75 80) (low : Int) (high : Int) (μ : Mem) {o : Int × Mem} (hf : fX12_takeNumber low high μ = some o) : Cn l D cy g K K yX12_takeNumber cX12_takeNumber 3 (some .int) (rmd 2 0 0) [vr g 75, vi low, vi high] M x (L μ) (PE (some (vi o.1)) M x (L o.2)) :=
 Cn.of (by decide) (Nat.le_of_ble_eq_true rfl) (eX12_takeNumber hS hc low high μ hf (PE_i _ _ _ _))
def fX12_wordHere_b5 (from0 : Int) (many : Int) (v1 : Int) (v2 : Int) (μ : Mem) : Option ((Int × Int) ⊕ (Int)) :=
  if w32 v2 < w32 many then
    (fX12_isWord (from0 + v2) μ).bind fun v4 =>
    lt (if v4 = true then
        v2
      else
        v1) fun v5 =>
    some (.inl (v5, (v2 + 1)))
  else
    some (.inr v1)
set_option maxRecDepth 4000 in
theorem tX12_wordHere_b5 (hS : Sd M K P L) (hc : CIn P 75 81) (from0 : Int) (many : Int) (v1 : Int) (v2 : Int) (μ : Mem)  {o : (Int × Int) ⊕ (Int)} (hf : fX12_wordHere_b5 from0 many v1 v2 μ = some o) (hr : (Sum.elim (fun s : Int × Int => Ev l D cy g K yX12_wordHere cX12_wordHere 5 (some .int) (rmd 2 0 0) (MX D cy g K (rmd 2 0 0) Φ) 0 0 M x (L μ) 5 [(0, vr g 75), (1, vi from0), (2, vi many), (3, vi s.1), (4, vi s.2)] []) (fun e : Int => Ev l D cy g K yX12_wordHere cX12_wordHere 5 (some .int) (rmd 2 0 0) (MX D cy g K (rmd 2 0 0) Φ) 0 0 M x (L μ) 35 [(3, vi e)] [])) o) : Ev l D cy g K yX12_wordHere cX12_wordHere 5 (some .int) (rmd 2 0 0) (MX D cy g K (rmd 2 0 0) Φ) 0 0 M x (L μ) 5 [(0, vr g 75), (1, vi from0), (2, vi many), (3, vi v1), (4, vi v2)] [] := by
  unfold fX12_wordHere_b5 at hf
  refine ev_iload dX12_wordHere_5 4 rfl ?_
  refine ev_iload_n dX12_wordHere_7 2 rfl ?_
  refine ev_icmp_ge 35 dX12_wordHere_8 (by decide) (fun h3 => ?_) (fun h3 => ?_)
  · rw [if_neg h3] at hf
    obtain rfl := Option.some.inj hf
    refine ev_sub [3] rfl ?_
    exact hr
  · rw [if_pos h3] at hf
    refine ev_aload_n dX12_wordHere_11 0 rfl ?_
    refine ev_iload_n dX12_wordHere_12 1 rfl ?_
    refine ev_iload dX12_wordHere_13 4 rfl ?_
    refine ev_iadd dX12_wordHere_15 ?_
    obtain ⟨v4, hv4, hf⟩ := Option.bind_eq_some_iff.mp hf
    refine cl_V1 (As := [vi (from0 + v2)]) (st := []) miX12_isWord (tX12_isWord hS (hc.w rfl rfl) (from0 + v2) μ hv4) dX12_wordHere_16 lkX12_161 inX12_isWord rfl (hS.lt (hc 75 rfl)) rfl ⟨rfl, rfl⟩ ⟨⟨Nat.le_of_ble_eq_true rfl, Nat.le_of_ble_eq_true rfl⟩, Nat.zero_le _, Nat.zero_le _⟩ (Nat.le_of_ble_eq_true rfl) ?_
    obtain ⟨v5, hv5, hf⟩ := lt_elim hf
    have hJv5 : Ev l D cy g K yX12_wordHere cX12_wordHere 5 (some .int) (rmd 2 0 0) (MX D cy g K (rmd 2 0 0) Φ) 0 0 M x (L μ) 28 [(0, vr g 75), (1, vi from0), (2, vi many), (3, vi v1), (4, vi v2)] [vi v5] := by
      refine ev_istore_n (al2 := [(3, vi v5), (0, vr g 75), (1, vi from0), (2, vi many), (4, vi v2)]) dX12_wordHere_28 3 rfl (by decide) rfl ?_
      refine ev_iinc (al2 := [(4, vi (v2 + 1)), (3, vi v5), (0, vr g 75), (1, vi from0), (2, vi many)]) dX12_wordHere_29 4 rfl (by decide) rfl ?_
      refine ev_goto 5 dX12_wordHere_32 (by decide) ?_
      obtain rfl := Option.some.inj hf
      refine ev_sub [2, 3, 4, 1, 0] rfl ?_
      exact hr
    refine ev_ifb_eq 27 dX12_wordHere_19 (by decide) (fun h6 => ?_) (fun h6 => ?_)
    · refine ev_iload_n dX12_wordHere_27 3 rfl ?_
      have e9 : v5 = v1 := hv5.trans ((if_neg h6))
      subst e9
      exact hJv5
    · refine ev_iload dX12_wordHere_22 4 rfl ?_
      refine ev_goto 28 dX12_wordHere_24 (by decide) ?_
      have e9 : v5 = v2 := hv5.trans ((if_pos h6))
      subst e9
      exact hJv5
def fX12_wordHere (from0 : Int) (many : Int) (μ : Mem) : Option (Int) :=
  (loopN (fun s => fX12_wordHere_b5 from0 many s.1 s.2 μ) FU ((-1), 0)).bind fun q7 =>
  some (q7)
set_option maxRecDepth 4000 in
theorem eX12_wordHere (hS : Sd M K P L) (hc : CIn P 75 81) (from0 : Int) (many : Int) (μ : Mem)  {o : Int} (hf : fX12_wordHere from0 many μ = some o) (hr : (fun o : Int => Φ (some (vi o)) M x (L μ)) o) : Ev l D cy g K yX12_wordHere cX12_wordHere 5 (some .int) (rmd 2 0 0) (MX D cy g K (rmd 2 0 0) Φ) 0 0 M x (L μ) 0 [(0, vr g 75), (1, vi from0), (2, vi many)] [] := by
  unfold fX12_wordHere at hf
  refine ev_iconst dX12_wordHere_0 ?_
  refine ev_istore_n (al2 := [(3, vi (-1)), (0, vr g 75), (1, vi from0), (2, vi many)]) dX12_wordHere_1 3 rfl (by decide) rfl ?_
  refine ev_iconst dX12_wordHere_2 ?_
  refine ev_istore (al2 := [(4, vi 0), (3, vi (-1)), (0, vr g 75), (1, vi from0), (2, vi many)]) dX12_wordHere_3 (by decide) rfl ?_
  obtain ⟨q7, hq7, hf⟩ := Option.bind_eq_some_iff.mp hf
  refine ev_sub [2, 3, 4, 1, 0] rfl ?_
  refine loop_ev (H := (fun s : Int × Int => Ev l D cy g K yX12_wordHere cX12_wordHere 5 (some .int) (rmd 2 0 0) (MX D cy g K (rmd 2 0 0) Φ) 0 0 M x (L μ) 5 [(0, vr g 75), (1, vi from0), (2, vi many), (3, vi s.1), (4, vi s.2)] [])) (Hx := (fun e : Int => Ev l D cy g K yX12_wordHere cX12_wordHere 5 (some .int) (rmd 2 0 0) (MX D cy g K (rmd 2 0 0) Φ) 0 0 M x (L μ) 35 [(3, vi e)] [])) (fun s o hb hr => tX12_wordHere_b5 hS hc from0 many s.1 s.2 μ hb hr) FU _ _ hq7 ?_
  show Ev l D cy g K yX12_wordHere cX12_wordHere 5 (some .int) (rmd 2 0 0) (MX D cy g K (rmd 2 0 0) Φ) 0 0 M x (L μ) 35 [(3, vi q7)] []
  refine ev_iload_n dX12_wordHere_35 0 rfl ?_
  obtain rfl := Option.some.inj hf
  exact ev_iret dX12_wordHere_36 rfl ⟨Nat.zero_le _, Nat.zero_le _⟩ hr
theorem tX12_wordHere (hS : Sd M K P L) (hc : CIn P 75 81) (from0 : Int) (many : Int) (μ : Mem) {o : Int} (hf : fX12_wordHere from0 many μ = some o) : Cn l D cy g K K yX12_wordHere cX12_wordHere 5 (some .int) (rmd 2 0 0) [vr g 75, vi from0, vi many] M x (L μ) (PE (some (vi o)) M x (L μ)) :=
 Cn.of (by decide) (Nat.le_of_ble_eq_true rfl) (eX12_wordHere hS hc from0 many μ hf (PE_i _ _ _ _))
def fX12_takeOne_j34 (from0 : Int) (many : Int) (v5 : Int) (μ : Mem) : Option (Int × Mem) :=
  lt (if w32 (μ 75 8) ≤ 0 then
      1
    else
      0) fun v6 =>
  lt (upd2 μ 75 7 ((μ 75 7) + v6)) fun μ8 =>
  lt (if w32 (μ8 75 8) ≤ 0 then
      v5
    else
      0) fun v9 =>
  some ((v9, μ8))
set_option maxRecDepth 4000 in
theorem tX12_takeOne_j34 (hS : Sd M K P L) (hc : CIn P 75 81) (from0 : Int) (many : Int) (v5 : Int) (μ : Mem)  {o : Int × Mem} (hf : fX12_takeOne_j34 from0 many v5 μ = some o) (hr : (fun o : Int × Mem => Φ (some (vi o.1)) M x (L o.2)) o) : Ev l D cy g K yX12_takeOne cX12_takeOne 4 (some .int) (rmd 3 0 0) (MX D cy g K (rmd 3 0 0) Φ) 0 0 M x (L μ) 34 [(0, vr g 75), (3, vi v5)] [] := by
  unfold fX12_takeOne_j34 at hf
  refine ev_aload_n dX12_takeOne_34 0 rfl ?_
  refine ev_dup dX12_takeOne_35 rfl ?_
  refine ev_getI 7 dX12_takeOne_36 (hS.lt (hc 75 rfl)) rfl (hS.mem _ (hc 75 rfl)) ciX12 (by decide) rfl flX12_149 ?_
  refine ev_aload_n dX12_takeOne_39 0 rfl ?_
  refine ev_getI 8 dX12_takeOne_40 (hS.lt (hc 75 rfl)) rfl (hS.mem _ (hc 75 rfl)) ciX12 (by decide) rfl flX12_152 ?_
  obtain ⟨v6, hv6, hf⟩ := lt_elim hf
  have hJv6 : Ev l D cy g K yX12_takeOne cX12_takeOne 4 (some .int) (rmd 3 0 0) (MX D cy g K (rmd 3 0 0) Φ) 0 0 M x (L μ) 51 [(0, vr g 75), (3, vi v5)] [vi v6, vi (μ 75 7), vr g 75] := by
    refine ev_iadd dX12_takeOne_51 ?_
    obtain ⟨μ8, hμ8, hf⟩ := lt_elim hf
    refine ev_putI 7 dX12_takeOne_52 (hS.lt (hc 75 rfl)) rfl ciX12 (by decide) (Or.inl rfl) rfl rfl flX12_149 (hS.up (hc 75 rfl) hμ8) ?_
    refine ev_aload_n dX12_takeOne_55 0 rfl ?_
    refine ev_getI 8 dX12_takeOne_56 (hS.lt (hc 75 rfl)) rfl (hS.mem _ (hc 75 rfl)) ciX12 (by decide) rfl flX12_152 ?_
    obtain ⟨v9, hv9, hf⟩ := lt_elim hf
    have hJv9 : Ev l D cy g K yX12_takeOne cX12_takeOne 4 (some .int) (rmd 3 0 0) (MX D cy g K (rmd 3 0 0) Φ) 0 0 M x (L μ8) 67 [(0, vr g 75), (3, vi v5)] [vi v9] := by
      obtain rfl := Option.some.inj hf
      exact ev_iret dX12_takeOne_67 rfl ⟨Nat.zero_le _, Nat.zero_le _⟩ hr
    refine ev_if_le 66 dX12_takeOne_59 (by decide) (fun h10 => ?_) (fun h10 => ?_)
    · refine ev_iload_n dX12_takeOne_66 1 rfl ?_
      have e9 : v9 = v5 := hv9.trans ((if_pos h10))
      subst e9
      exact hJv9
    · refine ev_iconst dX12_takeOne_62 ?_
      refine ev_goto 67 dX12_takeOne_63 (by decide) ?_
      have e9 : v9 = 0 := hv9.trans ((if_neg h10))
      subst e9
      exact hJv9
  refine ev_if_le 50 dX12_takeOne_43 (by decide) (fun h7 => ?_) (fun h7 => ?_)
  · refine ev_iconst dX12_takeOne_50 ?_
    have e9 : v6 = 1 := hv6.trans ((if_pos h7))
    subst e9
    exact hJv6
  · refine ev_iconst dX12_takeOne_46 ?_
    refine ev_goto 51 dX12_takeOne_47 (by decide) ?_
    have e9 : v6 = 0 := hv6.trans ((if_neg h7))
    subst e9
    exact hJv6
def fX12_takeOne_j17 (from0 : Int) (many : Int) (w3 : Int) (μ : Mem) : Option (Int × Mem) :=
  if w32 (μ 75 8) = 0 then
    if w32 w3 < 0 then
      (fX12_wrong 1 μ).bind fun μ13 =>
      fX12_takeOne_j34 from0 many w3 μ13
    else
      fX12_takeOne_j34 from0 many w3 μ
  else
    fX12_takeOne_j34 from0 many w3 μ
set_option maxRecDepth 4000 in
theorem tX12_takeOne_j17 (hS : Sd M K P L) (hc : CIn P 75 81) (from0 : Int) (many : Int) (w3 : Int) (μ : Mem)  {o : Int × Mem} (hf : fX12_takeOne_j17 from0 many w3 μ = some o) (hr : (fun o : Int × Mem => Φ (some (vi o.1)) M x (L o.2)) o) : Ev l D cy g K yX12_takeOne cX12_takeOne 4 (some .int) (rmd 3 0 0) (MX D cy g K (rmd 3 0 0) Φ) 0 0 M x (L μ) 17 [(0, vr g 75)] [vi w3] := by
  unfold fX12_takeOne_j17 at hf
  refine ev_istore_n (al2 := [(3, vi w3), (0, vr g 75)]) dX12_takeOne_17 3 rfl (by decide) rfl ?_
  refine ev_aload_n dX12_takeOne_18 1 rfl ?_
  refine ev_getI 8 dX12_takeOne_19 (hS.lt (hc 75 rfl)) rfl (hS.mem _ (hc 75 rfl)) ciX12 (by decide) rfl flX12_152 ?_
  refine ev_if_ne 34 dX12_takeOne_22 (by decide) (fun h4 => ?_) (fun h4 => ?_)
  · rw [if_neg h4] at hf
    refine ev_sub [1, 0] rfl ?_
    exact tX12_takeOne_j34 hS hc from0 many w3 μ hf hr
  · rw [if_pos h4] at hf
    refine ev_iload_n dX12_takeOne_25 0 rfl ?_
    refine ev_if_ge 34 dX12_takeOne_26 (by decide) (fun h11 => ?_) (fun h11 => ?_)
    · rw [if_neg h11] at hf
      refine ev_sub [1, 0] rfl ?_
      exact tX12_takeOne_j34 hS hc from0 many w3 μ hf hr
    · rw [if_pos h11] at hf
      refine ev_aload_n dX12_takeOne_29 1 rfl ?_
      refine ev_iconst dX12_takeOne_30 ?_
      obtain ⟨μ13, hμ13, hf⟩ := Option.bind_eq_some_iff.mp hf
      refine cl_V0 (As := [vi 1]) (st := []) miX12_wrong (tX12_wrong hS (hc.w rfl rfl) 1 μ hμ13) dX12_takeOne_31 lkX12_158 inX12_wrong rfl (hS.lt (hc 75 rfl)) rfl ⟨rfl, rfl⟩ ⟨⟨Nat.le_of_ble_eq_true rfl, Nat.le_of_ble_eq_true rfl⟩, Nat.zero_le _, Nat.zero_le _⟩ (Nat.le_of_ble_eq_true rfl) ?_
      refine ev_sub [1, 0] rfl ?_
      exact tX12_takeOne_j34 hS hc from0 many w3 μ13 hf hr
def fX12_takeOne (from0 : Int) (many : Int) (μ : Mem) : Option (Int × Mem) :=
  if w32 (μ 75 8) ≤ 0 then
    (fX12_wordHere from0 many μ).bind fun v2 =>
    fX12_takeOne_j17 from0 many v2 μ
  else
    fX12_takeOne_j17 from0 many (-1) μ
set_option maxRecDepth 4000 in
theorem eX12_takeOne (hS : Sd M K P L) (hc : CIn P 75 81) (from0 : Int) (many : Int) (μ : Mem)  {o : Int × Mem} (hf : fX12_takeOne from0 many μ = some o) (hr : (fun o : Int × Mem => Φ (some (vi o.1)) M x (L o.2)) o) : Ev l D cy g K yX12_takeOne cX12_takeOne 4 (some .int) (rmd 3 0 0) (MX D cy g K (rmd 3 0 0) Φ) 0 0 M x (L μ) 0 [(0, vr g 75), (1, vi from0), (2, vi many)] [] := by
  unfold fX12_takeOne at hf
  refine ev_aload_n dX12_takeOne_0 0 rfl ?_
  refine ev_getI 8 dX12_takeOne_1 (hS.lt (hc 75 rfl)) rfl (hS.mem _ (hc 75 rfl)) ciX12 (by decide) rfl flX12_152 ?_
  refine ev_if_le 11 dX12_takeOne_4 (by decide) (fun h1 => ?_) (fun h1 => ?_)
  · rw [if_pos h1] at hf
    refine ev_aload_n dX12_takeOne_11 0 rfl ?_
    refine ev_iload_n dX12_takeOne_12 1 rfl ?_
    refine ev_iload_n dX12_takeOne_13 2 rfl ?_
    obtain ⟨v2, hv2, hf⟩ := Option.bind_eq_some_iff.mp hf
    refine cl_V1 (As := [vi from0, vi many]) (st := []) miX12_wordHere (tX12_wordHere hS (hc.w rfl rfl) from0 many μ hv2) dX12_takeOne_14 lkX12_167 inX12_wordHere rfl (hS.lt (hc 75 rfl)) rfl ⟨rfl, rfl⟩ ⟨⟨Nat.le_of_ble_eq_true rfl, Nat.le_of_ble_eq_true rfl⟩, Nat.zero_le _, Nat.zero_le _⟩ (Nat.le_of_ble_eq_true rfl) ?_
    refine ev_sub [0] rfl ?_
    exact tX12_takeOne_j17 hS hc from0 many v2 μ hf hr
  · rw [if_neg h1] at hf
    refine ev_iconst dX12_takeOne_7 ?_
    refine ev_goto 17 dX12_takeOne_8 (by decide) ?_
    refine ev_sub [0] rfl ?_
    exact tX12_takeOne_j17 hS hc from0 many (-1) μ hf hr
theorem tX12_takeOne (hS : Sd M K P L) (hc : CIn P 75 81) (from0 : Int) (many : Int) (μ : Mem) {o : Int × Mem} (hf : fX12_takeOne from0 many μ = some o) : Cn l D cy g K K yX12_takeOne cX12_takeOne 4 (some .int) (rmd 3 0 0) [vr g 75, vi from0, vi many] M x (L μ) (PE (some (vi o.1)) M x (L o.2)) :=
 Cn.of (by decide) (Nat.le_of_ble_eq_true rfl) (eX12_takeOne hS hc from0 many μ hf (PE_i _ _ _ _))
def fX12_isName  (μ : Mem) : Option (Bool) :=
  if w32 (μ 75 8) = 0 then
    gd (0 ≤ w32 (μ 75 7) ∧ w32 (μ 75 7) < 1002) <|
    if w32 (μ 77 (w32 (μ 75 7)).toNat) = w32 1 then
      (fX12_wordHere 0 14 μ).bind fun v4 =>
      lt (if w32 v4 < 0 then
          true
        else
          false) fun v5 =>
      some (v5)
    else
      some (false)
  else
    some (false)
set_option maxRecDepth 4000 in
theorem eX12_isName (hS : Sd M K P L) (hc : CIn P 75 81)  (μ : Mem)  {o : Bool} (hf : fX12_isName  μ = some o) (hr : (fun o : Bool => Φ (some (vb o)) M x (L μ)) o) : Ev l D cy g K yX12_isName cX12_isName 1 (some .boolean) (rmd 3 0 0) (MX D cy g K (rmd 3 0 0) Φ) 0 0 M x (L μ) 0 [(0, vr g 75)] [] := by
  unfold fX12_isName at hf
  refine ev_aload_n dX12_isName_0 0 rfl ?_
  refine ev_getI 8 dX12_isName_1 (hS.lt (hc 75 rfl)) rfl (hS.mem _ (hc 75 rfl)) ciX12 (by decide) rfl flX12_152 ?_
  refine ev_if_ne 34 dX12_isName_4 (by decide) (fun h1 => ?_) (fun h1 => ?_)
  · rw [if_neg h1] at hf
    refine ev_iconst dX12_isName_34 ?_
    obtain rfl := Option.some.inj hf
    exact ev_bret (b := false) dX12_isName_35 rfl ⟨Nat.zero_le _, Nat.zero_le _⟩ hr
  · rw [if_pos h1] at hf
    refine ev_aload_n dX12_isName_7 0 rfl ?_
    refine ev_getK 4 dX12_isName_8 (hS.lt (hc 75 rfl)) rfl (hS.K1 (hc 75 rfl) rfl) ciX12 (by decide) rfl flX12_24 ?_
    refine ev_aload_n dX12_isName_11 0 rfl ?_
    refine ev_getI 7 dX12_isName_12 (hS.lt (hc 75 rfl)) rfl (hS.mem _ (hc 75 rfl)) ciX12 (by decide) rfl flX12_149 ?_
    obtain ⟨g2, hf⟩ := gd_elim hf
    refine ev_iald dX12_isName_15 (hS.lt (hc 77 rfl)) rfl (hS.mem _ (hc 77 rfl)) g2 ?_
    refine ev_iconst dX12_isName_16 ?_
    refine ev_icmp_ne 34 dX12_isName_17 (by decide) (fun h3 => ?_) (fun h3 => ?_)
    · rw [if_neg h3] at hf
      refine ev_iconst dX12_isName_34 ?_
      obtain rfl := Option.some.inj hf
      exact ev_bret (b := false) dX12_isName_35 rfl ⟨Nat.zero_le _, Nat.zero_le _⟩ hr
    · rw [if_pos h3] at hf
      refine ev_aload_n dX12_isName_20 0 rfl ?_
      refine ev_iconst dX12_isName_21 ?_
      refine ev_bipush dX12_isName_22 (by decide) ?_
      obtain ⟨v4, hv4, hf⟩ := Option.bind_eq_some_iff.mp hf
      refine cl_V1 (As := [vi 0, vi 14]) (st := []) miX12_wordHere (tX12_wordHere hS (hc.w rfl rfl) 0 14 μ hv4) dX12_isName_24 lkX12_167 inX12_wordHere rfl (hS.lt (hc 75 rfl)) rfl ⟨rfl, rfl⟩ ⟨⟨Nat.le_of_ble_eq_true rfl, Nat.le_of_ble_eq_true rfl⟩, Nat.zero_le _, Nat.zero_le _⟩ (Nat.le_of_ble_eq_true rfl) ?_
      obtain ⟨v5, hv5, hf⟩ := lt_elim hf
      have hJv5 : Ev l D cy g K yX12_isName cX12_isName 1 (some .boolean) (rmd 3 0 0) (MX D cy g K (rmd 3 0 0) Φ) 0 0 M x (L μ) 35 [(0, vr g 75)] [vb v5] := by
        obtain rfl := Option.some.inj hf
        exact ev_bret (b := v5) dX12_isName_35 rfl ⟨Nat.zero_le _, Nat.zero_le _⟩ hr
      refine ev_if_ge 34 dX12_isName_27 (by decide) (fun h6 => ?_) (fun h6 => ?_)
      · refine ev_iconst dX12_isName_34 ?_
        have e9 : v5 = false := hv5.trans ((if_neg h6))
        subst e9
        exact hJv5
      · refine ev_iconst dX12_isName_30 ?_
        refine ev_goto 35 dX12_isName_31 (by decide) ?_
        have e9 : v5 = true := hv5.trans ((if_pos h6))
        subst e9
        exact hJv5
theorem tX12_isName (hS : Sd M K P L) (hc : CIn P 75 81) (μ : Mem) {o : Bool} (hf : fX12_isName μ = some o) : Cn l D cy g K K yX12_isName cX12_isName 1 (some .boolean) (rmd 3 0 0) [vr g 75] M x (L μ) (PE (some (vb o)) M x (L μ)) :=
 Cn.of (by decide) (Nat.le_of_ble_eq_true rfl) (eX12_isName hS hc μ hf (PE_i _ _ _ _))
def fX12_nameAt_b5 (from0 : Int) (many : Int) (v1 : Int) (v2 : Int) (μ : Mem) : Option ((Int × Int) ⊕ (Int)) :=
  if w32 v2 < w32 many then
    gd (0 ≤ w32 (from0 + v2) ∧ w32 (from0 + v2) < 10) <|
    gd (0 ≤ w32 (μ 75 7) ∧ w32 (μ 75 7) < 1002) <|
    lt (if w64 (μ 83 (w32 (from0 + v2)).toNat) = w64 (μ 79 (w32 (μ 75 7)).toNat) then
        v2
      else
        v1) fun v6 =>
    some (.inl (v6, (v2 + 1)))
  else
    some (.inr v1)
set_option maxRecDepth 4000 in
theorem tX12_nameAt_b5 (hS : Sd M K P L) (hc : CIn P 75 84) (from0 : Int) (many : Int) (v1 : Int) (v2 : Int) (μ : Mem)  {o : (Int × Int) ⊕ (Int)} (hf : fX12_nameAt_b5 from0 many v1 v2 μ = some o) (hr : (Sum.elim (fun s : Int × Int => Ev l D cy g K yX12_nameAt cX12_nameAt 5 (some .int) (rmd 1 0 0) (MX D cy g K (rmd 1 0 0) Φ) 0 0 M x (L μ) 5 [(0, vr g 75), (1, vi from0), (2, vi many), (3, vi s.1), (4, vi s.2)] []) (fun e : Int => Ev l D cy g K yX12_nameAt cX12_nameAt 5 (some .int) (rmd 1 0 0) (MX D cy g K (rmd 1 0 0) Φ) 0 0 M x (L μ) 46 [(3, vi e)] [])) o) : Ev l D cy g K yX12_nameAt cX12_nameAt 5 (some .int) (rmd 1 0 0) (MX D cy g K (rmd 1 0 0) Φ) 0 0 M x (L μ) 5 [(0, vr g 75), (1, vi from0), (2, vi many), (3, vi v1), (4, vi v2)] [] := by
  unfold fX12_nameAt_b5 at hf
  refine ev_iload dX12_nameAt_5 4 rfl ?_
  refine ev_iload_n dX12_nameAt_7 2 rfl ?_
  refine ev_icmp_ge 46 dX12_nameAt_8 (by decide) (fun h3 => ?_) (fun h3 => ?_)
  · rw [if_neg h3] at hf
    obtain rfl := Option.some.inj hf
    refine ev_sub [3] rfl ?_
    exact hr
  · rw [if_pos h3] at hf
    refine ev_aload_n dX12_nameAt_11 0 rfl ?_
    refine ev_getK 13 dX12_nameAt_12 (hS.lt (hc 75 rfl)) rfl (hS.K1 (hc 75 rfl) rfl) ciX12 (by decide) rfl flX12_79 ?_
    refine ev_iload_n dX12_nameAt_15 1 rfl ?_
    refine ev_iload dX12_nameAt_16 4 rfl ?_
    refine ev_iadd dX12_nameAt_18 ?_
    obtain ⟨g4, hf⟩ := gd_elim hf
    refine ev_lald dX12_nameAt_19 (hS.lt (hc 83 rfl)) rfl (hS.mem _ (hc 83 rfl)) g4 ?_
    refine ev_aload_n dX12_nameAt_20 0 rfl ?_
    refine ev_getK 6 dX12_nameAt_21 (hS.lt (hc 75 rfl)) rfl (hS.K1 (hc 75 rfl) rfl) ciX12 (by decide) rfl flX12_30 ?_
    refine ev_aload_n dX12_nameAt_24 0 rfl ?_
    refine ev_getI 7 dX12_nameAt_25 (hS.lt (hc 75 rfl)) rfl (hS.mem _ (hc 75 rfl)) ciX12 (by decide) rfl flX12_149 ?_
    obtain ⟨g5, hf⟩ := gd_elim hf
    refine ev_lald dX12_nameAt_28 (hS.lt (hc 79 rfl)) rfl (hS.mem _ (hc 79 rfl)) g5 ?_
    obtain ⟨v6, hv6, hf⟩ := lt_elim hf
    have hJv6 : Ev l D cy g K yX12_nameAt cX12_nameAt 5 (some .int) (rmd 1 0 0) (MX D cy g K (rmd 1 0 0) Φ) 0 0 M x (L μ) 39 [(0, vr g 75), (1, vi from0), (2, vi many), (3, vi v1), (4, vi v2)] [vi v6] := by
      refine ev_istore_n (al2 := [(3, vi v6), (0, vr g 75), (1, vi from0), (2, vi many), (4, vi v2)]) dX12_nameAt_39 3 rfl (by decide) rfl ?_
      refine ev_iinc (al2 := [(4, vi (v2 + 1)), (3, vi v6), (0, vr g 75), (1, vi from0), (2, vi many)]) dX12_nameAt_40 4 rfl (by decide) rfl ?_
      refine ev_goto 5 dX12_nameAt_43 (by decide) ?_
      obtain rfl := Option.some.inj hf
      refine ev_sub [2, 3, 4, 1, 0] rfl ?_
      exact hr
    refine ev_lcmp_ne 38 dX12_nameAt_29 dX12_nameAt_30 (by decide) (fun h7 => ?_) (fun h7 => ?_)
    · refine ev_iload_n dX12_nameAt_38 3 rfl ?_
      have e9 : v6 = v1 := hv6.trans ((if_neg h7))
      subst e9
      exact hJv6
    · refine ev_iload dX12_nameAt_33 4 rfl ?_
      refine ev_goto 39 dX12_nameAt_35 (by decide) ?_
      have e9 : v6 = v2 := hv6.trans ((if_pos h7))
      subst e9
      exact hJv6
def fX12_nameAt (from0 : Int) (many : Int) (μ : Mem) : Option (Int) :=
  (loopN (fun s => fX12_nameAt_b5 from0 many s.1 s.2 μ) FU ((-1), 0)).bind fun q8 =>
  some (q8)
set_option maxRecDepth 4000 in
theorem eX12_nameAt (hS : Sd M K P L) (hc : CIn P 75 84) (from0 : Int) (many : Int) (μ : Mem)  {o : Int} (hf : fX12_nameAt from0 many μ = some o) (hr : (fun o : Int => Φ (some (vi o)) M x (L μ)) o) : Ev l D cy g K yX12_nameAt cX12_nameAt 5 (some .int) (rmd 1 0 0) (MX D cy g K (rmd 1 0 0) Φ) 0 0 M x (L μ) 0 [(0, vr g 75), (1, vi from0), (2, vi many)] [] := by
  unfold fX12_nameAt at hf
  refine ev_iconst dX12_nameAt_0 ?_
  refine ev_istore_n (al2 := [(3, vi (-1)), (0, vr g 75), (1, vi from0), (2, vi many)]) dX12_nameAt_1 3 rfl (by decide) rfl ?_
  refine ev_iconst dX12_nameAt_2 ?_
  refine ev_istore (al2 := [(4, vi 0), (3, vi (-1)), (0, vr g 75), (1, vi from0), (2, vi many)]) dX12_nameAt_3 (by decide) rfl ?_
  obtain ⟨q8, hq8, hf⟩ := Option.bind_eq_some_iff.mp hf
  refine ev_sub [2, 3, 4, 1, 0] rfl ?_
  refine loop_ev (H := (fun s : Int × Int => Ev l D cy g K yX12_nameAt cX12_nameAt 5 (some .int) (rmd 1 0 0) (MX D cy g K (rmd 1 0 0) Φ) 0 0 M x (L μ) 5 [(0, vr g 75), (1, vi from0), (2, vi many), (3, vi s.1), (4, vi s.2)] [])) (Hx := (fun e : Int => Ev l D cy g K yX12_nameAt cX12_nameAt 5 (some .int) (rmd 1 0 0) (MX D cy g K (rmd 1 0 0) Φ) 0 0 M x (L μ) 46 [(3, vi e)] [])) (fun s o hb hr => tX12_nameAt_b5 hS hc from0 many s.1 s.2 μ hb hr) FU _ _ hq8 ?_
  show Ev l D cy g K yX12_nameAt cX12_nameAt 5 (some .int) (rmd 1 0 0) (MX D cy g K (rmd 1 0 0) Φ) 0 0 M x (L μ) 46 [(3, vi q8)] []
  refine ev_iload_n dX12_nameAt_46 0 rfl ?_
  obtain rfl := Option.some.inj hf
  exact ev_iret dX12_nameAt_47 rfl ⟨Nat.zero_le _, Nat.zero_le _⟩ hr
theorem tX12_nameAt (hS : Sd M K P L) (hc : CIn P 75 84) (from0 : Int) (many : Int) (μ : Mem) {o : Int} (hf : fX12_nameAt from0 many μ = some o) : Cn l D cy g K K yX12_nameAt cX12_nameAt 5 (some .int) (rmd 1 0 0) [vr g 75, vi from0, vi many] M x (L μ) (PE (some (vi o)) M x (L μ)) :=
 Cn.of (by decide) (Nat.le_of_ble_eq_true rfl) (eX12_nameAt hS hc from0 many μ hf (PE_i _ _ _ _))
def fX12_readCake_b125 (v8 : Int) (v14 : Int) (c18 : Int) (c19 : Int) (v20 : Int) (μ : Mem) : Option ((Int × Mem) ⊕ (Mem)) :=
  if w32 v20 < w32 v8 then
    if w32 (μ 75 8) = 0 then
      gd (0 ≤ w32 ((23 + (3 * v20)) + 1) ∧ w32 ((23 + (3 * v20)) + 1) < 40) <|
      if w32 (μ 81 (w32 ((23 + (3 * v20)) + 1)).toNat) = w32 c19 then
        lt (upd2 μ 75 7 ((μ 75 7) - 1)) fun μ25 =>
        (fX12_wrong 3 μ25).bind fun μ26 =>
        some (.inl ((v20 + 1), μ26))
      else
        some (.inl ((v20 + 1), μ))
    else
      some (.inr μ)
  else
    some (.inr μ)
set_option maxRecDepth 4000 in
theorem tX12_readCake_b125 (hS : Sd M K P L) (hc : CIn P 75 84) (v8 : Int) (v14 : Int) (c18 : Int) (c19 : Int) (v20 : Int) (μ : Mem)  {o : (Int × Mem) ⊕ (Mem)} (hf : fX12_readCake_b125 v8 v14 c18 c19 v20 μ = some o) (hr : (Sum.elim (fun s : Int × Mem => Ev l D cy g K yX12_readCake cX12_readCake 6 none (rmd 4 0 0) (MX D cy g K (rmd 4 0 0) Φ) 0 0 M x (L s.2) 125 [(0, vr g 75), (1, vi v8), (2, vi v14), (3, vi c18), (4, vi c19), (5, vi s.1)] []) (fun e : Mem => Ev l D cy g K yX12_readCake cX12_readCake 6 none (rmd 4 0 0) (MX D cy g K (rmd 4 0 0) Φ) 0 0 M x (L e) 178 [(0, vr g 75), (2, vi v14), (3, vi c18), (4, vi c19)] [])) o) : Ev l D cy g K yX12_readCake cX12_readCake 6 none (rmd 4 0 0) (MX D cy g K (rmd 4 0 0) Φ) 0 0 M x (L μ) 125 [(0, vr g 75), (1, vi v8), (2, vi v14), (3, vi c18), (4, vi c19), (5, vi v20)] [] := by
  unfold fX12_readCake_b125 at hf
  refine ev_iload dX12_readCake_125 5 rfl ?_
  refine ev_iload_n dX12_readCake_127 1 rfl ?_
  refine ev_icmp_ge 178 dX12_readCake_128 (by decide) (fun h21 => ?_) (fun h21 => ?_)
  · rw [if_neg h21] at hf
    obtain rfl := Option.some.inj hf
    refine ev_sub [0, 2, 3, 4] rfl ?_
    exact hr
  · rw [if_pos h21] at hf
    refine ev_aload_n dX12_readCake_131 0 rfl ?_
    refine ev_getI 8 dX12_readCake_132 (hS.lt (hc 75 rfl)) rfl (hS.mem _ (hc 75 rfl)) ciX12 (by decide) rfl flX12_152 ?_
    refine ev_if_ne 178 dX12_readCake_135 (by decide) (fun h22 => ?_) (fun h22 => ?_)
    · rw [if_neg h22] at hf
      obtain rfl := Option.some.inj hf
      refine ev_sub [0, 2, 3, 4] rfl ?_
      exact hr
    · rw [if_pos h22] at hf
      refine ev_aload_n dX12_readCake_138 0 rfl ?_
      refine ev_getK 10 dX12_readCake_139 (hS.lt (hc 75 rfl)) rfl (hS.K1 (hc 75 rfl) rfl) ciX12 (by decide) rfl flX12_73 ?_
      refine ev_bipush dX12_readCake_142 (by decide) ?_
      refine ev_iconst dX12_readCake_144 ?_
      refine ev_iload dX12_readCake_145 5 rfl ?_
      refine ev_imul dX12_readCake_147 ?_
      refine ev_iadd dX12_readCake_148 ?_
      refine ev_iconst dX12_readCake_149 ?_
      refine ev_iadd dX12_readCake_150 ?_
      obtain ⟨g23, hf⟩ := gd_elim hf
      refine ev_iald dX12_readCake_151 (hS.lt (hc 81 rfl)) rfl (hS.mem _ (hc 81 rfl)) g23 ?_
      refine ev_iload dX12_readCake_152 4 rfl ?_
      refine ev_icmp_ne 172 dX12_readCake_154 (by decide) (fun h24 => ?_) (fun h24 => ?_)
      · rw [if_neg h24] at hf
        refine ev_iinc (al2 := [(5, vi (v20 + 1)), (0, vr g 75), (1, vi v8), (2, vi v14), (3, vi c18), (4, vi c19)]) dX12_readCake_172 5 rfl (by decide) rfl ?_
        refine ev_goto 125 dX12_readCake_175 (by decide) ?_
        obtain rfl := Option.some.inj hf
        refine ev_sub [1, 2, 3, 4, 5, 0] rfl ?_
        exact hr
      · rw [if_pos h24] at hf
        refine ev_aload_n dX12_readCake_157 0 rfl ?_
        refine ev_dup dX12_readCake_158 rfl ?_
        refine ev_getI 7 dX12_readCake_159 (hS.lt (hc 75 rfl)) rfl (hS.mem _ (hc 75 rfl)) ciX12 (by decide) rfl flX12_149 ?_
        refine ev_iconst dX12_readCake_162 ?_
        refine ev_isub dX12_readCake_163 ?_
        obtain ⟨μ25, hμ25, hf⟩ := lt_elim hf
        refine ev_putI 7 dX12_readCake_164 (hS.lt (hc 75 rfl)) rfl ciX12 (by decide) (Or.inl rfl) rfl rfl flX12_149 (hS.up (hc 75 rfl) hμ25) ?_
        refine ev_aload_n dX12_readCake_167 0 rfl ?_
        refine ev_iconst dX12_readCake_168 ?_
        obtain ⟨μ26, hμ26, hf⟩ := Option.bind_eq_some_iff.mp hf
        refine cl_V0 (As := [vi 3]) (st := []) miX12_wrong (tX12_wrong hS (hc.w rfl rfl) 3 μ25 hμ26) dX12_readCake_169 lkX12_158 inX12_wrong rfl (hS.lt (hc 75 rfl)) rfl ⟨rfl, rfl⟩ ⟨⟨Nat.le_of_ble_eq_true rfl, Nat.le_of_ble_eq_true rfl⟩, Nat.zero_le _, Nat.zero_le _⟩ (Nat.le_of_ble_eq_true rfl) ?_
        refine ev_iinc (al2 := [(5, vi (v20 + 1)), (0, vr g 75), (1, vi v8), (2, vi v14), (3, vi c18), (4, vi c19)]) dX12_readCake_172 5 rfl (by decide) rfl ?_
        refine ev_goto 125 dX12_readCake_175 (by decide) ?_
        obtain rfl := Option.some.inj hf
        refine ev_sub [1, 2, 3, 4, 5, 0] rfl ?_
        exact hr
def fX12_readCake_j178 (v28 : Int) (v29 : Int) (v30 : Int) (μ : Mem) : Option (Mem) :=
  (fX12_takeOne 2 2 μ).bind fun q31 =>
  if w32 (q31.2 75 8) = 0 then
    gd (0 ≤ w32 v28 ∧ w32 v28 < 40) <|
    lt (upd2 q31.2 81 ((w32 v28).toNat) v29) fun μ34 =>
    gd (0 ≤ w32 (v28 + 1) ∧ w32 (v28 + 1) < 40) <|
    lt (upd2 μ34 81 ((w32 (v28 + 1)).toNat) v30) fun μ36 =>
    lt (if w32 q31.1 = 0 then
        true
      else
        false) fun v37 =>
    gd (0 ≤ w32 (v28 + 2) ∧ w32 (v28 + 2) < 40) <|
    lt (upd2 μ36 81 ((w32 (v28 + 2)).toNat) (b2i v37)) fun μ40 =>
    lt (upd2 μ40 81 20 ((μ40 81 20) + 1)) fun μ41 =>
    some (μ41)
  else
    some (q31.2)
set_option maxRecDepth 4000 in
theorem tX12_readCake_j178 (hS : Sd M K P L) (hc : CIn P 75 84) (v28 : Int) (v29 : Int) (v30 : Int) (μ : Mem)  {o : Mem} (hf : fX12_readCake_j178 v28 v29 v30 μ = some o) (hr : (fun o : Mem => Φ none M x (L o)) o) : Ev l D cy g K yX12_readCake cX12_readCake 6 none (rmd 4 0 0) (MX D cy g K (rmd 4 0 0) Φ) 0 0 M x (L μ) 178 [(0, vr g 75), (2, vi v28), (3, vi v29), (4, vi v30)] [] := by
  unfold fX12_readCake_j178 at hf
  refine ev_aload_n dX12_readCake_178 0 rfl ?_
  refine ev_iconst dX12_readCake_179 ?_
  refine ev_iconst dX12_readCake_180 ?_
  obtain ⟨q31, hq31, hf⟩ := Option.bind_eq_some_iff.mp hf
  refine cl_V1 (As := [vi 2, vi 2]) (st := []) miX12_takeOne (tX12_takeOne hS (hc.w rfl rfl) 2 2 μ hq31) dX12_readCake_181 lkX12_193 inX12_takeOne rfl (hS.lt (hc 75 rfl)) rfl ⟨rfl, rfl⟩ ⟨⟨Nat.le_of_ble_eq_true rfl, Nat.le_of_ble_eq_true rfl⟩, Nat.zero_le _, Nat.zero_le _⟩ (Nat.le_of_ble_eq_true rfl) ?_
  refine ev_istore (al2 := [(5, vi q31.1), (0, vr g 75), (2, vi v28), (3, vi v29), (4, vi v30)]) dX12_readCake_184 (by decide) rfl ?_
  refine ev_aload_n dX12_readCake_186 1 rfl ?_
  refine ev_getI 8 dX12_readCake_187 (hS.lt (hc 75 rfl)) rfl (hS.mem _ (hc 75 rfl)) ciX12 (by decide) rfl flX12_152 ?_
  refine ev_if_ne 239 dX12_readCake_190 (by decide) (fun h32 => ?_) (fun h32 => ?_)
  · rw [if_neg h32] at hf
    obtain rfl := Option.some.inj hf
    exact ev_vret dX12_readCake_239 rfl ⟨Nat.zero_le _, Nat.zero_le _⟩ hr
  · rw [if_pos h32] at hf
    refine ev_aload_n dX12_readCake_193 1 rfl ?_
    refine ev_getK 10 dX12_readCake_194 (hS.lt (hc 75 rfl)) rfl (hS.K1 (hc 75 rfl) rfl) ciX12 (by decide) rfl flX12_73 ?_
    refine ev_iload_n dX12_readCake_197 2 rfl ?_
    refine ev_iload_n dX12_readCake_198 3 rfl ?_
    obtain ⟨g33, hf⟩ := gd_elim hf
    obtain ⟨μ34, hμ34, hf⟩ := lt_elim hf
    refine ev_iast dX12_readCake_199 (hS.lt (hc 81 rfl)) rfl g33 (hS.up (hc 81 rfl) hμ34) ?_
    refine ev_aload_n dX12_readCake_200 1 rfl ?_
    refine ev_getK 10 dX12_readCake_201 (hS.lt (hc 75 rfl)) rfl (hS.K1 (hc 75 rfl) rfl) ciX12 (by decide) rfl flX12_73 ?_
    refine ev_iload_n dX12_readCake_204 2 rfl ?_
    refine ev_iconst dX12_readCake_205 ?_
    refine ev_iadd dX12_readCake_206 ?_
    refine ev_iload dX12_readCake_207 4 rfl ?_
    obtain ⟨g35, hf⟩ := gd_elim hf
    obtain ⟨μ36, hμ36, hf⟩ := lt_elim hf
    refine ev_iast dX12_readCake_209 (hS.lt (hc 81 rfl)) rfl g35 (hS.up (hc 81 rfl) hμ36) ?_
    refine ev_aload_n dX12_readCake_210 1 rfl ?_
    refine ev_getK 10 dX12_readCake_211 (hS.lt (hc 75 rfl)) rfl (hS.K1 (hc 75 rfl) rfl) ciX12 (by decide) rfl flX12_73 ?_
    refine ev_iload_n dX12_readCake_214 2 rfl ?_
    refine ev_iconst dX12_readCake_215 ?_
    refine ev_iadd dX12_readCake_216 ?_
    refine ev_iload dX12_readCake_217 0 rfl ?_
    obtain ⟨v37, hv37, hf⟩ := lt_elim hf
    have hJv37 : Ev l D cy g K yX12_readCake cX12_readCake 6 none (rmd 4 0 0) (MX D cy g K (rmd 4 0 0) Φ) 0 0 M x (L μ36) 227 [(5, vi q31.1), (0, vr g 75), (2, vi v28), (3, vi v29), (4, vi v30)] [vb v37, vi (v28 + 2), vr g 81] := by
      obtain ⟨g39, hf⟩ := gd_elim hf
      obtain ⟨μ40, hμ40, hf⟩ := lt_elim hf
      refine ev_iast dX12_readCake_227 (hS.lt (hc 81 rfl)) rfl g39 (hS.up (hc 81 rfl) hμ40) ?_
      refine ev_aload_n dX12_readCake_228 1 rfl ?_
      refine ev_getK 10 dX12_readCake_229 (hS.lt (hc 75 rfl)) rfl (hS.K1 (hc 75 rfl) rfl) ciX12 (by decide) rfl flX12_73 ?_
      refine ev_bipush dX12_readCake_232 (by decide) ?_
      refine ev_dup2 dX12_readCake_234 rfl rfl ?_
      refine ev_iald dX12_readCake_235 (hS.lt (hc 81 rfl)) rfl (hS.mem _ (hc 81 rfl)) ⟨by decide, by decide⟩ ?_
      refine ev_rn (w := vi (μ40 81 20)) (by rw [show (w32 20).toNat = 20 from by decide]) ?_
      refine ev_iconst dX12_readCake_236 ?_
      refine ev_iadd dX12_readCake_237 ?_
      obtain ⟨μ41, hμ41, hf⟩ := lt_elim hf
      refine ev_iast (N2 := L μ41) dX12_readCake_238 (hS.lt (hc 81 rfl)) rfl ⟨by decide, by decide⟩ (by rw [show (w32 20).toNat = 20 from by decide]; exact hS.up (hc 81 rfl) hμ41) ?_
      obtain rfl := Option.some.inj hf
      exact ev_vret dX12_readCake_239 rfl ⟨Nat.zero_le _, Nat.zero_le _⟩ hr
    refine ev_if_ne 226 dX12_readCake_219 (by decide) (fun h38 => ?_) (fun h38 => ?_)
    · refine ev_iconst dX12_readCake_226 ?_
      have e9 : v37 = false := hv37.trans ((if_neg h38))
      subst e9
      exact hJv37
    · refine ev_iconst dX12_readCake_222 ?_
      refine ev_goto 227 dX12_readCake_223 (by decide) ?_
      have e9 : v37 = true := hv37.trans ((if_pos h38))
      subst e9
      exact hJv37
def fX12_readCake_j58 (v8 : Int) (μ : Mem) : Option (Mem) :=
  if w32 (μ 75 8) ≤ 0 then
    gd (0 ≤ w32 (μ 75 7) ∧ w32 (μ 75 7) < 1002) <|
    gd (0 ≤ w32 (5 + v8) ∧ w32 (5 + v8) < 10) <|
    lt (upd2 μ 83 ((w32 (5 + v8)).toNat) (μ 79 (w32 (μ 75 7)).toNat)) fun μ12 =>
    lt (upd2 μ12 75 7 ((μ12 75 7) + 1)) fun μ13 =>
    lt (23 + (3 * v8)) fun v14 =>
    (fX12_takeOne 7 4 μ13).bind fun q15 =>
    (fX12_takeWord 1 q15.2).bind fun μ16 =>
    (fX12_takeNumber 1 30 μ16).bind fun q17 =>
    (loopN (fun s => fX12_readCake_b125 v8 v14 q15.1 q17.1 s.1 s.2) FU (0, q17.2)).bind fun q27 =>
    fX12_readCake_j178 v14 q15.1 q17.1 q27
  else
    some (μ)
set_option maxRecDepth 4000 in
theorem tX12_readCake_j58 (hS : Sd M K P L) (hc : CIn P 75 84) (v8 : Int) (μ : Mem)  {o : Mem} (hf : fX12_readCake_j58 v8 μ = some o) (hr : (fun o : Mem => Φ none M x (L o)) o) : Ev l D cy g K yX12_readCake cX12_readCake 6 none (rmd 4 0 0) (MX D cy g K (rmd 4 0 0) Φ) 0 0 M x (L μ) 58 [(0, vr g 75), (1, vi v8)] [] := by
  unfold fX12_readCake_j58 at hf
  refine ev_aload_n dX12_readCake_58 0 rfl ?_
  refine ev_getI 8 dX12_readCake_59 (hS.lt (hc 75 rfl)) rfl (hS.mem _ (hc 75 rfl)) ciX12 (by decide) rfl flX12_152 ?_
  refine ev_if_le 66 dX12_readCake_62 (by decide) (fun h9 => ?_) (fun h9 => ?_)
  · rw [if_pos h9] at hf
    refine ev_aload_n dX12_readCake_66 0 rfl ?_
    refine ev_getK 13 dX12_readCake_67 (hS.lt (hc 75 rfl)) rfl (hS.K1 (hc 75 rfl) rfl) ciX12 (by decide) rfl flX12_79 ?_
    refine ev_iconst dX12_readCake_70 ?_
    refine ev_iload_n dX12_readCake_71 1 rfl ?_
    refine ev_iadd dX12_readCake_72 ?_
    refine ev_aload_n dX12_readCake_73 0 rfl ?_
    refine ev_getK 6 dX12_readCake_74 (hS.lt (hc 75 rfl)) rfl (hS.K1 (hc 75 rfl) rfl) ciX12 (by decide) rfl flX12_30 ?_
    refine ev_aload_n dX12_readCake_77 0 rfl ?_
    refine ev_getI 7 dX12_readCake_78 (hS.lt (hc 75 rfl)) rfl (hS.mem _ (hc 75 rfl)) ciX12 (by decide) rfl flX12_149 ?_
    obtain ⟨g10, hf⟩ := gd_elim hf
    refine ev_lald dX12_readCake_81 (hS.lt (hc 79 rfl)) rfl (hS.mem _ (hc 79 rfl)) g10 ?_
    obtain ⟨g11, hf⟩ := gd_elim hf
    obtain ⟨μ12, hμ12, hf⟩ := lt_elim hf
    refine ev_last dX12_readCake_82 (hS.lt (hc 83 rfl)) rfl g11 (hS.up (hc 83 rfl) hμ12) ?_
    refine ev_aload_n dX12_readCake_83 0 rfl ?_
    refine ev_dup dX12_readCake_84 rfl ?_
    refine ev_getI 7 dX12_readCake_85 (hS.lt (hc 75 rfl)) rfl (hS.mem _ (hc 75 rfl)) ciX12 (by decide) rfl flX12_149 ?_
    refine ev_iconst dX12_readCake_88 ?_
    refine ev_iadd dX12_readCake_89 ?_
    obtain ⟨μ13, hμ13, hf⟩ := lt_elim hf
    refine ev_putI 7 dX12_readCake_90 (hS.lt (hc 75 rfl)) rfl ciX12 (by decide) (Or.inl rfl) rfl rfl flX12_149 (hS.up (hc 75 rfl) hμ13) ?_
    refine ev_bipush dX12_readCake_93 (by decide) ?_
    refine ev_iconst dX12_readCake_95 ?_
    refine ev_iload_n dX12_readCake_96 1 rfl ?_
    refine ev_imul dX12_readCake_97 ?_
    refine ev_iadd dX12_readCake_98 ?_
    obtain ⟨v14, hv14, hf⟩ := lt_elim hf
    refine ev_rni hv14 ?_
    refine ev_istore_n (al2 := [(2, vi v14), (0, vr g 75), (1, vi v8)]) dX12_readCake_99 2 rfl (by decide) rfl ?_
    refine ev_aload_n dX12_readCake_100 1 rfl ?_
    refine ev_bipush dX12_readCake_101 (by decide) ?_
    refine ev_iconst dX12_readCake_103 ?_
    obtain ⟨q15, hq15, hf⟩ := Option.bind_eq_some_iff.mp hf
    refine cl_V1 (As := [vi 7, vi 4]) (st := []) miX12_takeOne (tX12_takeOne hS (hc.w rfl rfl) 7 4 μ13 hq15) dX12_readCake_104 lkX12_193 inX12_takeOne rfl (hS.lt (hc 75 rfl)) rfl ⟨rfl, rfl⟩ ⟨⟨Nat.le_of_ble_eq_true rfl, Nat.le_of_ble_eq_true rfl⟩, Nat.zero_le _, Nat.zero_le _⟩ (Nat.le_of_ble_eq_true rfl) ?_
    refine ev_istore_n (al2 := [(3, vi q15.1), (2, vi v14), (0, vr g 75), (1, vi v8)]) dX12_readCake_107 3 rfl (by decide) rfl ?_
    refine ev_aload_n dX12_readCake_108 2 rfl ?_
    refine ev_iconst dX12_readCake_109 ?_
    obtain ⟨μ16, hμ16, hf⟩ := Option.bind_eq_some_iff.mp hf
    refine cl_V0 (As := [vi 1]) (st := []) miX12_takeWord (tX12_takeWord hS (hc.w rfl rfl) 1 q15.2 hμ16) dX12_readCake_110 lkX12_196 inX12_takeWord rfl (hS.lt (hc 75 rfl)) rfl ⟨rfl, rfl⟩ ⟨⟨Nat.le_of_ble_eq_true rfl, Nat.le_of_ble_eq_true rfl⟩, Nat.zero_le _, Nat.zero_le _⟩ (Nat.le_of_ble_eq_true rfl) ?_
    refine ev_aload_n dX12_readCake_113 2 rfl ?_
    refine ev_iconst dX12_readCake_114 ?_
    refine ev_bipush dX12_readCake_115 (by decide) ?_
    obtain ⟨q17, hq17, hf⟩ := Option.bind_eq_some_iff.mp hf
    refine cl_V1 (As := [vi 1, vi 30]) (st := []) miX12_takeNumber (tX12_takeNumber hS (hc.w rfl rfl) 1 30 μ16 hq17) dX12_readCake_117 lkX12_199 inX12_takeNumber rfl (hS.lt (hc 75 rfl)) rfl ⟨rfl, rfl⟩ ⟨⟨Nat.le_of_ble_eq_true rfl, Nat.le_of_ble_eq_true rfl⟩, Nat.zero_le _, Nat.zero_le _⟩ (Nat.le_of_ble_eq_true rfl) ?_
    refine ev_istore (al2 := [(4, vi q17.1), (3, vi q15.1), (2, vi v14), (0, vr g 75), (1, vi v8)]) dX12_readCake_120 (by decide) rfl ?_
    refine ev_iconst dX12_readCake_122 ?_
    refine ev_istore (al2 := [(5, vi 0), (4, vi q17.1), (3, vi q15.1), (2, vi v14), (0, vr g 75), (1, vi v8)]) dX12_readCake_123 (by decide) rfl ?_
    obtain ⟨q27, hq27, hf⟩ := Option.bind_eq_some_iff.mp hf
    refine ev_sub [4, 5, 3, 2, 1, 0] rfl ?_
    refine loop_ev (H := (fun s : Int × Mem => Ev l D cy g K yX12_readCake cX12_readCake 6 none (rmd 4 0 0) (MX D cy g K (rmd 4 0 0) Φ) 0 0 M x (L s.2) 125 [(0, vr g 75), (1, vi v8), (2, vi v14), (3, vi q15.1), (4, vi q17.1), (5, vi s.1)] [])) (Hx := (fun e : Mem => Ev l D cy g K yX12_readCake cX12_readCake 6 none (rmd 4 0 0) (MX D cy g K (rmd 4 0 0) Φ) 0 0 M x (L e) 178 [(0, vr g 75), (2, vi v14), (3, vi q15.1), (4, vi q17.1)] [])) (fun s o hb hr => tX12_readCake_b125 hS hc v8 v14 q15.1 q17.1 s.1 s.2 hb hr) FU _ _ hq27 ?_
    show Ev l D cy g K yX12_readCake cX12_readCake 6 none (rmd 4 0 0) (MX D cy g K (rmd 4 0 0) Φ) 0 0 M x (L q27) 178 [(0, vr g 75), (2, vi v14), (3, vi q15.1), (4, vi q17.1)] []
    refine ev_sub [0, 1, 2, 3] rfl ?_
    exact tX12_readCake_j178 hS hc v14 q15.1 q17.1 q27 hf hr
  · rw [if_neg h9] at hf
    obtain rfl := Option.some.inj hf
    exact ev_vret dX12_readCake_65 rfl ⟨Nat.zero_le _, Nat.zero_le _⟩ hr
def fX12_readCake  (μ : Mem) : Option (Mem) :=
  lt (μ 81 20) fun v1 =>
  if w32 v1 = w32 5 then
    (fX12_wrong 5 μ).bind fun μ46 =>
    some (μ46)
  else
    lt (upd2 μ 75 7 ((μ 75 7) + 1)) fun μ3 =>
    (fX12_isName μ3).bind fun v4 =>
    if v4 = true then
      (fX12_nameAt 5 v1 μ3).bind fun v6 =>
      if w32 v6 < 0 then
        fX12_readCake_j58 v1 μ3
      else
        (fX12_wrong 3 μ3).bind fun μ42 =>
        fX12_readCake_j58 v1 μ42
    else
      (fX12_wrong 1 μ3).bind fun μ44 =>
      fX12_readCake_j58 v1 μ44
set_option maxRecDepth 4000 in
theorem eX12_readCake (hS : Sd M K P L) (hc : CIn P 75 84)  (μ : Mem)  {o : Mem} (hf : fX12_readCake  μ = some o) (hr : (fun o : Mem => Φ none M x (L o)) o) : Ev l D cy g K yX12_readCake cX12_readCake 6 none (rmd 4 0 0) (MX D cy g K (rmd 4 0 0) Φ) 0 0 M x (L μ) 0 [(0, vr g 75)] [] := by
  unfold fX12_readCake at hf
  refine ev_aload_n dX12_readCake_0 0 rfl ?_
  refine ev_getK 10 dX12_readCake_1 (hS.lt (hc 75 rfl)) rfl (hS.K1 (hc 75 rfl) rfl) ciX12 (by decide) rfl flX12_73 ?_
  refine ev_bipush dX12_readCake_4 (by decide) ?_
  refine ev_iald dX12_readCake_6 (hS.lt (hc 81 rfl)) rfl (hS.mem _ (hc 81 rfl)) ⟨by decide, by decide⟩ ?_
  refine ev_rn (w := vi (μ 81 20)) (by rw [show (w32 20).toNat = 20 from by decide]) ?_
  obtain ⟨v1, hv1, hf⟩ := lt_elim hf
  refine ev_rni hv1 ?_
  refine ev_istore_n (al2 := [(1, vi v1), (0, vr g 75)]) dX12_readCake_7 1 rfl (by decide) rfl ?_
  refine ev_iload_n dX12_readCake_8 0 rfl ?_
  refine ev_iconst dX12_readCake_9 ?_
  refine ev_icmp_ne 19 dX12_readCake_10 (by decide) (fun h2 => ?_) (fun h2 => ?_)
  · rw [if_neg h2] at hf
    refine ev_aload_n dX12_readCake_19 1 rfl ?_
    refine ev_dup dX12_readCake_20 rfl ?_
    refine ev_getI 7 dX12_readCake_21 (hS.lt (hc 75 rfl)) rfl (hS.mem _ (hc 75 rfl)) ciX12 (by decide) rfl flX12_149 ?_
    refine ev_iconst dX12_readCake_24 ?_
    refine ev_iadd dX12_readCake_25 ?_
    obtain ⟨μ3, hμ3, hf⟩ := lt_elim hf
    refine ev_putI 7 dX12_readCake_26 (hS.lt (hc 75 rfl)) rfl ciX12 (by decide) (Or.inl rfl) rfl rfl flX12_149 (hS.up (hc 75 rfl) hμ3) ?_
    refine ev_aload_n dX12_readCake_29 1 rfl ?_
    obtain ⟨v4, hv4, hf⟩ := Option.bind_eq_some_iff.mp hf
    refine cl_V1 (As := []) (st := []) miX12_isName (tX12_isName hS (hc.w rfl rfl) μ3 hv4) dX12_readCake_30 lkX12_186 inX12_isName rfl (hS.lt (hc 75 rfl)) rfl ⟨rfl, rfl⟩ ⟨⟨Nat.le_of_ble_eq_true rfl, Nat.le_of_ble_eq_true rfl⟩, Nat.zero_le _, Nat.zero_le _⟩ (Nat.le_of_ble_eq_true rfl) ?_
    refine ev_ifb_ne 44 dX12_readCake_33 (by decide) (fun h5 => ?_) (fun h5 => ?_)
    · rw [if_pos h5] at hf
      refine ev_aload_n dX12_readCake_44 1 rfl ?_
      refine ev_iconst dX12_readCake_45 ?_
      refine ev_iload_n dX12_readCake_46 0 rfl ?_
      obtain ⟨v6, hv6, hf⟩ := Option.bind_eq_some_iff.mp hf
      refine cl_V1 (As := [vi 5, vi v1]) (st := []) miX12_nameAt (tX12_nameAt hS (hc.w rfl rfl) 5 v1 μ3 hv6) dX12_readCake_47 lkX12_190 inX12_nameAt rfl (hS.lt (hc 75 rfl)) rfl ⟨rfl, rfl⟩ ⟨⟨Nat.le_of_ble_eq_true rfl, Nat.le_of_ble_eq_true rfl⟩, Nat.zero_le _, Nat.zero_le _⟩ (Nat.le_of_ble_eq_true rfl) ?_
      refine ev_if_lt 58 dX12_readCake_50 (by decide) (fun h7 => ?_) (fun h7 => ?_)
      · rw [if_pos h7] at hf
        refine ev_sub [1, 0] rfl ?_
        exact tX12_readCake_j58 hS hc v1 μ3 hf hr
      · rw [if_neg h7] at hf
        refine ev_aload_n dX12_readCake_53 1 rfl ?_
        refine ev_iconst dX12_readCake_54 ?_
        obtain ⟨μ42, hμ42, hf⟩ := Option.bind_eq_some_iff.mp hf
        refine cl_V0 (As := [vi 3]) (st := []) miX12_wrong (tX12_wrong hS (hc.w rfl rfl) 3 μ3 hμ42) dX12_readCake_55 lkX12_158 inX12_wrong rfl (hS.lt (hc 75 rfl)) rfl ⟨rfl, rfl⟩ ⟨⟨Nat.le_of_ble_eq_true rfl, Nat.le_of_ble_eq_true rfl⟩, Nat.zero_le _, Nat.zero_le _⟩ (Nat.le_of_ble_eq_true rfl) ?_
        refine ev_sub [1, 0] rfl ?_
        exact tX12_readCake_j58 hS hc v1 μ42 hf hr
    · rw [if_neg h5] at hf
      refine ev_aload_n dX12_readCake_36 1 rfl ?_
      refine ev_iconst dX12_readCake_37 ?_
      obtain ⟨μ44, hμ44, hf⟩ := Option.bind_eq_some_iff.mp hf
      refine cl_V0 (As := [vi 1]) (st := []) miX12_wrong (tX12_wrong hS (hc.w rfl rfl) 1 μ3 hμ44) dX12_readCake_38 lkX12_158 inX12_wrong rfl (hS.lt (hc 75 rfl)) rfl ⟨rfl, rfl⟩ ⟨⟨Nat.le_of_ble_eq_true rfl, Nat.le_of_ble_eq_true rfl⟩, Nat.zero_le _, Nat.zero_le _⟩ (Nat.le_of_ble_eq_true rfl) ?_
      refine ev_goto 58 dX12_readCake_41 (by decide) ?_
      refine ev_sub [1, 0] rfl ?_
      exact tX12_readCake_j58 hS hc v1 μ44 hf hr
  · rw [if_pos h2] at hf
    refine ev_aload_n dX12_readCake_13 1 rfl ?_
    refine ev_iconst dX12_readCake_14 ?_
    obtain ⟨μ46, hμ46, hf⟩ := Option.bind_eq_some_iff.mp hf
    refine cl_V0 (As := [vi 5]) (st := []) miX12_wrong (tX12_wrong hS (hc.w rfl rfl) 5 μ hμ46) dX12_readCake_15 lkX12_158 inX12_wrong rfl (hS.lt (hc 75 rfl)) rfl ⟨rfl, rfl⟩ ⟨⟨Nat.le_of_ble_eq_true rfl, Nat.le_of_ble_eq_true rfl⟩, Nat.zero_le _, Nat.zero_le _⟩ (Nat.le_of_ble_eq_true rfl) ?_
    obtain rfl := Option.some.inj hf
    exact ev_vret dX12_readCake_18 rfl ⟨Nat.zero_le _, Nat.zero_le _⟩ hr
theorem tX12_readCake (hS : Sd M K P L) (hc : CIn P 75 84) (μ : Mem) {o : Mem} (hf : fX12_readCake μ = some o) : Cn l D cy g K K yX12_readCake cX12_readCake 6 none (rmd 4 0 0) [vr g 75] M x (L μ) (PE none M x (L o)) :=
 Cn.of (by decide) (Nat.le_of_ble_eq_true rfl) (eX12_readCake hS hc μ hf (PE_i _ _ _ _))
def fX12_emit (c0 : Int) (a0 : Int) (μ : Mem) : Option (Mem) :=
  gd (0 ≤ w32 (1100 + (μ 75 12)) ∧ w32 (1100 + (μ 75 12)) < 2200) <|
  lt (upd2 μ 82 ((w32 (1100 + (μ 75 12))).toNat) (c0 + (16 * a0))) fun μ2 =>
  lt (upd2 μ2 75 12 ((μ2 75 12) + 1)) fun μ3 =>
  some (μ3)
set_option maxRecDepth 4000 in
theorem eX12_emit (hS : Sd M K P L) (hc : CIn P 75 83) (c0 : Int) (a0 : Int) (μ : Mem)  {o : Mem} (hf : fX12_emit c0 a0 μ = some o) (hr : (fun o : Mem => Φ none M x (L o)) o) : Ev l D cy g K yX12_emit cX12_emit 3 none (rmd 1 0 0) (MX D cy g K (rmd 1 0 0) Φ) 0 0 M x (L μ) 0 [(0, vr g 75), (1, vi c0), (2, vi a0)] [] := by
  unfold fX12_emit at hf
  refine ev_aload_n dX12_emit_0 0 rfl ?_
  refine ev_getK 11 dX12_emit_1 (hS.lt (hc 75 rfl)) rfl (hS.K1 (hc 75 rfl) rfl) ciX12 (by decide) rfl flX12_76 ?_
  refine ev_sipush dX12_emit_4 (by decide) ?_
  refine ev_aload_n dX12_emit_7 0 rfl ?_
  refine ev_getI 12 dX12_emit_8 (hS.lt (hc 75 rfl)) rfl (hS.mem _ (hc 75 rfl)) ciX12 (by decide) rfl flX12_174 ?_
  refine ev_iadd dX12_emit_11 ?_
  refine ev_iload_n dX12_emit_12 1 rfl ?_
  refine ev_bipush dX12_emit_13 (by decide) ?_
  refine ev_iload_n dX12_emit_15 2 rfl ?_
  refine ev_imul dX12_emit_16 ?_
  refine ev_iadd dX12_emit_17 ?_
  obtain ⟨g1, hf⟩ := gd_elim hf
  obtain ⟨μ2, hμ2, hf⟩ := lt_elim hf
  refine ev_iast dX12_emit_18 (hS.lt (hc 82 rfl)) rfl g1 (hS.up (hc 82 rfl) hμ2) ?_
  refine ev_aload_n dX12_emit_19 0 rfl ?_
  refine ev_dup dX12_emit_20 rfl ?_
  refine ev_getI 12 dX12_emit_21 (hS.lt (hc 75 rfl)) rfl (hS.mem _ (hc 75 rfl)) ciX12 (by decide) rfl flX12_174 ?_
  refine ev_iconst dX12_emit_24 ?_
  refine ev_iadd dX12_emit_25 ?_
  obtain ⟨μ3, hμ3, hf⟩ := lt_elim hf
  refine ev_putI 12 dX12_emit_26 (hS.lt (hc 75 rfl)) rfl ciX12 (by decide) (Or.inl rfl) rfl rfl flX12_174 (hS.up (hc 75 rfl) hμ3) ?_
  obtain rfl := Option.some.inj hf
  exact ev_vret dX12_emit_29 rfl ⟨Nat.zero_le _, Nat.zero_le _⟩ hr
theorem tX12_emit (hS : Sd M K P L) (hc : CIn P 75 83) (c0 : Int) (a0 : Int) (μ : Mem) {o : Mem} (hf : fX12_emit c0 a0 μ = some o) : Cn l D cy g K K yX12_emit cX12_emit 3 none (rmd 1 0 0) [vr g 75, vi c0, vi a0] M x (L μ) (PE none M x (L o)) :=
 Cn.of (by decide) (Nat.le_of_ble_eq_true rfl) (eX12_emit hS hc c0 a0 μ hf (PE_i _ _ _ _))
def fX12_products_b5 (rp : Int → Mem → Option Mem) (depth : Int) (μ : Mem) : Option ((Mem) ⊕ (Mem)) :=
  (fX12_hasSign 42 μ).bind fun q2 =>
  if q2.1 = true then
    (rp depth q2.2).bind fun μ4 =>
    (fX12_emit 6 0 μ4).bind fun μ5 =>
    some (.inl μ5)
  else
    some (.inr q2.2)
set_option maxRecDepth 4000 in
theorem tX12_products_b5 (hS : Sd M K P L) (hc : CIn P 75 83) (dp : Nat) (hdp : 10 ≤ dp) (rp : Int → Mem → Option Mem) (hrp : ∀ (depth : Int) (μ : Mem) (o : Mem), rp depth μ = some o → Cn l D cy g K K yX12_takePart cX12_takePart 4 none (rmd dp 0 0) [vr g 75, vi depth] M x (L μ) (PE none M x (L o))) (depth : Int) (μ : Mem)  {o : (Mem) ⊕ (Mem)} (hf : fX12_products_b5 rp depth μ = some o) (hr : (Sum.elim (fun s : Mem => Ev l D cy g K yX12_products cX12_products 2 none (rmd (dp + 1) 0 0) (MX D cy g K (rmd (dp + 1) 0 0) Φ) 0 0 M x (L s) 5 [(0, vr g 75), (1, vi depth)] []) (fun e : Mem => Ev l D cy g K yX12_products cX12_products 2 none (rmd (dp + 1) 0 0) (MX D cy g K (rmd (dp + 1) 0 0) Φ) 0 0 M x (L e) 29 [] [])) o) : Ev l D cy g K yX12_products cX12_products 2 none (rmd (dp + 1) 0 0) (MX D cy g K (rmd (dp + 1) 0 0) Φ) 0 0 M x (L μ) 5 [(0, vr g 75), (1, vi depth)] [] := by
  unfold fX12_products_b5 at hf
  refine ev_aload_n dX12_products_5 0 rfl ?_
  refine ev_bipush dX12_products_6 (by decide) ?_
  obtain ⟨q2, hq2, hf⟩ := Option.bind_eq_some_iff.mp hf
  refine cl_V1 (As := [vi 42]) (st := []) miX12_hasSign (tX12_hasSign hS (hc.w rfl rfl) 42 μ hq2) dX12_products_8 lkX12_223 inX12_hasSign rfl (hS.lt (hc 75 rfl)) rfl ⟨rfl, rfl⟩ ⟨⟨by simp only [rmd]; omega, by simp only [rmd]; omega⟩, Nat.zero_le _, Nat.zero_le _⟩ (Nat.le_of_ble_eq_true rfl) ?_
  refine ev_ifb_eq 29 dX12_products_11 (by decide) (fun h3 => ?_) (fun h3 => ?_)
  · rw [if_neg h3] at hf
    obtain rfl := Option.some.inj hf
    refine ev_sub [] rfl ?_
    exact hr
  · rw [if_pos h3] at hf
    refine ev_aload_n dX12_products_14 0 rfl ?_
    refine ev_iload_n dX12_products_15 1 rfl ?_
    obtain ⟨μ4, hμ4, hf⟩ := Option.bind_eq_some_iff.mp hf
    refine cl_V0 (As := [vi depth]) (st := []) miX12_takePart (hrp depth q2.2 _ hμ4) dX12_products_16 lkX12_229 inX12_takePart rfl (hS.lt (hc 75 rfl)) rfl ⟨rfl, rfl⟩ ⟨⟨by simp only [rmd]; omega, by simp only [rmd]; omega⟩, Nat.zero_le _, Nat.zero_le _⟩ (Nat.le_of_ble_eq_true rfl) ?_
    refine ev_aload_n dX12_products_19 0 rfl ?_
    refine ev_bipush dX12_products_20 (by decide) ?_
    refine ev_iconst dX12_products_22 ?_
    obtain ⟨μ5, hμ5, hf⟩ := Option.bind_eq_some_iff.mp hf
    refine cl_V0 (As := [vi 6, vi 0]) (st := []) miX12_emit (tX12_emit hS (hc.w rfl rfl) 6 0 μ4 hμ5) dX12_products_23 lkX12_205 inX12_emit rfl (hS.lt (hc 75 rfl)) rfl ⟨rfl, rfl⟩ ⟨⟨by simp only [rmd]; omega, by simp only [rmd]; omega⟩, Nat.zero_le _, Nat.zero_le _⟩ (Nat.le_of_ble_eq_true rfl) ?_
    refine ev_goto 5 dX12_products_26 (by decide) ?_
    obtain rfl := Option.some.inj hf
    refine ev_sub [0, 1] rfl ?_
    exact hr
def fX12_products (rp : Int → Mem → Option Mem) (depth : Int) (μ : Mem) : Option (Mem) :=
  (rp depth μ).bind fun μ1 =>
  (loopN (fun s => fX12_products_b5 rp depth s) FU μ1).bind fun q6 =>
  some (q6)
set_option maxRecDepth 4000 in
theorem eX12_products (hS : Sd M K P L) (hc : CIn P 75 83) (dp : Nat) (hdp : 10 ≤ dp) (rp : Int → Mem → Option Mem) (hrp : ∀ (depth : Int) (μ : Mem) (o : Mem), rp depth μ = some o → Cn l D cy g K K yX12_takePart cX12_takePart 4 none (rmd dp 0 0) [vr g 75, vi depth] M x (L μ) (PE none M x (L o))) (depth : Int) (μ : Mem)  {o : Mem} (hf : fX12_products rp depth μ = some o) (hr : (fun o : Mem => Φ none M x (L o)) o) : Ev l D cy g K yX12_products cX12_products 2 none (rmd (dp + 1) 0 0) (MX D cy g K (rmd (dp + 1) 0 0) Φ) 0 0 M x (L μ) 0 [(0, vr g 75), (1, vi depth)] [] := by
  unfold fX12_products at hf
  refine ev_aload_n dX12_products_0 0 rfl ?_
  refine ev_iload_n dX12_products_1 1 rfl ?_
  obtain ⟨μ1, hμ1, hf⟩ := Option.bind_eq_some_iff.mp hf
  refine cl_V0 (As := [vi depth]) (st := []) miX12_takePart (hrp depth μ _ hμ1) dX12_products_2 lkX12_229 inX12_takePart rfl (hS.lt (hc 75 rfl)) rfl ⟨rfl, rfl⟩ ⟨⟨by simp only [rmd]; omega, by simp only [rmd]; omega⟩, Nat.zero_le _, Nat.zero_le _⟩ (Nat.le_of_ble_eq_true rfl) ?_
  obtain ⟨q6, hq6, hf⟩ := Option.bind_eq_some_iff.mp hf
  refine ev_sub [0, 1] rfl ?_
  refine loop_ev (H := (fun s : Mem => Ev l D cy g K yX12_products cX12_products 2 none (rmd (dp + 1) 0 0) (MX D cy g K (rmd (dp + 1) 0 0) Φ) 0 0 M x (L s) 5 [(0, vr g 75), (1, vi depth)] [])) (Hx := (fun e : Mem => Ev l D cy g K yX12_products cX12_products 2 none (rmd (dp + 1) 0 0) (MX D cy g K (rmd (dp + 1) 0 0) Φ) 0 0 M x (L e) 29 [] [])) (fun s o hb hr => tX12_products_b5 hS hc dp hdp rp hrp depth s hb hr) FU _ _ hq6 ?_
  show Ev l D cy g K yX12_products cX12_products 2 none (rmd (dp + 1) 0 0) (MX D cy g K (rmd (dp + 1) 0 0) Φ) 0 0 M x (L q6) 29 [] []
  obtain rfl := Option.some.inj hf
  exact ev_vret dX12_products_29 rfl ⟨Nat.zero_le _, Nat.zero_le _⟩ hr
theorem tX12_products (hS : Sd M K P L) (hc : CIn P 75 83) (dp : Nat) (hdp : 10 ≤ dp) (rp : Int → Mem → Option Mem) (hrp : ∀ (depth : Int) (μ : Mem) (o : Mem), rp depth μ = some o → Cn l D cy g K K yX12_takePart cX12_takePart 4 none (rmd dp 0 0) [vr g 75, vi depth] M x (L μ) (PE none M x (L o))) (depth : Int) (μ : Mem) {o : Mem} (hf : fX12_products rp depth μ = some o) : Cn l D cy g K K yX12_products cX12_products 2 none (rmd (dp + 1) 0 0) [vr g 75, vi depth] M x (L μ) (PE none M x (L o)) :=
 Cn.of (by decide) (Nat.le_of_ble_eq_true rfl) (eX12_products hS hc dp hdp rp hrp depth μ hf (PE_i _ _ _ _))
def fX12_sums_j23 (rp : Int → Mem → Option Mem) (depth : Int) (μ : Mem) : Option ((Mem) ⊕ (Mem)) :=
  (fX12_isSign 43 μ).bind fun v4 =>
  lt (upd2 μ 75 7 ((μ 75 7) + 1)) fun μ5 =>
  (fX12_products rp depth μ5).bind fun μ6 =>
  lt (if v4 = true then
      4
    else
      5) fun v7 =>
  (fX12_emit v7 0 μ6).bind fun μ9 =>
  some (.inl μ9)
set_option maxRecDepth 4000 in
theorem tX12_sums_j23 (hS : Sd M K P L) (hc : CIn P 75 83) (dp : Nat) (hdp : 10 ≤ dp) (rp : Int → Mem → Option Mem) (hrp : ∀ (depth : Int) (μ : Mem) (o : Mem), rp depth μ = some o → Cn l D cy g K K yX12_takePart cX12_takePart 4 none (rmd dp 0 0) [vr g 75, vi depth] M x (L μ) (PE none M x (L o))) (depth : Int) (μ : Mem)  {o : (Mem) ⊕ (Mem)} (hf : fX12_sums_j23 rp depth μ = some o) (hr : (Sum.elim (fun s : Mem => Ev l D cy g K yX12_sums cX12_sums 3 none (rmd (dp + 2) 0 0) (MX D cy g K (rmd (dp + 2) 0 0) Φ) 0 0 M x (L s) 5 [(0, vr g 75), (1, vi depth)] []) (fun e : Mem => Ev l D cy g K yX12_sums cX12_sums 3 none (rmd (dp + 2) 0 0) (MX D cy g K (rmd (dp + 2) 0 0) Φ) 0 0 M x (L e) 62 [] [])) o) : Ev l D cy g K yX12_sums cX12_sums 3 none (rmd (dp + 2) 0 0) (MX D cy g K (rmd (dp + 2) 0 0) Φ) 0 0 M x (L μ) 23 [(0, vr g 75), (1, vi depth)] [] := by
  unfold fX12_sums_j23 at hf
  refine ev_aload_n dX12_sums_23 0 rfl ?_
  refine ev_bipush dX12_sums_24 (by decide) ?_
  obtain ⟨v4, hv4, hf⟩ := Option.bind_eq_some_iff.mp hf
  refine cl_V1 (As := [vi 43]) (st := []) miX12_isSign (tX12_isSign hS (hc.w rfl rfl) 43 μ hv4) dX12_sums_26 lkX12_155 inX12_isSign rfl (hS.lt (hc 75 rfl)) rfl ⟨rfl, rfl⟩ ⟨⟨by simp only [rmd]; omega, by simp only [rmd]; omega⟩, Nat.zero_le _, Nat.zero_le _⟩ (Nat.le_of_ble_eq_true rfl) ?_
  refine ev_istore_n (al2 := [(2, vb v4), (0, vr g 75), (1, vi depth)]) dX12_sums_29 2 rfl (by decide) rfl ?_
  refine ev_aload_n dX12_sums_30 1 rfl ?_
  refine ev_dup dX12_sums_31 rfl ?_
  refine ev_getI 7 dX12_sums_32 (hS.lt (hc 75 rfl)) rfl (hS.mem _ (hc 75 rfl)) ciX12 (by decide) rfl flX12_149 ?_
  refine ev_iconst dX12_sums_35 ?_
  refine ev_iadd dX12_sums_36 ?_
  obtain ⟨μ5, hμ5, hf⟩ := lt_elim hf
  refine ev_putI 7 dX12_sums_37 (hS.lt (hc 75 rfl)) rfl ciX12 (by decide) (Or.inl rfl) rfl rfl flX12_149 (hS.up (hc 75 rfl) hμ5) ?_
  refine ev_aload_n dX12_sums_40 1 rfl ?_
  refine ev_iload_n dX12_sums_41 2 rfl ?_
  obtain ⟨μ6, hμ6, hf⟩ := Option.bind_eq_some_iff.mp hf
  refine cl_V0 (As := [vi depth]) (st := []) miX12_products (tX12_products hS (hc.w rfl rfl) dp hdp rp hrp depth μ5 hμ6) dX12_sums_42 lkX12_226 inX12_products rfl (hS.lt (hc 75 rfl)) rfl ⟨rfl, rfl⟩ ⟨⟨by simp only [rmd]; omega, by simp only [rmd]; omega⟩, Nat.zero_le _, Nat.zero_le _⟩ (Nat.le_of_ble_eq_true rfl) ?_
  refine ev_aload_n dX12_sums_45 1 rfl ?_
  refine ev_iload_n dX12_sums_46 0 rfl ?_
  obtain ⟨v7, hv7, hf⟩ := lt_elim hf
  have hJv7 : Ev l D cy g K yX12_sums cX12_sums 3 none (rmd (dp + 2) 0 0) (MX D cy g K (rmd (dp + 2) 0 0) Φ) 0 0 M x (L μ6) 55 [(2, vb v4), (0, vr g 75), (1, vi depth)] [vi v7, vr g 75] := by
    refine ev_iconst dX12_sums_55 ?_
    obtain ⟨μ9, hμ9, hf⟩ := Option.bind_eq_some_iff.mp hf
    refine cl_V0 (As := [vi v7, vi 0]) (st := []) miX12_emit (tX12_emit hS (hc.w rfl rfl) v7 0 μ6 hμ9) dX12_sums_56 lkX12_205 inX12_emit rfl (hS.lt (hc 75 rfl)) rfl ⟨rfl, rfl⟩ ⟨⟨by simp only [rmd]; omega, by simp only [rmd]; omega⟩, Nat.zero_le _, Nat.zero_le _⟩ (Nat.le_of_ble_eq_true rfl) ?_
    refine ev_goto 5 dX12_sums_59 (by decide) ?_
    obtain rfl := Option.some.inj hf
    refine ev_sub [1, 2] rfl ?_
    exact hr
  refine ev_ifb_eq 54 dX12_sums_47 (by decide) (fun h8 => ?_) (fun h8 => ?_)
  · refine ev_iconst dX12_sums_54 ?_
    have e9 : v7 = 5 := hv7.trans ((if_neg h8))
    subst e9
    exact hJv7
  · refine ev_iconst dX12_sums_50 ?_
    refine ev_goto 55 dX12_sums_51 (by decide) ?_
    have e9 : v7 = 4 := hv7.trans ((if_pos h8))
    subst e9
    exact hJv7
def fX12_sums_b5 (rp : Int → Mem → Option Mem) (depth : Int) (μ : Mem) : Option ((Mem) ⊕ (Mem)) :=
  (fX12_isSign 43 μ).bind fun v2 =>
  if v2 = true then
    fX12_sums_j23 rp depth μ
  else
    (fX12_isSign 45 μ).bind fun v10 =>
    if v10 = true then
      fX12_sums_j23 rp depth μ
    else
      some (.inr μ)
set_option maxRecDepth 4000 in
theorem tX12_sums_b5 (hS : Sd M K P L) (hc : CIn P 75 83) (dp : Nat) (hdp : 10 ≤ dp) (rp : Int → Mem → Option Mem) (hrp : ∀ (depth : Int) (μ : Mem) (o : Mem), rp depth μ = some o → Cn l D cy g K K yX12_takePart cX12_takePart 4 none (rmd dp 0 0) [vr g 75, vi depth] M x (L μ) (PE none M x (L o))) (depth : Int) (μ : Mem)  {o : (Mem) ⊕ (Mem)} (hf : fX12_sums_b5 rp depth μ = some o) (hr : (Sum.elim (fun s : Mem => Ev l D cy g K yX12_sums cX12_sums 3 none (rmd (dp + 2) 0 0) (MX D cy g K (rmd (dp + 2) 0 0) Φ) 0 0 M x (L s) 5 [(0, vr g 75), (1, vi depth)] []) (fun e : Mem => Ev l D cy g K yX12_sums cX12_sums 3 none (rmd (dp + 2) 0 0) (MX D cy g K (rmd (dp + 2) 0 0) Φ) 0 0 M x (L e) 62 [] [])) o) : Ev l D cy g K yX12_sums cX12_sums 3 none (rmd (dp + 2) 0 0) (MX D cy g K (rmd (dp + 2) 0 0) Φ) 0 0 M x (L μ) 5 [(0, vr g 75), (1, vi depth)] [] := by
  unfold fX12_sums_b5 at hf
  refine ev_aload_n dX12_sums_5 0 rfl ?_
  refine ev_bipush dX12_sums_6 (by decide) ?_
  obtain ⟨v2, hv2, hf⟩ := Option.bind_eq_some_iff.mp hf
  refine cl_V1 (As := [vi 43]) (st := []) miX12_isSign (tX12_isSign hS (hc.w rfl rfl) 43 μ hv2) dX12_sums_8 lkX12_155 inX12_isSign rfl (hS.lt (hc 75 rfl)) rfl ⟨rfl, rfl⟩ ⟨⟨by simp only [rmd]; omega, by simp only [rmd]; omega⟩, Nat.zero_le _, Nat.zero_le _⟩ (Nat.le_of_ble_eq_true rfl) ?_
  refine ev_ifb_ne 23 dX12_sums_11 (by decide) (fun h3 => ?_) (fun h3 => ?_)
  · rw [if_pos h3] at hf
    refine ev_sub [0, 1] rfl ?_
    exact tX12_sums_j23 hS hc dp hdp rp hrp depth μ hf hr
  · rw [if_neg h3] at hf
    refine ev_aload_n dX12_sums_14 0 rfl ?_
    refine ev_bipush dX12_sums_15 (by decide) ?_
    obtain ⟨v10, hv10, hf⟩ := Option.bind_eq_some_iff.mp hf
    refine cl_V1 (As := [vi 45]) (st := []) miX12_isSign (tX12_isSign hS (hc.w rfl rfl) 45 μ hv10) dX12_sums_17 lkX12_155 inX12_isSign rfl (hS.lt (hc 75 rfl)) rfl ⟨rfl, rfl⟩ ⟨⟨by simp only [rmd]; omega, by simp only [rmd]; omega⟩, Nat.zero_le _, Nat.zero_le _⟩ (Nat.le_of_ble_eq_true rfl) ?_
    refine ev_ifb_eq 62 dX12_sums_20 (by decide) (fun h11 => ?_) (fun h11 => ?_)
    · rw [if_neg h11] at hf
      obtain rfl := Option.some.inj hf
      refine ev_sub [] rfl ?_
      exact hr
    · rw [if_pos h11] at hf
      refine ev_sub [0, 1] rfl ?_
      exact tX12_sums_j23 hS hc dp hdp rp hrp depth μ hf hr
def fX12_sums (rp : Int → Mem → Option Mem) (depth : Int) (μ : Mem) : Option (Mem) :=
  (fX12_products rp depth μ).bind fun μ1 =>
  (loopN (fun s => fX12_sums_b5 rp depth s) FU μ1).bind fun q12 =>
  some (q12)
set_option maxRecDepth 4000 in
theorem eX12_sums (hS : Sd M K P L) (hc : CIn P 75 83) (dp : Nat) (hdp : 10 ≤ dp) (rp : Int → Mem → Option Mem) (hrp : ∀ (depth : Int) (μ : Mem) (o : Mem), rp depth μ = some o → Cn l D cy g K K yX12_takePart cX12_takePart 4 none (rmd dp 0 0) [vr g 75, vi depth] M x (L μ) (PE none M x (L o))) (depth : Int) (μ : Mem)  {o : Mem} (hf : fX12_sums rp depth μ = some o) (hr : (fun o : Mem => Φ none M x (L o)) o) : Ev l D cy g K yX12_sums cX12_sums 3 none (rmd (dp + 2) 0 0) (MX D cy g K (rmd (dp + 2) 0 0) Φ) 0 0 M x (L μ) 0 [(0, vr g 75), (1, vi depth)] [] := by
  unfold fX12_sums at hf
  refine ev_aload_n dX12_sums_0 0 rfl ?_
  refine ev_iload_n dX12_sums_1 1 rfl ?_
  obtain ⟨μ1, hμ1, hf⟩ := Option.bind_eq_some_iff.mp hf
  refine cl_V0 (As := [vi depth]) (st := []) miX12_products (tX12_products hS (hc.w rfl rfl) dp hdp rp hrp depth μ hμ1) dX12_sums_2 lkX12_226 inX12_products rfl (hS.lt (hc 75 rfl)) rfl ⟨rfl, rfl⟩ ⟨⟨by simp only [rmd]; omega, by simp only [rmd]; omega⟩, Nat.zero_le _, Nat.zero_le _⟩ (Nat.le_of_ble_eq_true rfl) ?_
  obtain ⟨q12, hq12, hf⟩ := Option.bind_eq_some_iff.mp hf
  refine ev_sub [0, 1] rfl ?_
  refine loop_ev (H := (fun s : Mem => Ev l D cy g K yX12_sums cX12_sums 3 none (rmd (dp + 2) 0 0) (MX D cy g K (rmd (dp + 2) 0 0) Φ) 0 0 M x (L s) 5 [(0, vr g 75), (1, vi depth)] [])) (Hx := (fun e : Mem => Ev l D cy g K yX12_sums cX12_sums 3 none (rmd (dp + 2) 0 0) (MX D cy g K (rmd (dp + 2) 0 0) Φ) 0 0 M x (L e) 62 [] [])) (fun s o hb hr => tX12_sums_b5 hS hc dp hdp rp hrp depth s hb hr) FU _ _ hq12 ?_
  show Ev l D cy g K yX12_sums cX12_sums 3 none (rmd (dp + 2) 0 0) (MX D cy g K (rmd (dp + 2) 0 0) Φ) 0 0 M x (L q12) 62 [] []
  obtain rfl := Option.some.inj hf
  exact ev_vret dX12_sums_62 rfl ⟨Nat.zero_le _, Nat.zero_le _⟩ hr
theorem tX12_sums (hS : Sd M K P L) (hc : CIn P 75 83) (dp : Nat) (hdp : 10 ≤ dp) (rp : Int → Mem → Option Mem) (hrp : ∀ (depth : Int) (μ : Mem) (o : Mem), rp depth μ = some o → Cn l D cy g K K yX12_takePart cX12_takePart 4 none (rmd dp 0 0) [vr g 75, vi depth] M x (L μ) (PE none M x (L o))) (depth : Int) (μ : Mem) {o : Mem} (hf : fX12_sums rp depth μ = some o) : Cn l D cy g K K yX12_sums cX12_sums 3 none (rmd (dp + 2) 0 0) [vr g 75, vi depth] M x (L μ) (PE none M x (L o)) :=
 Cn.of (by decide) (Nat.le_of_ble_eq_true rfl) (eX12_sums hS hc dp hdp rp hrp depth μ hf (PE_i _ _ _ _))
def fX12_test_j30 (rp : Int → Mem → Option Mem) (depth : Int) (v5 : Bool) (μ : Mem) : Option (Mem) :=
  (fX12_sums rp depth μ).bind fun μ6 =>
  lt (if v5 = true then
      7
    else
      8) fun v7 =>
  (fX12_emit v7 0 μ6).bind fun μ9 =>
  some (μ9)
set_option maxRecDepth 4000 in
theorem tX12_test_j30 (hS : Sd M K P L) (hc : CIn P 75 83) (dp : Nat) (hdp : 10 ≤ dp) (rp : Int → Mem → Option Mem) (hrp : ∀ (depth : Int) (μ : Mem) (o : Mem), rp depth μ = some o → Cn l D cy g K K yX12_takePart cX12_takePart 4 none (rmd dp 0 0) [vr g 75, vi depth] M x (L μ) (PE none M x (L o))) (depth : Int) (v5 : Bool) (μ : Mem)  {o : Mem} (hf : fX12_test_j30 rp depth v5 μ = some o) (hr : (fun o : Mem => Φ none M x (L o)) o) : Ev l D cy g K yX12_test cX12_test 3 none (rmd (dp + 3) 0 0) (MX D cy g K (rmd (dp + 3) 0 0) Φ) 0 0 M x (L μ) 30 [(0, vr g 75), (1, vi depth), (2, vb v5)] [] := by
  unfold fX12_test_j30 at hf
  refine ev_aload_n dX12_test_30 0 rfl ?_
  refine ev_iload_n dX12_test_31 1 rfl ?_
  obtain ⟨μ6, hμ6, hf⟩ := Option.bind_eq_some_iff.mp hf
  refine cl_V0 (As := [vi depth]) (st := []) miX12_sums (tX12_sums hS (hc.w rfl rfl) dp hdp rp hrp depth μ hμ6) dX12_test_32 lkX12_220 inX12_sums rfl (hS.lt (hc 75 rfl)) rfl ⟨rfl, rfl⟩ ⟨⟨by simp only [rmd]; omega, by simp only [rmd]; omega⟩, Nat.zero_le _, Nat.zero_le _⟩ (Nat.le_of_ble_eq_true rfl) ?_
  refine ev_aload_n dX12_test_35 0 rfl ?_
  refine ev_iload_n dX12_test_36 2 rfl ?_
  obtain ⟨v7, hv7, hf⟩ := lt_elim hf
  have hJv7 : Ev l D cy g K yX12_test cX12_test 3 none (rmd (dp + 3) 0 0) (MX D cy g K (rmd (dp + 3) 0 0) Φ) 0 0 M x (L μ6) 47 [(0, vr g 75), (1, vi depth), (2, vb v5)] [vi v7, vr g 75] := by
    refine ev_iconst dX12_test_47 ?_
    obtain ⟨μ9, hμ9, hf⟩ := Option.bind_eq_some_iff.mp hf
    refine cl_V0 (As := [vi v7, vi 0]) (st := []) miX12_emit (tX12_emit hS (hc.w rfl rfl) v7 0 μ6 hμ9) dX12_test_48 lkX12_205 inX12_emit rfl (hS.lt (hc 75 rfl)) rfl ⟨rfl, rfl⟩ ⟨⟨by simp only [rmd]; omega, by simp only [rmd]; omega⟩, Nat.zero_le _, Nat.zero_le _⟩ (Nat.le_of_ble_eq_true rfl) ?_
    obtain rfl := Option.some.inj hf
    exact ev_vret dX12_test_51 rfl ⟨Nat.zero_le _, Nat.zero_le _⟩ hr
  refine ev_ifb_eq 45 dX12_test_37 (by decide) (fun h8 => ?_) (fun h8 => ?_)
  · refine ev_bipush dX12_test_45 (by decide) ?_
    have e9 : v7 = 8 := hv7.trans ((if_neg h8))
    subst e9
    exact hJv7
  · refine ev_bipush dX12_test_40 (by decide) ?_
    refine ev_goto 47 dX12_test_42 (by decide) ?_
    have e9 : v7 = 7 := hv7.trans ((if_pos h8))
    subst e9
    exact hJv7
def fX12_test (rp : Int → Mem → Option Mem) (depth : Int) (μ : Mem) : Option (Mem) :=
  (fX12_sums rp depth μ).bind fun μ1 =>
  (fX12_isSign 60 μ1).bind fun v2 =>
  (fX12_hasSign 60 μ1).bind fun q3 =>
  if q3.1 = true then
    fX12_test_j30 rp depth v2 q3.2
  else
    (fX12_hasSign 61 q3.2).bind fun q10 =>
    if q10.1 = true then
      fX12_test_j30 rp depth v2 q10.2
    else
      some (q10.2)
set_option maxRecDepth 4000 in
theorem eX12_test (hS : Sd M K P L) (hc : CIn P 75 83) (dp : Nat) (hdp : 10 ≤ dp) (rp : Int → Mem → Option Mem) (hrp : ∀ (depth : Int) (μ : Mem) (o : Mem), rp depth μ = some o → Cn l D cy g K K yX12_takePart cX12_takePart 4 none (rmd dp 0 0) [vr g 75, vi depth] M x (L μ) (PE none M x (L o))) (depth : Int) (μ : Mem)  {o : Mem} (hf : fX12_test rp depth μ = some o) (hr : (fun o : Mem => Φ none M x (L o)) o) : Ev l D cy g K yX12_test cX12_test 3 none (rmd (dp + 3) 0 0) (MX D cy g K (rmd (dp + 3) 0 0) Φ) 0 0 M x (L μ) 0 [(0, vr g 75), (1, vi depth)] [] := by
  unfold fX12_test at hf
  refine ev_aload_n dX12_test_0 0 rfl ?_
  refine ev_iload_n dX12_test_1 1 rfl ?_
  obtain ⟨μ1, hμ1, hf⟩ := Option.bind_eq_some_iff.mp hf
  refine cl_V0 (As := [vi depth]) (st := []) miX12_sums (tX12_sums hS (hc.w rfl rfl) dp hdp rp hrp depth μ hμ1) dX12_test_2 lkX12_220 inX12_sums rfl (hS.lt (hc 75 rfl)) rfl ⟨rfl, rfl⟩ ⟨⟨by simp only [rmd]; omega, by simp only [rmd]; omega⟩, Nat.zero_le _, Nat.zero_le _⟩ (Nat.le_of_ble_eq_true rfl) ?_
  refine ev_aload_n dX12_test_5 0 rfl ?_
  refine ev_bipush dX12_test_6 (by decide) ?_
  obtain ⟨v2, hv2, hf⟩ := Option.bind_eq_some_iff.mp hf
  refine cl_V1 (As := [vi 60]) (st := []) miX12_isSign (tX12_isSign hS (hc.w rfl rfl) 60 μ1 hv2) dX12_test_8 lkX12_155 inX12_isSign rfl (hS.lt (hc 75 rfl)) rfl ⟨rfl, rfl⟩ ⟨⟨by simp only [rmd]; omega, by simp only [rmd]; omega⟩, Nat.zero_le _, Nat.zero_le _⟩ (Nat.le_of_ble_eq_true rfl) ?_
  refine ev_istore_n (al2 := [(2, vb v2), (0, vr g 75), (1, vi depth)]) dX12_test_11 2 rfl (by decide) rfl ?_
  refine ev_aload_n dX12_test_12 1 rfl ?_
  refine ev_bipush dX12_test_13 (by decide) ?_
  obtain ⟨q3, hq3, hf⟩ := Option.bind_eq_some_iff.mp hf
  refine cl_V1 (As := [vi 60]) (st := []) miX12_hasSign (tX12_hasSign hS (hc.w rfl rfl) 60 μ1 hq3) dX12_test_15 lkX12_223 inX12_hasSign rfl (hS.lt (hc 75 rfl)) rfl ⟨rfl, rfl⟩ ⟨⟨by simp only [rmd]; omega, by simp only [rmd]; omega⟩, Nat.zero_le _, Nat.zero_le _⟩ (Nat.le_of_ble_eq_true rfl) ?_
  refine ev_ifb_ne 30 dX12_test_18 (by decide) (fun h4 => ?_) (fun h4 => ?_)
  · rw [if_pos h4] at hf
    refine ev_sub [1, 2, 0] rfl ?_
    exact tX12_test_j30 hS hc dp hdp rp hrp depth v2 q3.2 hf hr
  · rw [if_neg h4] at hf
    refine ev_aload_n dX12_test_21 1 rfl ?_
    refine ev_bipush dX12_test_22 (by decide) ?_
    obtain ⟨q10, hq10, hf⟩ := Option.bind_eq_some_iff.mp hf
    refine cl_V1 (As := [vi 61]) (st := []) miX12_hasSign (tX12_hasSign hS (hc.w rfl rfl) 61 q3.2 hq10) dX12_test_24 lkX12_223 inX12_hasSign rfl (hS.lt (hc 75 rfl)) rfl ⟨rfl, rfl⟩ ⟨⟨by simp only [rmd]; omega, by simp only [rmd]; omega⟩, Nat.zero_le _, Nat.zero_le _⟩ (Nat.le_of_ble_eq_true rfl) ?_
    refine ev_ifb_eq 51 dX12_test_27 (by decide) (fun h11 => ?_) (fun h11 => ?_)
    · rw [if_neg h11] at hf
      obtain rfl := Option.some.inj hf
      exact ev_vret dX12_test_51 rfl ⟨Nat.zero_le _, Nat.zero_le _⟩ hr
    · rw [if_pos h11] at hf
      refine ev_sub [1, 2, 0] rfl ?_
      exact tX12_test_j30 hS hc dp hdp rp hrp depth v2 q10.2 hf hr
theorem tX12_test (hS : Sd M K P L) (hc : CIn P 75 83) (dp : Nat) (hdp : 10 ≤ dp) (rp : Int → Mem → Option Mem) (hrp : ∀ (depth : Int) (μ : Mem) (o : Mem), rp depth μ = some o → Cn l D cy g K K yX12_takePart cX12_takePart 4 none (rmd dp 0 0) [vr g 75, vi depth] M x (L μ) (PE none M x (L o))) (depth : Int) (μ : Mem) {o : Mem} (hf : fX12_test rp depth μ = some o) : Cn l D cy g K K yX12_test cX12_test 3 none (rmd (dp + 3) 0 0) [vr g 75, vi depth] M x (L μ) (PE none M x (L o)) :=
 Cn.of (by decide) (Nat.le_of_ble_eq_true rfl) (eX12_test hS hc dp hdp rp hrp depth μ hf (PE_i _ _ _ _))
def fX12_whole_j23 (rp : Int → Mem → Option Mem) (depth : Int) (μ : Mem) : Option ((Mem) ⊕ (Mem)) :=
  (fX12_isWord 12 μ).bind fun v4 =>
  lt (upd2 μ 75 7 ((μ 75 7) + 1)) fun μ5 =>
  (fX12_test rp depth μ5).bind fun μ6 =>
  lt (if v4 = true then
      9
    else
      10) fun v7 =>
  (fX12_emit v7 0 μ6).bind fun μ9 =>
  some (.inl μ9)
set_option maxRecDepth 4000 in
theorem tX12_whole_j23 (hS : Sd M K P L) (hc : CIn P 75 83) (dp : Nat) (hdp : 10 ≤ dp) (rp : Int → Mem → Option Mem) (hrp : ∀ (depth : Int) (μ : Mem) (o : Mem), rp depth μ = some o → Cn l D cy g K K yX12_takePart cX12_takePart 4 none (rmd dp 0 0) [vr g 75, vi depth] M x (L μ) (PE none M x (L o))) (depth : Int) (μ : Mem)  {o : (Mem) ⊕ (Mem)} (hf : fX12_whole_j23 rp depth μ = some o) (hr : (Sum.elim (fun s : Mem => Ev l D cy g K yX12_whole cX12_whole 3 none (rmd (dp + 4) 0 0) (MX D cy g K (rmd (dp + 4) 0 0) Φ) 0 0 M x (L s) 5 [(0, vr g 75), (1, vi depth)] []) (fun e : Mem => Ev l D cy g K yX12_whole cX12_whole 3 none (rmd (dp + 4) 0 0) (MX D cy g K (rmd (dp + 4) 0 0) Φ) 0 0 M x (L e) 64 [] [])) o) : Ev l D cy g K yX12_whole cX12_whole 3 none (rmd (dp + 4) 0 0) (MX D cy g K (rmd (dp + 4) 0 0) Φ) 0 0 M x (L μ) 23 [(0, vr g 75), (1, vi depth)] [] := by
  unfold fX12_whole_j23 at hf
  refine ev_aload_n dX12_whole_23 0 rfl ?_
  refine ev_bipush dX12_whole_24 (by decide) ?_
  obtain ⟨v4, hv4, hf⟩ := Option.bind_eq_some_iff.mp hf
  refine cl_V1 (As := [vi 12]) (st := []) miX12_isWord (tX12_isWord hS (hc.w rfl rfl) 12 μ hv4) dX12_whole_26 lkX12_161 inX12_isWord rfl (hS.lt (hc 75 rfl)) rfl ⟨rfl, rfl⟩ ⟨⟨by simp only [rmd]; omega, by simp only [rmd]; omega⟩, Nat.zero_le _, Nat.zero_le _⟩ (Nat.le_of_ble_eq_true rfl) ?_
  refine ev_istore_n (al2 := [(2, vb v4), (0, vr g 75), (1, vi depth)]) dX12_whole_29 2 rfl (by decide) rfl ?_
  refine ev_aload_n dX12_whole_30 1 rfl ?_
  refine ev_dup dX12_whole_31 rfl ?_
  refine ev_getI 7 dX12_whole_32 (hS.lt (hc 75 rfl)) rfl (hS.mem _ (hc 75 rfl)) ciX12 (by decide) rfl flX12_149 ?_
  refine ev_iconst dX12_whole_35 ?_
  refine ev_iadd dX12_whole_36 ?_
  obtain ⟨μ5, hμ5, hf⟩ := lt_elim hf
  refine ev_putI 7 dX12_whole_37 (hS.lt (hc 75 rfl)) rfl ciX12 (by decide) (Or.inl rfl) rfl rfl flX12_149 (hS.up (hc 75 rfl) hμ5) ?_
  refine ev_aload_n dX12_whole_40 1 rfl ?_
  refine ev_iload_n dX12_whole_41 2 rfl ?_
  obtain ⟨μ6, hμ6, hf⟩ := Option.bind_eq_some_iff.mp hf
  refine cl_V0 (As := [vi depth]) (st := []) miX12_test (tX12_test hS (hc.w rfl rfl) dp hdp rp hrp depth μ5 hμ6) dX12_whole_42 lkX12_217 inX12_test rfl (hS.lt (hc 75 rfl)) rfl ⟨rfl, rfl⟩ ⟨⟨by simp only [rmd]; omega, by simp only [rmd]; omega⟩, Nat.zero_le _, Nat.zero_le _⟩ (Nat.le_of_ble_eq_true rfl) ?_
  refine ev_aload_n dX12_whole_45 1 rfl ?_
  refine ev_iload_n dX12_whole_46 0 rfl ?_
  obtain ⟨v7, hv7, hf⟩ := lt_elim hf
  have hJv7 : Ev l D cy g K yX12_whole cX12_whole 3 none (rmd (dp + 4) 0 0) (MX D cy g K (rmd (dp + 4) 0 0) Φ) 0 0 M x (L μ6) 57 [(2, vb v4), (0, vr g 75), (1, vi depth)] [vi v7, vr g 75] := by
    refine ev_iconst dX12_whole_57 ?_
    obtain ⟨μ9, hμ9, hf⟩ := Option.bind_eq_some_iff.mp hf
    refine cl_V0 (As := [vi v7, vi 0]) (st := []) miX12_emit (tX12_emit hS (hc.w rfl rfl) v7 0 μ6 hμ9) dX12_whole_58 lkX12_205 inX12_emit rfl (hS.lt (hc 75 rfl)) rfl ⟨rfl, rfl⟩ ⟨⟨by simp only [rmd]; omega, by simp only [rmd]; omega⟩, Nat.zero_le _, Nat.zero_le _⟩ (Nat.le_of_ble_eq_true rfl) ?_
    refine ev_goto 5 dX12_whole_61 (by decide) ?_
    obtain rfl := Option.some.inj hf
    refine ev_sub [1, 2] rfl ?_
    exact hr
  refine ev_ifb_eq 55 dX12_whole_47 (by decide) (fun h8 => ?_) (fun h8 => ?_)
  · refine ev_bipush dX12_whole_55 (by decide) ?_
    have e9 : v7 = 10 := hv7.trans ((if_neg h8))
    subst e9
    exact hJv7
  · refine ev_bipush dX12_whole_50 (by decide) ?_
    refine ev_goto 57 dX12_whole_52 (by decide) ?_
    have e9 : v7 = 9 := hv7.trans ((if_pos h8))
    subst e9
    exact hJv7
def fX12_whole_b5 (rp : Int → Mem → Option Mem) (depth : Int) (μ : Mem) : Option ((Mem) ⊕ (Mem)) :=
  (fX12_isWord 12 μ).bind fun v2 =>
  if v2 = true then
    fX12_whole_j23 rp depth μ
  else
    (fX12_isWord 13 μ).bind fun v10 =>
    if v10 = true then
      fX12_whole_j23 rp depth μ
    else
      some (.inr μ)
set_option maxRecDepth 4000 in
theorem tX12_whole_b5 (hS : Sd M K P L) (hc : CIn P 75 83) (dp : Nat) (hdp : 10 ≤ dp) (rp : Int → Mem → Option Mem) (hrp : ∀ (depth : Int) (μ : Mem) (o : Mem), rp depth μ = some o → Cn l D cy g K K yX12_takePart cX12_takePart 4 none (rmd dp 0 0) [vr g 75, vi depth] M x (L μ) (PE none M x (L o))) (depth : Int) (μ : Mem)  {o : (Mem) ⊕ (Mem)} (hf : fX12_whole_b5 rp depth μ = some o) (hr : (Sum.elim (fun s : Mem => Ev l D cy g K yX12_whole cX12_whole 3 none (rmd (dp + 4) 0 0) (MX D cy g K (rmd (dp + 4) 0 0) Φ) 0 0 M x (L s) 5 [(0, vr g 75), (1, vi depth)] []) (fun e : Mem => Ev l D cy g K yX12_whole cX12_whole 3 none (rmd (dp + 4) 0 0) (MX D cy g K (rmd (dp + 4) 0 0) Φ) 0 0 M x (L e) 64 [] [])) o) : Ev l D cy g K yX12_whole cX12_whole 3 none (rmd (dp + 4) 0 0) (MX D cy g K (rmd (dp + 4) 0 0) Φ) 0 0 M x (L μ) 5 [(0, vr g 75), (1, vi depth)] [] := by
  unfold fX12_whole_b5 at hf
  refine ev_aload_n dX12_whole_5 0 rfl ?_
  refine ev_bipush dX12_whole_6 (by decide) ?_
  obtain ⟨v2, hv2, hf⟩ := Option.bind_eq_some_iff.mp hf
  refine cl_V1 (As := [vi 12]) (st := []) miX12_isWord (tX12_isWord hS (hc.w rfl rfl) 12 μ hv2) dX12_whole_8 lkX12_161 inX12_isWord rfl (hS.lt (hc 75 rfl)) rfl ⟨rfl, rfl⟩ ⟨⟨by simp only [rmd]; omega, by simp only [rmd]; omega⟩, Nat.zero_le _, Nat.zero_le _⟩ (Nat.le_of_ble_eq_true rfl) ?_
  refine ev_ifb_ne 23 dX12_whole_11 (by decide) (fun h3 => ?_) (fun h3 => ?_)
  · rw [if_pos h3] at hf
    refine ev_sub [0, 1] rfl ?_
    exact tX12_whole_j23 hS hc dp hdp rp hrp depth μ hf hr
  · rw [if_neg h3] at hf
    refine ev_aload_n dX12_whole_14 0 rfl ?_
    refine ev_bipush dX12_whole_15 (by decide) ?_
    obtain ⟨v10, hv10, hf⟩ := Option.bind_eq_some_iff.mp hf
    refine cl_V1 (As := [vi 13]) (st := []) miX12_isWord (tX12_isWord hS (hc.w rfl rfl) 13 μ hv10) dX12_whole_17 lkX12_161 inX12_isWord rfl (hS.lt (hc 75 rfl)) rfl ⟨rfl, rfl⟩ ⟨⟨by simp only [rmd]; omega, by simp only [rmd]; omega⟩, Nat.zero_le _, Nat.zero_le _⟩ (Nat.le_of_ble_eq_true rfl) ?_
    refine ev_ifb_eq 64 dX12_whole_20 (by decide) (fun h11 => ?_) (fun h11 => ?_)
    · rw [if_neg h11] at hf
      obtain rfl := Option.some.inj hf
      refine ev_sub [] rfl ?_
      exact hr
    · rw [if_pos h11] at hf
      refine ev_sub [0, 1] rfl ?_
      exact tX12_whole_j23 hS hc dp hdp rp hrp depth μ hf hr
def fX12_whole (rp : Int → Mem → Option Mem) (depth : Int) (μ : Mem) : Option (Mem) :=
  (fX12_test rp depth μ).bind fun μ1 =>
  (loopN (fun s => fX12_whole_b5 rp depth s) FU μ1).bind fun q12 =>
  some (q12)
set_option maxRecDepth 4000 in
theorem eX12_whole (hS : Sd M K P L) (hc : CIn P 75 83) (dp : Nat) (hdp : 10 ≤ dp) (rp : Int → Mem → Option Mem) (hrp : ∀ (depth : Int) (μ : Mem) (o : Mem), rp depth μ = some o → Cn l D cy g K K yX12_takePart cX12_takePart 4 none (rmd dp 0 0) [vr g 75, vi depth] M x (L μ) (PE none M x (L o))) (depth : Int) (μ : Mem)  {o : Mem} (hf : fX12_whole rp depth μ = some o) (hr : (fun o : Mem => Φ none M x (L o)) o) : Ev l D cy g K yX12_whole cX12_whole 3 none (rmd (dp + 4) 0 0) (MX D cy g K (rmd (dp + 4) 0 0) Φ) 0 0 M x (L μ) 0 [(0, vr g 75), (1, vi depth)] [] := by
  unfold fX12_whole at hf
  refine ev_aload_n dX12_whole_0 0 rfl ?_
  refine ev_iload_n dX12_whole_1 1 rfl ?_
  obtain ⟨μ1, hμ1, hf⟩ := Option.bind_eq_some_iff.mp hf
  refine cl_V0 (As := [vi depth]) (st := []) miX12_test (tX12_test hS (hc.w rfl rfl) dp hdp rp hrp depth μ hμ1) dX12_whole_2 lkX12_217 inX12_test rfl (hS.lt (hc 75 rfl)) rfl ⟨rfl, rfl⟩ ⟨⟨by simp only [rmd]; omega, by simp only [rmd]; omega⟩, Nat.zero_le _, Nat.zero_le _⟩ (Nat.le_of_ble_eq_true rfl) ?_
  obtain ⟨q12, hq12, hf⟩ := Option.bind_eq_some_iff.mp hf
  refine ev_sub [0, 1] rfl ?_
  refine loop_ev (H := (fun s : Mem => Ev l D cy g K yX12_whole cX12_whole 3 none (rmd (dp + 4) 0 0) (MX D cy g K (rmd (dp + 4) 0 0) Φ) 0 0 M x (L s) 5 [(0, vr g 75), (1, vi depth)] [])) (Hx := (fun e : Mem => Ev l D cy g K yX12_whole cX12_whole 3 none (rmd (dp + 4) 0 0) (MX D cy g K (rmd (dp + 4) 0 0) Φ) 0 0 M x (L e) 64 [] [])) (fun s o hb hr => tX12_whole_b5 hS hc dp hdp rp hrp depth s hb hr) FU _ _ hq12 ?_
  show Ev l D cy g K yX12_whole cX12_whole 3 none (rmd (dp + 4) 0 0) (MX D cy g K (rmd (dp + 4) 0 0) Φ) 0 0 M x (L q12) 64 [] []
  obtain rfl := Option.some.inj hf
  exact ev_vret dX12_whole_64 rfl ⟨Nat.zero_le _, Nat.zero_le _⟩ hr
theorem tX12_whole (hS : Sd M K P L) (hc : CIn P 75 83) (dp : Nat) (hdp : 10 ≤ dp) (rp : Int → Mem → Option Mem) (hrp : ∀ (depth : Int) (μ : Mem) (o : Mem), rp depth μ = some o → Cn l D cy g K K yX12_takePart cX12_takePart 4 none (rmd dp 0 0) [vr g 75, vi depth] M x (L μ) (PE none M x (L o))) (depth : Int) (μ : Mem) {o : Mem} (hf : fX12_whole rp depth μ = some o) : Cn l D cy g K K yX12_whole cX12_whole 3 none (rmd (dp + 4) 0 0) [vr g 75, vi depth] M x (L μ) (PE none M x (L o)) :=
 Cn.of (by decide) (Nat.le_of_ble_eq_true rfl) (eX12_whole hS hc dp hdp rp hrp depth μ hf (PE_i _ _ _ _))
def fX12_takePart_j165 (rp : Int → Mem → Option Mem) (depth : Int) (w20 : Int) (w21 : Int) (μ : Mem) : Option (Mem) :=
  (fX12_emit w21 w20 μ).bind fun μ22 =>
  lt (upd2 μ22 75 7 ((μ22 75 7) + 1)) fun μ23 =>
  some (μ23)
set_option maxRecDepth 4000 in
theorem tX12_takePart_j165 (hS : Sd M K P L) (hc : CIn P 75 83) (dp : Nat) (hdp : 10 ≤ dp) (rp : Int → Mem → Option Mem) (hrp : ∀ (depth : Int) (μ : Mem) (o : Mem), rp depth μ = some o → Cn l D cy g K K yX12_takePart cX12_takePart 4 none (rmd dp 0 0) [vr g 75, vi depth] M x (L μ) (PE none M x (L o))) (depth : Int) (w20 : Int) (w21 : Int) (μ : Mem)  {o : Mem} (hf : fX12_takePart_j165 rp depth w20 w21 μ = some o) (hr : (fun o : Mem => Φ none M x (L o)) o) : Ev l D cy g K yX12_takePart cX12_takePart 4 none (rmd (dp + 5) 0 0) (MX D cy g K (rmd (dp + 5) 0 0) Φ) 0 0 M x (L μ) 165 [(0, vr g 75)] [vi w20, vi w21, vr g 75] := by
  unfold fX12_takePart_j165 at hf
  obtain ⟨μ22, hμ22, hf⟩ := Option.bind_eq_some_iff.mp hf
  refine cl_V0 (As := [vi w21, vi w20]) (st := []) miX12_emit (tX12_emit hS (hc.w rfl rfl) w21 w20 μ hμ22) dX12_takePart_165 lkX12_205 inX12_emit rfl (hS.lt (hc 75 rfl)) rfl ⟨rfl, rfl⟩ ⟨⟨by simp only [rmd]; omega, by simp only [rmd]; omega⟩, Nat.zero_le _, Nat.zero_le _⟩ (Nat.le_of_ble_eq_true rfl) ?_
  refine ev_aload_n dX12_takePart_168 0 rfl ?_
  refine ev_dup dX12_takePart_169 rfl ?_
  refine ev_getI 7 dX12_takePart_170 (hS.lt (hc 75 rfl)) rfl (hS.mem _ (hc 75 rfl)) ciX12 (by decide) rfl flX12_149 ?_
  refine ev_iconst dX12_takePart_173 ?_
  refine ev_iadd dX12_takePart_174 ?_
  obtain ⟨μ23, hμ23, hf⟩ := lt_elim hf
  refine ev_putI 7 dX12_takePart_175 (hS.lt (hc 75 rfl)) rfl ciX12 (by decide) (Or.inl rfl) rfl rfl flX12_149 (hS.up (hc 75 rfl) hμ23) ?_
  obtain rfl := Option.some.inj hf
  exact ev_vret dX12_takePart_178 rfl ⟨Nat.zero_le _, Nat.zero_le _⟩ hr
def fX12_takePart_j79 (rp : Int → Mem → Option Mem) (depth : Int) (v10 : Bool) (v11 : Int) (μ : Mem) : Option (Mem) :=
  if w32 (μ 75 8) ≤ 0 then
    (fX12_hasWord 11 μ).bind fun q13 =>
    if q13.1 = true then
      (rp (depth + 1) q13.2).bind fun μ29 =>
      (fX12_emit 3 0 μ29).bind fun μ30 =>
      some (μ30)
    else
      (fX12_hasSign 40 q13.2).bind fun q15 =>
      if q15.1 = true then
        (fX12_whole rp (depth + 1) q15.2).bind fun μ27 =>
        (fX12_takeSign 41 μ27).bind fun μ28 =>
        some (μ28)
      else
        lt (if v10 = true then
            1
          else
            2) fun v17 =>
        if v10 = true then
          gd (0 ≤ w32 (q15.2 75 7) ∧ w32 (q15.2 75 7) < 1002) <|
          fX12_takePart_j165 rp depth (l_2i (q15.2 79 (w32 (q15.2 75 7)).toNat)) v17 q15.2
        else
          fX12_takePart_j165 rp depth v11 v17 q15.2
  else
    some (μ)
set_option maxRecDepth 4000 in
theorem tX12_takePart_j79 (hS : Sd M K P L) (hc : CIn P 75 83) (dp : Nat) (hdp : 10 ≤ dp) (rp : Int → Mem → Option Mem) (hrp : ∀ (depth : Int) (μ : Mem) (o : Mem), rp depth μ = some o → Cn l D cy g K K yX12_takePart cX12_takePart 4 none (rmd dp 0 0) [vr g 75, vi depth] M x (L μ) (PE none M x (L o))) (depth : Int) (v10 : Bool) (v11 : Int) (μ : Mem)  {o : Mem} (hf : fX12_takePart_j79 rp depth v10 v11 μ = some o) (hr : (fun o : Mem => Φ none M x (L o)) o) : Ev l D cy g K yX12_takePart cX12_takePart 4 none (rmd (dp + 5) 0 0) (MX D cy g K (rmd (dp + 5) 0 0) Φ) 0 0 M x (L μ) 79 [(0, vr g 75), (1, vi depth), (2, vb v10), (3, vi v11)] [] := by
  unfold fX12_takePart_j79 at hf
  refine ev_aload_n dX12_takePart_79 0 rfl ?_
  refine ev_getI 8 dX12_takePart_80 (hS.lt (hc 75 rfl)) rfl (hS.mem _ (hc 75 rfl)) ciX12 (by decide) rfl flX12_152 ?_
  refine ev_if_le 87 dX12_takePart_83 (by decide) (fun h12 => ?_) (fun h12 => ?_)
  · rw [if_pos h12] at hf
    refine ev_aload_n dX12_takePart_87 0 rfl ?_
    refine ev_bipush dX12_takePart_88 (by decide) ?_
    obtain ⟨q13, hq13, hf⟩ := Option.bind_eq_some_iff.mp hf
    refine cl_V1 (As := [vi 11]) (st := []) miX12_hasWord (tX12_hasWord hS (hc.w rfl rfl) 11 μ hq13) dX12_takePart_90 lkX12_164 inX12_hasWord rfl (hS.lt (hc 75 rfl)) rfl ⟨rfl, rfl⟩ ⟨⟨by simp only [rmd]; omega, by simp only [rmd]; omega⟩, Nat.zero_le _, Nat.zero_le _⟩ (Nat.le_of_ble_eq_true rfl) ?_
    refine ev_ifb_eq 112 dX12_takePart_93 (by decide) (fun h14 => ?_) (fun h14 => ?_)
    · rw [if_neg h14] at hf
      refine ev_aload_n dX12_takePart_112 0 rfl ?_
      refine ev_bipush dX12_takePart_113 (by decide) ?_
      obtain ⟨q15, hq15, hf⟩ := Option.bind_eq_some_iff.mp hf
      refine cl_V1 (As := [vi 40]) (st := []) miX12_hasSign (tX12_hasSign hS (hc.w rfl rfl) 40 q13.2 hq15) dX12_takePart_115 lkX12_223 inX12_hasSign rfl (hS.lt (hc 75 rfl)) rfl ⟨rfl, rfl⟩ ⟨⟨by simp only [rmd]; omega, by simp only [rmd]; omega⟩, Nat.zero_le _, Nat.zero_le _⟩ (Nat.le_of_ble_eq_true rfl) ?_
      refine ev_ifb_eq 137 dX12_takePart_118 (by decide) (fun h16 => ?_) (fun h16 => ?_)
      · rw [if_neg h16] at hf
        refine ev_aload_n dX12_takePart_137 0 rfl ?_
        refine ev_iload_n dX12_takePart_138 2 rfl ?_
        obtain ⟨v17, hv17, hf⟩ := lt_elim hf
        have hJv17 : Ev l D cy g K yX12_takePart cX12_takePart 4 none (rmd (dp + 5) 0 0) (MX D cy g K (rmd (dp + 5) 0 0) Φ) 0 0 M x (L q15.2) 147 [(0, vr g 75), (1, vi depth), (2, vb v10), (3, vi v11)] [vi v17, vr g 75] := by
          refine ev_iload_n dX12_takePart_147 2 rfl ?_
          refine ev_ifb_eq 164 dX12_takePart_148 (by decide) (fun h19 => ?_) (fun h19 => ?_)
          · rw [if_neg h19] at hf
            refine ev_iload_n dX12_takePart_164 3 rfl ?_
            refine ev_sub [0] rfl ?_
            exact tX12_takePart_j165 hS hc dp hdp rp hrp depth v11 v17 q15.2 hf hr
          · rw [if_pos h19] at hf
            refine ev_aload_n dX12_takePart_151 0 rfl ?_
            refine ev_getK 6 dX12_takePart_152 (hS.lt (hc 75 rfl)) rfl (hS.K1 (hc 75 rfl) rfl) ciX12 (by decide) rfl flX12_30 ?_
            refine ev_aload_n dX12_takePart_155 0 rfl ?_
            refine ev_getI 7 dX12_takePart_156 (hS.lt (hc 75 rfl)) rfl (hS.mem _ (hc 75 rfl)) ciX12 (by decide) rfl flX12_149 ?_
            obtain ⟨g24, hf⟩ := gd_elim hf
            refine ev_lald dX12_takePart_159 (hS.lt (hc 79 rfl)) rfl (hS.mem _ (hc 79 rfl)) g24 ?_
            refine ev_l2i dX12_takePart_160 ?_
            refine ev_goto 165 dX12_takePart_161 (by decide) ?_
            refine ev_sub [0] rfl ?_
            exact tX12_takePart_j165 hS hc dp hdp rp hrp depth (l_2i (q15.2 79 (w32 (q15.2 75 7)).toNat)) v17 q15.2 hf hr
        refine ev_ifb_eq 146 dX12_takePart_139 (by decide) (fun h18 => ?_) (fun h18 => ?_)
        · refine ev_iconst dX12_takePart_146 ?_
          have e9 : v17 = 2 := hv17.trans ((if_neg h18))
          subst e9
          exact hJv17
        · refine ev_iconst dX12_takePart_142 ?_
          refine ev_goto 147 dX12_takePart_143 (by decide) ?_
          have e9 : v17 = 1 := hv17.trans ((if_pos h18))
          subst e9
          exact hJv17
      · rw [if_pos h16] at hf
        refine ev_aload_n dX12_takePart_121 0 rfl ?_
        refine ev_iload_n dX12_takePart_122 1 rfl ?_
        refine ev_iconst dX12_takePart_123 ?_
        refine ev_iadd dX12_takePart_124 ?_
        obtain ⟨μ27, hμ27, hf⟩ := Option.bind_eq_some_iff.mp hf
        refine cl_V0 (As := [vi (depth + 1)]) (st := []) miX12_whole (tX12_whole hS (hc.w rfl rfl) dp hdp rp hrp (depth + 1) q15.2 hμ27) dX12_takePart_125 lkX12_202 inX12_whole rfl (hS.lt (hc 75 rfl)) rfl ⟨rfl, rfl⟩ ⟨⟨by simp only [rmd]; omega, by simp only [rmd]; omega⟩, Nat.zero_le _, Nat.zero_le _⟩ (Nat.le_of_ble_eq_true rfl) ?_
        refine ev_aload_n dX12_takePart_128 0 rfl ?_
        refine ev_bipush dX12_takePart_129 (by decide) ?_
        obtain ⟨μ28, hμ28, hf⟩ := Option.bind_eq_some_iff.mp hf
        refine cl_V0 (As := [vi 41]) (st := []) miX12_takeSign (tX12_takeSign hS (hc.w rfl rfl) 41 μ27 hμ28) dX12_takePart_131 lkX12_183 inX12_takeSign rfl (hS.lt (hc 75 rfl)) rfl ⟨rfl, rfl⟩ ⟨⟨by simp only [rmd]; omega, by simp only [rmd]; omega⟩, Nat.zero_le _, Nat.zero_le _⟩ (Nat.le_of_ble_eq_true rfl) ?_
        refine ev_goto 178 dX12_takePart_134 (by decide) ?_
        obtain rfl := Option.some.inj hf
        exact ev_vret dX12_takePart_178 rfl ⟨Nat.zero_le _, Nat.zero_le _⟩ hr
    · rw [if_pos h14] at hf
      refine ev_aload_n dX12_takePart_96 0 rfl ?_
      refine ev_iload_n dX12_takePart_97 1 rfl ?_
      refine ev_iconst dX12_takePart_98 ?_
      refine ev_iadd dX12_takePart_99 ?_
      obtain ⟨μ29, hμ29, hf⟩ := Option.bind_eq_some_iff.mp hf
      refine cl_V0 (As := [vi (depth + 1)]) (st := []) miX12_takePart (hrp (depth + 1) q13.2 _ hμ29) dX12_takePart_100 lkX12_229 inX12_takePart rfl (hS.lt (hc 75 rfl)) rfl ⟨rfl, rfl⟩ ⟨⟨by simp only [rmd]; omega, by simp only [rmd]; omega⟩, Nat.zero_le _, Nat.zero_le _⟩ (Nat.le_of_ble_eq_true rfl) ?_
      refine ev_aload_n dX12_takePart_103 0 rfl ?_
      refine ev_iconst dX12_takePart_104 ?_
      refine ev_iconst dX12_takePart_105 ?_
      obtain ⟨μ30, hμ30, hf⟩ := Option.bind_eq_some_iff.mp hf
      refine cl_V0 (As := [vi 3, vi 0]) (st := []) miX12_emit (tX12_emit hS (hc.w rfl rfl) 3 0 μ29 hμ30) dX12_takePart_106 lkX12_205 inX12_emit rfl (hS.lt (hc 75 rfl)) rfl ⟨rfl, rfl⟩ ⟨⟨by simp only [rmd]; omega, by simp only [rmd]; omega⟩, Nat.zero_le _, Nat.zero_le _⟩ (Nat.le_of_ble_eq_true rfl) ?_
      refine ev_goto 178 dX12_takePart_109 (by decide) ?_
      obtain rfl := Option.some.inj hf
      exact ev_vret dX12_takePart_178 rfl ⟨Nat.zero_le _, Nat.zero_le _⟩ hr
  · rw [if_neg h12] at hf
    obtain rfl := Option.some.inj hf
    exact ev_vret dX12_takePart_86 rfl ⟨Nat.zero_le _, Nat.zero_le _⟩ hr
def fX12_takePart_j69 (rp : Int → Mem → Option Mem) (depth : Int) (v7 : Bool) (v8 : Int) (μ : Mem) : Option (Mem) :=
  if w32 depth = w32 5 then
    (fX12_wrong 5 μ).bind fun μ31 =>
    fX12_takePart_j79 rp depth v7 v8 μ31
  else
    fX12_takePart_j79 rp depth v7 v8 μ
set_option maxRecDepth 4000 in
theorem tX12_takePart_j69 (hS : Sd M K P L) (hc : CIn P 75 83) (dp : Nat) (hdp : 10 ≤ dp) (rp : Int → Mem → Option Mem) (hrp : ∀ (depth : Int) (μ : Mem) (o : Mem), rp depth μ = some o → Cn l D cy g K K yX12_takePart cX12_takePart 4 none (rmd dp 0 0) [vr g 75, vi depth] M x (L μ) (PE none M x (L o))) (depth : Int) (v7 : Bool) (v8 : Int) (μ : Mem)  {o : Mem} (hf : fX12_takePart_j69 rp depth v7 v8 μ = some o) (hr : (fun o : Mem => Φ none M x (L o)) o) : Ev l D cy g K yX12_takePart cX12_takePart 4 none (rmd (dp + 5) 0 0) (MX D cy g K (rmd (dp + 5) 0 0) Φ) 0 0 M x (L μ) 69 [(0, vr g 75), (1, vi depth), (2, vb v7), (3, vi v8)] [] := by
  unfold fX12_takePart_j69 at hf
  refine ev_iload_n dX12_takePart_69 1 rfl ?_
  refine ev_iconst dX12_takePart_70 ?_
  refine ev_icmp_ne 79 dX12_takePart_71 (by decide) (fun h9 => ?_) (fun h9 => ?_)
  · rw [if_neg h9] at hf
    refine ev_sub [0, 1, 2, 3] rfl ?_
    exact tX12_takePart_j79 hS hc dp hdp rp hrp depth v7 v8 μ hf hr
  · rw [if_pos h9] at hf
    refine ev_aload_n dX12_takePart_74 0 rfl ?_
    refine ev_iconst dX12_takePart_75 ?_
    obtain ⟨μ31, hμ31, hf⟩ := Option.bind_eq_some_iff.mp hf
    refine cl_V0 (As := [vi 5]) (st := []) miX12_wrong (tX12_wrong hS (hc.w rfl rfl) 5 μ hμ31) dX12_takePart_76 lkX12_158 inX12_wrong rfl (hS.lt (hc 75 rfl)) rfl ⟨rfl, rfl⟩ ⟨⟨by simp only [rmd]; omega, by simp only [rmd]; omega⟩, Nat.zero_le _, Nat.zero_le _⟩ (Nat.le_of_ble_eq_true rfl) ?_
    refine ev_sub [0, 1, 2, 3] rfl ?_
    exact tX12_takePart_j79 hS hc dp hdp rp hrp depth v7 v8 μ31 hf hr
def fX12_takePart (rp : Int → Mem → Option Mem) (depth : Int) (μ : Mem) : Option (Mem) :=
  if w32 (μ 75 8) ≤ 0 then
    gd (0 ≤ w32 (μ 75 7) ∧ w32 (μ 75 7) < 1002) <|
    lt (if w32 (μ 77 (w32 (μ 75 7)).toNat) = w32 2 then
        true
      else
        false) fun v3 =>
    (fX12_wordHere 14 4 μ).bind fun v5 =>
    if w32 v5 < 0 then
      if v3 = true then
        fX12_takePart_j69 rp depth v3 v5 μ
      else
        (fX12_isSign 40 μ).bind fun v37 =>
        if v37 = true then
          fX12_takePart_j69 rp depth v3 v5 μ
        else
          (fX12_isWord 11 μ).bind fun v41 =>
          if v41 = true then
            fX12_takePart_j69 rp depth v3 v5 μ
          else
            (fX12_wrong 1 μ).bind fun μ45 =>
            fX12_takePart_j79 rp depth v3 v5 μ45
    else
      fX12_takePart_j69 rp depth v3 v5 μ
  else
    some (μ)
set_option maxRecDepth 4000 in
theorem eX12_takePart (hS : Sd M K P L) (hc : CIn P 75 83) (dp : Nat) (hdp : 10 ≤ dp) (rp : Int → Mem → Option Mem) (hrp : ∀ (depth : Int) (μ : Mem) (o : Mem), rp depth μ = some o → Cn l D cy g K K yX12_takePart cX12_takePart 4 none (rmd dp 0 0) [vr g 75, vi depth] M x (L μ) (PE none M x (L o))) (depth : Int) (μ : Mem)  {o : Mem} (hf : fX12_takePart rp depth μ = some o) (hr : (fun o : Mem => Φ none M x (L o)) o) : Ev l D cy g K yX12_takePart cX12_takePart 4 none (rmd (dp + 5) 0 0) (MX D cy g K (rmd (dp + 5) 0 0) Φ) 0 0 M x (L μ) 0 [(0, vr g 75), (1, vi depth)] [] := by
  unfold fX12_takePart at hf
  refine ev_aload_n dX12_takePart_0 0 rfl ?_
  refine ev_getI 8 dX12_takePart_1 (hS.lt (hc 75 rfl)) rfl (hS.mem _ (hc 75 rfl)) ciX12 (by decide) rfl flX12_152 ?_
  refine ev_if_le 8 dX12_takePart_4 (by decide) (fun h1 => ?_) (fun h1 => ?_)
  · rw [if_pos h1] at hf
    refine ev_aload_n dX12_takePart_8 0 rfl ?_
    refine ev_getK 4 dX12_takePart_9 (hS.lt (hc 75 rfl)) rfl (hS.K1 (hc 75 rfl) rfl) ciX12 (by decide) rfl flX12_24 ?_
    refine ev_aload_n dX12_takePart_12 0 rfl ?_
    refine ev_getI 7 dX12_takePart_13 (hS.lt (hc 75 rfl)) rfl (hS.mem _ (hc 75 rfl)) ciX12 (by decide) rfl flX12_149 ?_
    obtain ⟨g2, hf⟩ := gd_elim hf
    refine ev_iald dX12_takePart_16 (hS.lt (hc 77 rfl)) rfl (hS.mem _ (hc 77 rfl)) g2 ?_
    refine ev_iconst dX12_takePart_17 ?_
    obtain ⟨v3, hv3, hf⟩ := lt_elim hf
    have hJv3 : Ev l D cy g K yX12_takePart cX12_takePart 4 none (rmd (dp + 5) 0 0) (MX D cy g K (rmd (dp + 5) 0 0) Φ) 0 0 M x (L μ) 26 [(0, vr g 75), (1, vi depth)] [vb v3] := by
      refine ev_istore_n (al2 := [(2, vb v3), (0, vr g 75), (1, vi depth)]) dX12_takePart_26 2 rfl (by decide) rfl ?_
      refine ev_aload_n dX12_takePart_27 1 rfl ?_
      refine ev_bipush dX12_takePart_28 (by decide) ?_
      refine ev_iconst dX12_takePart_30 ?_
      obtain ⟨v5, hv5, hf⟩ := Option.bind_eq_some_iff.mp hf
      refine cl_V1 (As := [vi 14, vi 4]) (st := []) miX12_wordHere (tX12_wordHere hS (hc.w rfl rfl) 14 4 μ hv5) dX12_takePart_31 lkX12_167 inX12_wordHere rfl (hS.lt (hc 75 rfl)) rfl ⟨rfl, rfl⟩ ⟨⟨by simp only [rmd]; omega, by simp only [rmd]; omega⟩, Nat.zero_le _, Nat.zero_le _⟩ (Nat.le_of_ble_eq_true rfl) ?_
      refine ev_istore_n (al2 := [(3, vi v5), (2, vb v3), (0, vr g 75), (1, vi depth)]) dX12_takePart_34 3 rfl (by decide) rfl ?_
      refine ev_iload_n dX12_takePart_35 0 rfl ?_
      refine ev_if_ge 69 dX12_takePart_36 (by decide) (fun h6 => ?_) (fun h6 => ?_)
      · rw [if_neg h6] at hf
        refine ev_sub [2, 3, 1, 0] rfl ?_
        exact tX12_takePart_j69 hS hc dp hdp rp hrp depth v3 v5 μ hf hr
      · rw [if_pos h6] at hf
        refine ev_iload_n dX12_takePart_39 1 rfl ?_
        refine ev_ifb_ne 69 dX12_takePart_40 (by decide) (fun h34 => ?_) (fun h34 => ?_)
        · rw [if_pos h34] at hf
          refine ev_sub [2, 3, 1, 0] rfl ?_
          exact tX12_takePart_j69 hS hc dp hdp rp hrp depth v3 v5 μ hf hr
        · rw [if_neg h34] at hf
          refine ev_aload_n dX12_takePart_43 2 rfl ?_
          refine ev_bipush dX12_takePart_44 (by decide) ?_
          obtain ⟨v37, hv37, hf⟩ := Option.bind_eq_some_iff.mp hf
          refine cl_V1 (As := [vi 40]) (st := []) miX12_isSign (tX12_isSign hS (hc.w rfl rfl) 40 μ hv37) dX12_takePart_46 lkX12_155 inX12_isSign rfl (hS.lt (hc 75 rfl)) rfl ⟨rfl, rfl⟩ ⟨⟨by simp only [rmd]; omega, by simp only [rmd]; omega⟩, Nat.zero_le _, Nat.zero_le _⟩ (Nat.le_of_ble_eq_true rfl) ?_
          refine ev_ifb_ne 69 dX12_takePart_49 (by decide) (fun h38 => ?_) (fun h38 => ?_)
          · rw [if_pos h38] at hf
            refine ev_sub [2, 3, 1, 0] rfl ?_
            exact tX12_takePart_j69 hS hc dp hdp rp hrp depth v3 v5 μ hf hr
          · rw [if_neg h38] at hf
            refine ev_aload_n dX12_takePart_52 2 rfl ?_
            refine ev_bipush dX12_takePart_53 (by decide) ?_
            obtain ⟨v41, hv41, hf⟩ := Option.bind_eq_some_iff.mp hf
            refine cl_V1 (As := [vi 11]) (st := []) miX12_isWord (tX12_isWord hS (hc.w rfl rfl) 11 μ hv41) dX12_takePart_55 lkX12_161 inX12_isWord rfl (hS.lt (hc 75 rfl)) rfl ⟨rfl, rfl⟩ ⟨⟨by simp only [rmd]; omega, by simp only [rmd]; omega⟩, Nat.zero_le _, Nat.zero_le _⟩ (Nat.le_of_ble_eq_true rfl) ?_
            refine ev_ifb_ne 69 dX12_takePart_58 (by decide) (fun h42 => ?_) (fun h42 => ?_)
            · rw [if_pos h42] at hf
              refine ev_sub [2, 3, 1, 0] rfl ?_
              exact tX12_takePart_j69 hS hc dp hdp rp hrp depth v3 v5 μ hf hr
            · rw [if_neg h42] at hf
              refine ev_aload_n dX12_takePart_61 2 rfl ?_
              refine ev_iconst dX12_takePart_62 ?_
              obtain ⟨μ45, hμ45, hf⟩ := Option.bind_eq_some_iff.mp hf
              refine cl_V0 (As := [vi 1]) (st := []) miX12_wrong (tX12_wrong hS (hc.w rfl rfl) 1 μ hμ45) dX12_takePart_63 lkX12_158 inX12_wrong rfl (hS.lt (hc 75 rfl)) rfl ⟨rfl, rfl⟩ ⟨⟨by simp only [rmd]; omega, by simp only [rmd]; omega⟩, Nat.zero_le _, Nat.zero_le _⟩ (Nat.le_of_ble_eq_true rfl) ?_
              refine ev_goto 79 dX12_takePart_66 (by decide) ?_
              refine ev_sub [2, 3, 1, 0] rfl ?_
              exact tX12_takePart_j79 hS hc dp hdp rp hrp depth v3 v5 μ45 hf hr
    refine ev_icmp_ne 25 dX12_takePart_18 (by decide) (fun h4 => ?_) (fun h4 => ?_)
    · refine ev_iconst dX12_takePart_25 ?_
      have e9 : v3 = false := hv3.trans ((if_neg h4))
      subst e9
      exact hJv3
    · refine ev_iconst dX12_takePart_21 ?_
      refine ev_goto 26 dX12_takePart_22 (by decide) ?_
      have e9 : v3 = true := hv3.trans ((if_pos h4))
      subst e9
      exact hJv3
  · rw [if_neg h1] at hf
    obtain rfl := Option.some.inj hf
    exact ev_vret dX12_takePart_7 rfl ⟨Nat.zero_le _, Nat.zero_le _⟩ hr
theorem tX12_takePart (hS : Sd M K P L) (hc : CIn P 75 83) (dp : Nat) (hdp : 10 ≤ dp) (rp : Int → Mem → Option Mem) (hrp : ∀ (depth : Int) (μ : Mem) (o : Mem), rp depth μ = some o → Cn l D cy g K K yX12_takePart cX12_takePart 4 none (rmd dp 0 0) [vr g 75, vi depth] M x (L μ) (PE none M x (L o))) (depth : Int) (μ : Mem) {o : Mem} (hf : fX12_takePart rp depth μ = some o) : Cn l D cy g K K yX12_takePart cX12_takePart 4 none (rmd (dp + 5) 0 0) [vr g 75, vi depth] M x (L μ) (PE none M x (L o)) :=
 Cn.of (by decide) (Nat.le_of_ble_eq_true rfl) (eX12_takePart hS hc dp hdp rp hrp depth μ hf (PE_i _ _ _ _))
def fX12_takePartN : Nat → Int → Mem → Option (Mem)
  | 0 => fun _ _ => none
  | n + 1 => fun depth μ => fX12_takePart (fX12_takePartN n) depth μ
theorem tX12_takePartN (hS : Sd M K P L) (hc : CIn P 75 83) : ∀ (n : Nat) (depth : Int) (μ : Mem) (o : Mem), fX12_takePartN n depth μ = some o → Cn l D cy g K K yX12_takePart cX12_takePart 4 none (rmd (5 * n + 10) 0 0) [vr g 75, vi depth] M x (L μ) (PE none M x (L o))
  | 0, depth, μ,  o, h => by cases h
  | n + 1, depth, μ,  o, h => by
    have := tX12_takePart hS hc (5 * n + 10) (by omega) (fX12_takePartN n) (fun depth μ o h => tX12_takePartN hS hc n depth μ o h) depth μ h
    exact this
def fX12_wholeC (depth : Int) (μ : Mem) : Option (Mem) := fX12_whole (fX12_takePartN 8) depth μ
theorem tX12_wholeC (hS : Sd M K P L) (hc : CIn P 75 83) (depth : Int) (μ : Mem) {o : Mem} (hf : fX12_wholeC depth μ = some o) : Cn l D cy g K K yX12_whole cX12_whole 3 none (rmd 54 0 0) [vr g 75, vi depth] M x (L μ) (PE none M x (L o)) :=
  tX12_whole hS (hc.w rfl rfl) (5 * 8 + 10) (by decide) (fX12_takePartN 8) (fun depth μ o h => tX12_takePartN hS (hc.w rfl rfl) 8 depth μ o h) depth μ hf
def fX12_readLaw_j36 (v5 : Int) (μ : Mem) : Option (Mem) :=
  if w32 (μ 75 8) ≤ 0 then
    lt (upd2 μ 75 7 ((μ 75 7) + 1)) fun μ7 =>
    gd (0 ≤ w32 (21 + v5) ∧ w32 (21 + v5) < 40) <|
    lt (upd2 μ7 81 ((w32 (21 + v5)).toNat) (μ7 75 12)) fun μ9 =>
    (fX12_wholeC 0 μ9).bind fun μ10 =>
    (fX12_emit 0 0 μ10).bind fun μ11 =>
    some (μ11)
  else
    some (μ)
set_option maxRecDepth 4000 in
theorem tX12_readLaw_j36 (hS : Sd M K P L) (hc : CIn P 75 83) (v5 : Int) (μ : Mem)  {o : Mem} (hf : fX12_readLaw_j36 v5 μ = some o) (hr : (fun o : Mem => Φ none M x (L o)) o) : Ev l D cy g K yX12_readLaw cX12_readLaw 2 none (rmd 55 0 0) (MX D cy g K (rmd 55 0 0) Φ) 0 0 M x (L μ) 36 [(0, vr g 75), (1, vi v5)] [] := by
  unfold fX12_readLaw_j36 at hf
  refine ev_aload_n dX12_readLaw_36 0 rfl ?_
  refine ev_getI 8 dX12_readLaw_37 (hS.lt (hc 75 rfl)) rfl (hS.mem _ (hc 75 rfl)) ciX12 (by decide) rfl flX12_152 ?_
  refine ev_if_le 44 dX12_readLaw_40 (by decide) (fun h6 => ?_) (fun h6 => ?_)
  · rw [if_pos h6] at hf
    refine ev_aload_n dX12_readLaw_44 0 rfl ?_
    refine ev_dup dX12_readLaw_45 rfl ?_
    refine ev_getI 7 dX12_readLaw_46 (hS.lt (hc 75 rfl)) rfl (hS.mem _ (hc 75 rfl)) ciX12 (by decide) rfl flX12_149 ?_
    refine ev_iconst dX12_readLaw_49 ?_
    refine ev_iadd dX12_readLaw_50 ?_
    obtain ⟨μ7, hμ7, hf⟩ := lt_elim hf
    refine ev_putI 7 dX12_readLaw_51 (hS.lt (hc 75 rfl)) rfl ciX12 (by decide) (Or.inl rfl) rfl rfl flX12_149 (hS.up (hc 75 rfl) hμ7) ?_
    refine ev_aload_n dX12_readLaw_54 0 rfl ?_
    refine ev_getK 10 dX12_readLaw_55 (hS.lt (hc 75 rfl)) rfl (hS.K1 (hc 75 rfl) rfl) ciX12 (by decide) rfl flX12_73 ?_
    refine ev_bipush dX12_readLaw_58 (by decide) ?_
    refine ev_iload_n dX12_readLaw_60 1 rfl ?_
    refine ev_iadd dX12_readLaw_61 ?_
    refine ev_aload_n dX12_readLaw_62 0 rfl ?_
    refine ev_getI 12 dX12_readLaw_63 (hS.lt (hc 75 rfl)) rfl (hS.mem _ (hc 75 rfl)) ciX12 (by decide) rfl flX12_174 ?_
    obtain ⟨g8, hf⟩ := gd_elim hf
    obtain ⟨μ9, hμ9, hf⟩ := lt_elim hf
    refine ev_iast dX12_readLaw_66 (hS.lt (hc 81 rfl)) rfl g8 (hS.up (hc 81 rfl) hμ9) ?_
    refine ev_aload_n dX12_readLaw_67 0 rfl ?_
    refine ev_iconst dX12_readLaw_68 ?_
    obtain ⟨μ10, hμ10, hf⟩ := Option.bind_eq_some_iff.mp hf
    refine cl_V0 (As := [vi 0]) (st := []) miX12_whole (tX12_wholeC hS (hc.w rfl rfl) 0 μ9 hμ10) dX12_readLaw_69 lkX12_202 inX12_whole rfl (hS.lt (hc 75 rfl)) rfl ⟨rfl, rfl⟩ ⟨⟨Nat.le_of_ble_eq_true rfl, Nat.le_of_ble_eq_true rfl⟩, Nat.zero_le _, Nat.zero_le _⟩ (Nat.le_of_ble_eq_true rfl) ?_
    refine ev_aload_n dX12_readLaw_72 0 rfl ?_
    refine ev_iconst dX12_readLaw_73 ?_
    refine ev_iconst dX12_readLaw_74 ?_
    obtain ⟨μ11, hμ11, hf⟩ := Option.bind_eq_some_iff.mp hf
    refine cl_V0 (As := [vi 0, vi 0]) (st := []) miX12_emit (tX12_emit hS (hc.w rfl rfl) 0 0 μ10 hμ11) dX12_readLaw_75 lkX12_205 inX12_emit rfl (hS.lt (hc 75 rfl)) rfl ⟨rfl, rfl⟩ ⟨⟨Nat.le_of_ble_eq_true rfl, Nat.le_of_ble_eq_true rfl⟩, Nat.zero_le _, Nat.zero_le _⟩ (Nat.le_of_ble_eq_true rfl) ?_
    obtain rfl := Option.some.inj hf
    exact ev_vret dX12_readLaw_78 rfl ⟨Nat.zero_le _, Nat.zero_le _⟩ hr
  · rw [if_neg h6] at hf
    obtain rfl := Option.some.inj hf
    exact ev_vret dX12_readLaw_43 rfl ⟨Nat.zero_le _, Nat.zero_le _⟩ hr
def fX12_readLaw  (μ : Mem) : Option (Mem) :=
  (fX12_wordHere 4 2 μ).bind fun v1 =>
  if w32 v1 < 0 then
    (fX12_wrong 1 μ).bind fun μ14 =>
    fX12_readLaw_j36 v1 μ14
  else
    gd (0 ≤ w32 (21 + v1) ∧ w32 (21 + v1) < 40) <|
    if w32 (μ 81 (w32 (21 + v1)).toNat) < 0 then
      fX12_readLaw_j36 v1 μ
    else
      (fX12_wrong 3 μ).bind fun μ12 =>
      fX12_readLaw_j36 v1 μ12
set_option maxRecDepth 4000 in
theorem eX12_readLaw (hS : Sd M K P L) (hc : CIn P 75 83)  (μ : Mem)  {o : Mem} (hf : fX12_readLaw  μ = some o) (hr : (fun o : Mem => Φ none M x (L o)) o) : Ev l D cy g K yX12_readLaw cX12_readLaw 2 none (rmd 55 0 0) (MX D cy g K (rmd 55 0 0) Φ) 0 0 M x (L μ) 0 [(0, vr g 75)] [] := by
  unfold fX12_readLaw at hf
  refine ev_aload_n dX12_readLaw_0 0 rfl ?_
  refine ev_iconst dX12_readLaw_1 ?_
  refine ev_iconst dX12_readLaw_2 ?_
  obtain ⟨v1, hv1, hf⟩ := Option.bind_eq_some_iff.mp hf
  refine cl_V1 (As := [vi 4, vi 2]) (st := []) miX12_wordHere (tX12_wordHere hS (hc.w rfl rfl) 4 2 μ hv1) dX12_readLaw_3 lkX12_167 inX12_wordHere rfl (hS.lt (hc 75 rfl)) rfl ⟨rfl, rfl⟩ ⟨⟨Nat.le_of_ble_eq_true rfl, Nat.le_of_ble_eq_true rfl⟩, Nat.zero_le _, Nat.zero_le _⟩ (Nat.le_of_ble_eq_true rfl) ?_
  refine ev_istore_n (al2 := [(1, vi v1), (0, vr g 75)]) dX12_readLaw_6 1 rfl (by decide) rfl ?_
  refine ev_iload_n dX12_readLaw_7 0 rfl ?_
  refine ev_if_ge 19 dX12_readLaw_8 (by decide) (fun h2 => ?_) (fun h2 => ?_)
  · rw [if_neg h2] at hf
    refine ev_aload_n dX12_readLaw_19 1 rfl ?_
    refine ev_getK 10 dX12_readLaw_20 (hS.lt (hc 75 rfl)) rfl (hS.K1 (hc 75 rfl) rfl) ciX12 (by decide) rfl flX12_73 ?_
    refine ev_bipush dX12_readLaw_23 (by decide) ?_
    refine ev_iload_n dX12_readLaw_25 0 rfl ?_
    refine ev_iadd dX12_readLaw_26 ?_
    obtain ⟨g3, hf⟩ := gd_elim hf
    refine ev_iald dX12_readLaw_27 (hS.lt (hc 81 rfl)) rfl (hS.mem _ (hc 81 rfl)) g3 ?_
    refine ev_if_lt 36 dX12_readLaw_28 (by decide) (fun h4 => ?_) (fun h4 => ?_)
    · rw [if_pos h4] at hf
      refine ev_sub [1, 0] rfl ?_
      exact tX12_readLaw_j36 hS hc v1 μ hf hr
    · rw [if_neg h4] at hf
      refine ev_aload_n dX12_readLaw_31 1 rfl ?_
      refine ev_iconst dX12_readLaw_32 ?_
      obtain ⟨μ12, hμ12, hf⟩ := Option.bind_eq_some_iff.mp hf
      refine cl_V0 (As := [vi 3]) (st := []) miX12_wrong (tX12_wrong hS (hc.w rfl rfl) 3 μ hμ12) dX12_readLaw_33 lkX12_158 inX12_wrong rfl (hS.lt (hc 75 rfl)) rfl ⟨rfl, rfl⟩ ⟨⟨Nat.le_of_ble_eq_true rfl, Nat.le_of_ble_eq_true rfl⟩, Nat.zero_le _, Nat.zero_le _⟩ (Nat.le_of_ble_eq_true rfl) ?_
      refine ev_sub [1, 0] rfl ?_
      exact tX12_readLaw_j36 hS hc v1 μ12 hf hr
  · rw [if_pos h2] at hf
    refine ev_aload_n dX12_readLaw_11 1 rfl ?_
    refine ev_iconst dX12_readLaw_12 ?_
    obtain ⟨μ14, hμ14, hf⟩ := Option.bind_eq_some_iff.mp hf
    refine cl_V0 (As := [vi 1]) (st := []) miX12_wrong (tX12_wrong hS (hc.w rfl rfl) 1 μ hμ14) dX12_readLaw_13 lkX12_158 inX12_wrong rfl (hS.lt (hc 75 rfl)) rfl ⟨rfl, rfl⟩ ⟨⟨Nat.le_of_ble_eq_true rfl, Nat.le_of_ble_eq_true rfl⟩, Nat.zero_le _, Nat.zero_le _⟩ (Nat.le_of_ble_eq_true rfl) ?_
    refine ev_goto 36 dX12_readLaw_16 (by decide) ?_
    refine ev_sub [1, 0] rfl ?_
    exact tX12_readLaw_j36 hS hc v1 μ14 hf hr
theorem tX12_readLaw (hS : Sd M K P L) (hc : CIn P 75 83) (μ : Mem) {o : Mem} (hf : fX12_readLaw μ = some o) : Cn l D cy g K K yX12_readLaw cX12_readLaw 2 none (rmd 55 0 0) [vr g 75] M x (L μ) (PE none M x (L o)) :=
 Cn.of (by decide) (Nat.le_of_ble_eq_true rfl) (eX12_readLaw hS hc μ hf (PE_i _ _ _ _))
def fX12_griddle_b20  (μ : Mem) : Option ((Mem) ⊕ (Mem)) :=
  if w32 (μ 75 8) = 0 then
    gd (0 ≤ w32 (μ 75 7) ∧ w32 (μ 75 7) < 1002) <|
    if w32 (μ 77 (w32 (μ 75 7)).toNat) = 0 then
      some (.inr μ)
    else
      (fX12_isWord 0 μ).bind fun v8 =>
      if v8 = true then
        (fX12_readCake μ).bind fun μ12 =>
        (fX12_takeSign 59 μ12).bind fun μ13 =>
        some (.inl μ13)
      else
        (fX12_readLaw μ).bind fun μ10 =>
        (fX12_takeSign 59 μ10).bind fun μ11 =>
        some (.inl μ11)
  else
    some (.inr μ)
set_option maxRecDepth 4000 in
theorem tX12_griddle_b20 (hS : Sd M K P L) (hc : CIn P 75 92)  (μ : Mem)  {o : (Mem) ⊕ (Mem)} (hf : fX12_griddle_b20 μ = some o) (hr : (Sum.elim (fun s : Mem => Ev l D cy g K yX12_griddle cX12_griddle 2 (some .int) (rmd 56 0 0) (MX D cy g K (rmd 56 0 0) Φ) 0 0 M x (L s) 20 [(0, vr g 75)] []) (fun e : Mem => Ev l D cy g K yX12_griddle cX12_griddle 2 (some .int) (rmd 56 0 0) (MX D cy g K (rmd 56 0 0) Φ) 0 0 M x (L e) 67 [(0, vr g 75)] [])) o) : Ev l D cy g K yX12_griddle cX12_griddle 2 (some .int) (rmd 56 0 0) (MX D cy g K (rmd 56 0 0) Φ) 0 0 M x (L μ) 20 [(0, vr g 75)] [] := by
  unfold fX12_griddle_b20 at hf
  refine ev_aload_n dX12_griddle_20 0 rfl ?_
  refine ev_getI 8 dX12_griddle_21 (hS.lt (hc 75 rfl)) rfl (hS.mem _ (hc 75 rfl)) ciX12 (by decide) rfl flX12_152 ?_
  refine ev_if_ne 67 dX12_griddle_24 (by decide) (fun h5 => ?_) (fun h5 => ?_)
  · rw [if_neg h5] at hf
    obtain rfl := Option.some.inj hf
    refine ev_sub [0] rfl ?_
    exact hr
  · rw [if_pos h5] at hf
    refine ev_aload_n dX12_griddle_27 0 rfl ?_
    refine ev_getK 4 dX12_griddle_28 (hS.lt (hc 75 rfl)) rfl (hS.K1 (hc 75 rfl) rfl) ciX12 (by decide) rfl flX12_24 ?_
    refine ev_aload_n dX12_griddle_31 0 rfl ?_
    refine ev_getI 7 dX12_griddle_32 (hS.lt (hc 75 rfl)) rfl (hS.mem _ (hc 75 rfl)) ciX12 (by decide) rfl flX12_149 ?_
    obtain ⟨g6, hf⟩ := gd_elim hf
    refine ev_iald dX12_griddle_35 (hS.lt (hc 77 rfl)) rfl (hS.mem _ (hc 77 rfl)) g6 ?_
    refine ev_if_eq 67 dX12_griddle_36 (by decide) (fun h7 => ?_) (fun h7 => ?_)
    · rw [if_pos h7] at hf
      obtain rfl := Option.some.inj hf
      refine ev_sub [0] rfl ?_
      exact hr
    · rw [if_neg h7] at hf
      refine ev_aload_n dX12_griddle_39 0 rfl ?_
      refine ev_iconst dX12_griddle_40 ?_
      obtain ⟨v8, hv8, hf⟩ := Option.bind_eq_some_iff.mp hf
      refine cl_V1 (As := [vi 0]) (st := []) miX12_isWord (tX12_isWord hS (hc.w rfl rfl) 0 μ hv8) dX12_griddle_41 lkX12_161 inX12_isWord rfl (hS.lt (hc 75 rfl)) rfl ⟨rfl, rfl⟩ ⟨⟨Nat.le_of_ble_eq_true rfl, Nat.le_of_ble_eq_true rfl⟩, Nat.zero_le _, Nat.zero_le _⟩ (Nat.le_of_ble_eq_true rfl) ?_
      refine ev_ifb_eq 54 dX12_griddle_44 (by decide) (fun h9 => ?_) (fun h9 => ?_)
      · rw [if_neg h9] at hf
        refine ev_aload_n dX12_griddle_54 0 rfl ?_
        obtain ⟨μ10, hμ10, hf⟩ := Option.bind_eq_some_iff.mp hf
        refine cl_V0 (As := []) (st := []) miX12_readLaw (tX12_readLaw hS (hc.w rfl rfl) μ hμ10) dX12_griddle_55 lkX12_180 inX12_readLaw rfl (hS.lt (hc 75 rfl)) rfl ⟨rfl, rfl⟩ ⟨⟨Nat.le_of_ble_eq_true rfl, Nat.le_of_ble_eq_true rfl⟩, Nat.zero_le _, Nat.zero_le _⟩ (Nat.le_of_ble_eq_true rfl) ?_
        refine ev_aload_n dX12_griddle_58 0 rfl ?_
        refine ev_bipush dX12_griddle_59 (by decide) ?_
        obtain ⟨μ11, hμ11, hf⟩ := Option.bind_eq_some_iff.mp hf
        refine cl_V0 (As := [vi 59]) (st := []) miX12_takeSign (tX12_takeSign hS (hc.w rfl rfl) 59 μ10 hμ11) dX12_griddle_61 lkX12_183 inX12_takeSign rfl (hS.lt (hc 75 rfl)) rfl ⟨rfl, rfl⟩ ⟨⟨Nat.le_of_ble_eq_true rfl, Nat.le_of_ble_eq_true rfl⟩, Nat.zero_le _, Nat.zero_le _⟩ (Nat.le_of_ble_eq_true rfl) ?_
        refine ev_goto 20 dX12_griddle_64 (by decide) ?_
        obtain rfl := Option.some.inj hf
        refine ev_sub [0] rfl ?_
        exact hr
      · rw [if_pos h9] at hf
        refine ev_aload_n dX12_griddle_47 0 rfl ?_
        obtain ⟨μ12, hμ12, hf⟩ := Option.bind_eq_some_iff.mp hf
        refine cl_V0 (As := []) (st := []) miX12_readCake (tX12_readCake hS (hc.w rfl rfl) μ hμ12) dX12_griddle_48 lkX12_177 inX12_readCake rfl (hS.lt (hc 75 rfl)) rfl ⟨rfl, rfl⟩ ⟨⟨Nat.le_of_ble_eq_true rfl, Nat.le_of_ble_eq_true rfl⟩, Nat.zero_le _, Nat.zero_le _⟩ (Nat.le_of_ble_eq_true rfl) ?_
        refine ev_goto 58 dX12_griddle_51 (by decide) ?_
        refine ev_aload_n dX12_griddle_58 0 rfl ?_
        refine ev_bipush dX12_griddle_59 (by decide) ?_
        obtain ⟨μ13, hμ13, hf⟩ := Option.bind_eq_some_iff.mp hf
        refine cl_V0 (As := [vi 59]) (st := []) miX12_takeSign (tX12_takeSign hS (hc.w rfl rfl) 59 μ12 hμ13) dX12_griddle_61 lkX12_183 inX12_takeSign rfl (hS.lt (hc 75 rfl)) rfl ⟨rfl, rfl⟩ ⟨⟨Nat.le_of_ble_eq_true rfl, Nat.le_of_ble_eq_true rfl⟩, Nat.zero_le _, Nat.zero_le _⟩ (Nat.le_of_ble_eq_true rfl) ?_
        refine ev_goto 20 dX12_griddle_64 (by decide) ?_
        obtain rfl := Option.some.inj hf
        refine ev_sub [0] rfl ?_
        exact hr
def fX12_griddle_b81 (v16 : Int) (μ : Mem) : Option ((Int × Mem) ⊕ (Mem)) :=
  if w32 v16 < w32 20 then
    gd (0 ≤ w32 (20 + v16) ∧ w32 (20 + v16) < 40) <|
    gd (0 ≤ w32 v16 ∧ w32 v16 < 40) <|
    lt (upd2 μ 81 ((w32 v16).toNat) (μ 81 (w32 (20 + v16)).toNat)) fun μ20 =>
    some (.inl ((v16 + 1), μ20))
  else
    some (.inr μ)
set_option maxRecDepth 4000 in
theorem tX12_griddle_b81 (hS : Sd M K P L) (hc : CIn P 75 92) (v16 : Int) (μ : Mem)  {o : (Int × Mem) ⊕ (Mem)} (hf : fX12_griddle_b81 v16 μ = some o) (hr : (Sum.elim (fun s : Int × Mem => Ev l D cy g K yX12_griddle cX12_griddle 2 (some .int) (rmd 56 0 0) (MX D cy g K (rmd 56 0 0) Φ) 0 0 M x (L s.2) 81 [(0, vr g 75), (1, vi s.1)] []) (fun e : Mem => Ev l D cy g K yX12_griddle cX12_griddle 2 (some .int) (rmd 56 0 0) (MX D cy g K (rmd 56 0 0) Φ) 0 0 M x (L e) 108 [(0, vr g 75)] [])) o) : Ev l D cy g K yX12_griddle cX12_griddle 2 (some .int) (rmd 56 0 0) (MX D cy g K (rmd 56 0 0) Φ) 0 0 M x (L μ) 81 [(0, vr g 75), (1, vi v16)] [] := by
  unfold fX12_griddle_b81 at hf
  refine ev_iload_n dX12_griddle_81 1 rfl ?_
  refine ev_bipush dX12_griddle_82 (by decide) ?_
  refine ev_icmp_ge 108 dX12_griddle_84 (by decide) (fun h17 => ?_) (fun h17 => ?_)
  · rw [if_neg h17] at hf
    obtain rfl := Option.some.inj hf
    refine ev_sub [0] rfl ?_
    exact hr
  · rw [if_pos h17] at hf
    refine ev_aload_n dX12_griddle_87 0 rfl ?_
    refine ev_getK 10 dX12_griddle_88 (hS.lt (hc 75 rfl)) rfl (hS.K1 (hc 75 rfl) rfl) ciX12 (by decide) rfl flX12_73 ?_
    refine ev_iload_n dX12_griddle_91 1 rfl ?_
    refine ev_aload_n dX12_griddle_92 0 rfl ?_
    refine ev_getK 10 dX12_griddle_93 (hS.lt (hc 75 rfl)) rfl (hS.K1 (hc 75 rfl) rfl) ciX12 (by decide) rfl flX12_73 ?_
    refine ev_bipush dX12_griddle_96 (by decide) ?_
    refine ev_iload_n dX12_griddle_98 1 rfl ?_
    refine ev_iadd dX12_griddle_99 ?_
    obtain ⟨g18, hf⟩ := gd_elim hf
    refine ev_iald dX12_griddle_100 (hS.lt (hc 81 rfl)) rfl (hS.mem _ (hc 81 rfl)) g18 ?_
    obtain ⟨g19, hf⟩ := gd_elim hf
    obtain ⟨μ20, hμ20, hf⟩ := lt_elim hf
    refine ev_iast dX12_griddle_101 (hS.lt (hc 81 rfl)) rfl g19 (hS.up (hc 81 rfl) hμ20) ?_
    refine ev_iinc (al2 := [(1, vi (v16 + 1)), (0, vr g 75)]) dX12_griddle_102 1 rfl (by decide) rfl ?_
    refine ev_goto 81 dX12_griddle_105 (by decide) ?_
    obtain rfl := Option.some.inj hf
    refine ev_sub [1, 0] rfl ?_
    exact hr
def fX12_griddle_b110 (v22 : Int) (μ : Mem) : Option ((Int × Mem) ⊕ (Mem)) :=
  if w32 v22 < w32 (μ 75 12) then
    gd (0 ≤ w32 (1100 + v22) ∧ w32 (1100 + v22) < 2200) <|
    gd (0 ≤ w32 v22 ∧ w32 v22 < 2200) <|
    lt (upd2 μ 82 ((w32 v22).toNat) (μ 82 (w32 (1100 + v22)).toNat)) fun μ26 =>
    some (.inl ((v22 + 1), μ26))
  else
    some (.inr μ)
set_option maxRecDepth 4000 in
theorem tX12_griddle_b110 (hS : Sd M K P L) (hc : CIn P 75 92) (v22 : Int) (μ : Mem)  {o : (Int × Mem) ⊕ (Mem)} (hf : fX12_griddle_b110 v22 μ = some o) (hr : (Sum.elim (fun s : Int × Mem => Ev l D cy g K yX12_griddle cX12_griddle 2 (some .int) (rmd 56 0 0) (MX D cy g K (rmd 56 0 0) Φ) 0 0 M x (L s.2) 110 [(0, vr g 75), (1, vi s.1)] []) (fun e : Mem => Ev l D cy g K yX12_griddle cX12_griddle 2 (some .int) (rmd 56 0 0) (MX D cy g K (rmd 56 0 0) Φ) 0 0 M x (L e) 140 [(0, vr g 75)] [])) o) : Ev l D cy g K yX12_griddle cX12_griddle 2 (some .int) (rmd 56 0 0) (MX D cy g K (rmd 56 0 0) Φ) 0 0 M x (L μ) 110 [(0, vr g 75), (1, vi v22)] [] := by
  unfold fX12_griddle_b110 at hf
  refine ev_iload_n dX12_griddle_110 1 rfl ?_
  refine ev_aload_n dX12_griddle_111 0 rfl ?_
  refine ev_getI 12 dX12_griddle_112 (hS.lt (hc 75 rfl)) rfl (hS.mem _ (hc 75 rfl)) ciX12 (by decide) rfl flX12_174 ?_
  refine ev_icmp_ge 140 dX12_griddle_115 (by decide) (fun h23 => ?_) (fun h23 => ?_)
  · rw [if_neg h23] at hf
    obtain rfl := Option.some.inj hf
    refine ev_sub [0] rfl ?_
    exact hr
  · rw [if_pos h23] at hf
    refine ev_aload_n dX12_griddle_118 0 rfl ?_
    refine ev_getK 11 dX12_griddle_119 (hS.lt (hc 75 rfl)) rfl (hS.K1 (hc 75 rfl) rfl) ciX12 (by decide) rfl flX12_76 ?_
    refine ev_iload_n dX12_griddle_122 1 rfl ?_
    refine ev_aload_n dX12_griddle_123 0 rfl ?_
    refine ev_getK 11 dX12_griddle_124 (hS.lt (hc 75 rfl)) rfl (hS.K1 (hc 75 rfl) rfl) ciX12 (by decide) rfl flX12_76 ?_
    refine ev_sipush dX12_griddle_127 (by decide) ?_
    refine ev_iload_n dX12_griddle_130 1 rfl ?_
    refine ev_iadd dX12_griddle_131 ?_
    obtain ⟨g24, hf⟩ := gd_elim hf
    refine ev_iald dX12_griddle_132 (hS.lt (hc 82 rfl)) rfl (hS.mem _ (hc 82 rfl)) g24 ?_
    obtain ⟨g25, hf⟩ := gd_elim hf
    obtain ⟨μ26, hμ26, hf⟩ := lt_elim hf
    refine ev_iast dX12_griddle_133 (hS.lt (hc 82 rfl)) rfl g25 (hS.up (hc 82 rfl) hμ26) ?_
    refine ev_iinc (al2 := [(1, vi (v22 + 1)), (0, vr g 75)]) dX12_griddle_134 1 rfl (by decide) rfl ?_
    refine ev_goto 110 dX12_griddle_137 (by decide) ?_
    obtain rfl := Option.some.inj hf
    refine ev_sub [1, 0] rfl ?_
    exact hr
def fX12_griddle_b142 (v28 : Int) (μ : Mem) : Option ((Int × Mem) ⊕ (Mem)) :=
  if w32 v28 < w32 5 then
    gd (0 ≤ w32 (5 + v28) ∧ w32 (5 + v28) < 10) <|
    gd (0 ≤ w32 v28 ∧ w32 v28 < 10) <|
    lt (upd2 μ 83 ((w32 v28).toNat) (μ 83 (w32 (5 + v28)).toNat)) fun μ32 =>
    some (.inl ((v28 + 1), μ32))
  else
    some (.inr μ)
set_option maxRecDepth 4000 in
theorem tX12_griddle_b142 (hS : Sd M K P L) (hc : CIn P 75 92) (v28 : Int) (μ : Mem)  {o : (Int × Mem) ⊕ (Mem)} (hf : fX12_griddle_b142 v28 μ = some o) (hr : (Sum.elim (fun s : Int × Mem => Ev l D cy g K yX12_griddle cX12_griddle 2 (some .int) (rmd 56 0 0) (MX D cy g K (rmd 56 0 0) Φ) 0 0 M x (L s.2) 142 [(0, vr g 75), (1, vi s.1)] []) (fun e : Mem => Ev l D cy g K yX12_griddle cX12_griddle 2 (some .int) (rmd 56 0 0) (MX D cy g K (rmd 56 0 0) Φ) 0 0 M x (L e) 167 [(0, vr g 75)] [])) o) : Ev l D cy g K yX12_griddle cX12_griddle 2 (some .int) (rmd 56 0 0) (MX D cy g K (rmd 56 0 0) Φ) 0 0 M x (L μ) 142 [(0, vr g 75), (1, vi v28)] [] := by
  unfold fX12_griddle_b142 at hf
  refine ev_iload_n dX12_griddle_142 1 rfl ?_
  refine ev_iconst dX12_griddle_143 ?_
  refine ev_icmp_ge 167 dX12_griddle_144 (by decide) (fun h29 => ?_) (fun h29 => ?_)
  · rw [if_neg h29] at hf
    obtain rfl := Option.some.inj hf
    refine ev_sub [0] rfl ?_
    exact hr
  · rw [if_pos h29] at hf
    refine ev_aload_n dX12_griddle_147 0 rfl ?_
    refine ev_getK 13 dX12_griddle_148 (hS.lt (hc 75 rfl)) rfl (hS.K1 (hc 75 rfl) rfl) ciX12 (by decide) rfl flX12_79 ?_
    refine ev_iload_n dX12_griddle_151 1 rfl ?_
    refine ev_aload_n dX12_griddle_152 0 rfl ?_
    refine ev_getK 13 dX12_griddle_153 (hS.lt (hc 75 rfl)) rfl (hS.K1 (hc 75 rfl) rfl) ciX12 (by decide) rfl flX12_79 ?_
    refine ev_iconst dX12_griddle_156 ?_
    refine ev_iload_n dX12_griddle_157 1 rfl ?_
    refine ev_iadd dX12_griddle_158 ?_
    obtain ⟨g30, hf⟩ := gd_elim hf
    refine ev_lald dX12_griddle_159 (hS.lt (hc 83 rfl)) rfl (hS.mem _ (hc 83 rfl)) g30 ?_
    obtain ⟨g31, hf⟩ := gd_elim hf
    obtain ⟨μ32, hμ32, hf⟩ := lt_elim hf
    refine ev_last dX12_griddle_160 (hS.lt (hc 83 rfl)) rfl g31 (hS.up (hc 83 rfl) hμ32) ?_
    refine ev_iinc (al2 := [(1, vi (v28 + 1)), (0, vr g 75)]) dX12_griddle_161 1 rfl (by decide) rfl ?_
    refine ev_goto 142 dX12_griddle_164 (by decide) ?_
    obtain rfl := Option.some.inj hf
    refine ev_sub [1, 0] rfl ?_
    exact hr
def fX12_griddle_j67  (μ : Mem) : Option (Int × Mem) :=
  if w32 (μ 75 8) ≤ 0 then
    (loopN (fun s => fX12_griddle_b81 s.1 s.2) FU (0, μ)).bind fun q21 =>
    (loopN (fun s => fX12_griddle_b110 s.1 s.2) FU (0, q21)).bind fun q27 =>
    (loopN (fun s => fX12_griddle_b142 s.1 s.2) FU (0, q27)).bind fun q33 =>
    (fX12_begins q33).bind fun μ34 =>
    some ((0, μ34))
  else
    some (((μ 75 8), μ))
set_option maxRecDepth 4000 in
theorem tX12_griddle_j67 (hS : Sd M K P L) (hc : CIn P 75 92)  (μ : Mem)  {o : Int × Mem} (hf : fX12_griddle_j67 μ = some o) (hr : (fun o : Int × Mem => Φ (some (vi o.1)) M x (L o.2)) o) : Ev l D cy g K yX12_griddle cX12_griddle 2 (some .int) (rmd 56 0 0) (MX D cy g K (rmd 56 0 0) Φ) 0 0 M x (L μ) 67 [(0, vr g 75)] [] := by
  unfold fX12_griddle_j67 at hf
  refine ev_aload_n dX12_griddle_67 0 rfl ?_
  refine ev_getI 8 dX12_griddle_68 (hS.lt (hc 75 rfl)) rfl (hS.mem _ (hc 75 rfl)) ciX12 (by decide) rfl flX12_152 ?_
  refine ev_if_le 79 dX12_griddle_71 (by decide) (fun h15 => ?_) (fun h15 => ?_)
  · rw [if_pos h15] at hf
    refine ev_iconst dX12_griddle_79 ?_
    refine ev_istore_n (al2 := [(1, vi 0), (0, vr g 75)]) dX12_griddle_80 1 rfl (by decide) rfl ?_
    obtain ⟨q21, hq21, hf⟩ := Option.bind_eq_some_iff.mp hf
    refine ev_sub [1, 0] rfl ?_
    refine loop_ev (H := (fun s : Int × Mem => Ev l D cy g K yX12_griddle cX12_griddle 2 (some .int) (rmd 56 0 0) (MX D cy g K (rmd 56 0 0) Φ) 0 0 M x (L s.2) 81 [(0, vr g 75), (1, vi s.1)] [])) (Hx := (fun e : Mem => Ev l D cy g K yX12_griddle cX12_griddle 2 (some .int) (rmd 56 0 0) (MX D cy g K (rmd 56 0 0) Φ) 0 0 M x (L e) 108 [(0, vr g 75)] [])) (fun s o hb hr => tX12_griddle_b81 hS hc s.1 s.2 hb hr) FU _ _ hq21 ?_
    show Ev l D cy g K yX12_griddle cX12_griddle 2 (some .int) (rmd 56 0 0) (MX D cy g K (rmd 56 0 0) Φ) 0 0 M x (L q21) 108 [(0, vr g 75)] []
    refine ev_iconst dX12_griddle_108 ?_
    refine ev_istore_n (al2 := [(1, vi 0), (0, vr g 75)]) dX12_griddle_109 1 rfl (by decide) rfl ?_
    obtain ⟨q27, hq27, hf⟩ := Option.bind_eq_some_iff.mp hf
    refine ev_sub [1, 0] rfl ?_
    refine loop_ev (H := (fun s : Int × Mem => Ev l D cy g K yX12_griddle cX12_griddle 2 (some .int) (rmd 56 0 0) (MX D cy g K (rmd 56 0 0) Φ) 0 0 M x (L s.2) 110 [(0, vr g 75), (1, vi s.1)] [])) (Hx := (fun e : Mem => Ev l D cy g K yX12_griddle cX12_griddle 2 (some .int) (rmd 56 0 0) (MX D cy g K (rmd 56 0 0) Φ) 0 0 M x (L e) 140 [(0, vr g 75)] [])) (fun s o hb hr => tX12_griddle_b110 hS hc s.1 s.2 hb hr) FU _ _ hq27 ?_
    show Ev l D cy g K yX12_griddle cX12_griddle 2 (some .int) (rmd 56 0 0) (MX D cy g K (rmd 56 0 0) Φ) 0 0 M x (L q27) 140 [(0, vr g 75)] []
    refine ev_iconst dX12_griddle_140 ?_
    refine ev_istore_n (al2 := [(1, vi 0), (0, vr g 75)]) dX12_griddle_141 1 rfl (by decide) rfl ?_
    obtain ⟨q33, hq33, hf⟩ := Option.bind_eq_some_iff.mp hf
    refine ev_sub [1, 0] rfl ?_
    refine loop_ev (H := (fun s : Int × Mem => Ev l D cy g K yX12_griddle cX12_griddle 2 (some .int) (rmd 56 0 0) (MX D cy g K (rmd 56 0 0) Φ) 0 0 M x (L s.2) 142 [(0, vr g 75), (1, vi s.1)] [])) (Hx := (fun e : Mem => Ev l D cy g K yX12_griddle cX12_griddle 2 (some .int) (rmd 56 0 0) (MX D cy g K (rmd 56 0 0) Φ) 0 0 M x (L e) 167 [(0, vr g 75)] [])) (fun s o hb hr => tX12_griddle_b142 hS hc s.1 s.2 hb hr) FU _ _ hq33 ?_
    show Ev l D cy g K yX12_griddle cX12_griddle 2 (some .int) (rmd 56 0 0) (MX D cy g K (rmd 56 0 0) Φ) 0 0 M x (L q33) 167 [(0, vr g 75)] []
    refine ev_aload_n dX12_griddle_167 0 rfl ?_
    obtain ⟨μ34, hμ34, hf⟩ := Option.bind_eq_some_iff.mp hf
    refine cl_V0 (As := []) (st := []) miX12_begins (tX12_begins hS (hc.w rfl rfl) q33 hμ34) dX12_griddle_168 lkX12_123 inX12_begins rfl (hS.lt (hc 75 rfl)) rfl ⟨rfl, rfl⟩ ⟨⟨Nat.le_of_ble_eq_true rfl, Nat.le_of_ble_eq_true rfl⟩, Nat.zero_le _, Nat.zero_le _⟩ (Nat.le_of_ble_eq_true rfl) ?_
    refine ev_iconst dX12_griddle_171 ?_
    obtain rfl := Option.some.inj hf
    exact ev_iret dX12_griddle_172 rfl ⟨Nat.zero_le _, Nat.zero_le _⟩ hr
  · rw [if_neg h15] at hf
    refine ev_aload_n dX12_griddle_74 0 rfl ?_
    refine ev_getI 8 dX12_griddle_75 (hS.lt (hc 75 rfl)) rfl (hS.mem _ (hc 75 rfl)) ciX12 (by decide) rfl flX12_152 ?_
    obtain rfl := Option.some.inj hf
    exact ev_iret dX12_griddle_78 rfl ⟨Nat.zero_le _, Nat.zero_le _⟩ hr
def fX12_griddle  (μ : Mem) : Option (Int × Mem) :=
  lt (upd2 μ 75 0 0) fun μ1 =>
  (fX12_cutAll μ1).bind fun μ2 =>
  lt (upd2 μ2 75 12 0) fun μ3 =>
  (fX12_standsAsAlways 20 μ3).bind fun μ4 =>
  (loopN (fun s => fX12_griddle_b20 s) FU μ4).bind fun q14 =>
  fX12_griddle_j67 q14
set_option maxRecDepth 4000 in
theorem eX12_griddle (hS : Sd M K P L) (hc : CIn P 75 92)  (μ : Mem)  {o : Int × Mem} (hf : fX12_griddle  μ = some o) (hr : (fun o : Int × Mem => Φ (some (vi o.1)) M x (L o.2)) o) : Ev l D cy g K yX12_griddle cX12_griddle 2 (some .int) (rmd 56 0 0) (MX D cy g K (rmd 56 0 0) Φ) 0 0 M x (L μ) 0 [(0, vr g 75)] [] := by
  unfold fX12_griddle at hf
  refine ev_aload_n dX12_griddle_0 0 rfl ?_
  refine ev_iconst dX12_griddle_1 ?_
  obtain ⟨μ1, hμ1, hf⟩ := lt_elim hf
  refine ev_putI 0 dX12_griddle_2 (hS.lt (hc 75 rfl)) rfl ciX12 (by decide) (Or.inl rfl) rfl rfl flX12_1 (hS.up (hc 75 rfl) hμ1) ?_
  refine ev_aload_n dX12_griddle_5 0 rfl ?_
  obtain ⟨μ2, hμ2, hf⟩ := Option.bind_eq_some_iff.mp hf
  refine cl_V0 (As := []) (st := []) miX12_cutAll (tX12_cutAll hS (hc.w rfl rfl) μ1 hμ2) dX12_griddle_6 lkX12_171 inX12_cutAll rfl (hS.lt (hc 75 rfl)) rfl ⟨rfl, rfl⟩ ⟨⟨Nat.le_of_ble_eq_true rfl, Nat.le_of_ble_eq_true rfl⟩, Nat.zero_le _, Nat.zero_le _⟩ (Nat.le_of_ble_eq_true rfl) ?_
  refine ev_aload_n dX12_griddle_9 0 rfl ?_
  refine ev_iconst dX12_griddle_10 ?_
  obtain ⟨μ3, hμ3, hf⟩ := lt_elim hf
  refine ev_putI 12 dX12_griddle_11 (hS.lt (hc 75 rfl)) rfl ciX12 (by decide) (Or.inl rfl) rfl rfl flX12_174 (hS.up (hc 75 rfl) hμ3) ?_
  refine ev_aload_n dX12_griddle_14 0 rfl ?_
  refine ev_bipush dX12_griddle_15 (by decide) ?_
  obtain ⟨μ4, hμ4, hf⟩ := Option.bind_eq_some_iff.mp hf
  refine cl_V0 (As := [vi 20]) (st := []) miX12_standsAsAlways (tX12_standsAsAlways hS (hc.w rfl rfl) 20 μ3 hμ4) dX12_griddle_17 lkX12_119 inX12_standsAsAlways rfl (hS.lt (hc 75 rfl)) rfl ⟨rfl, rfl⟩ ⟨⟨Nat.le_of_ble_eq_true rfl, Nat.le_of_ble_eq_true rfl⟩, Nat.zero_le _, Nat.zero_le _⟩ (Nat.le_of_ble_eq_true rfl) ?_
  obtain ⟨q14, hq14, hf⟩ := Option.bind_eq_some_iff.mp hf
  refine ev_sub [0] rfl ?_
  refine loop_ev (H := (fun s : Mem => Ev l D cy g K yX12_griddle cX12_griddle 2 (some .int) (rmd 56 0 0) (MX D cy g K (rmd 56 0 0) Φ) 0 0 M x (L s) 20 [(0, vr g 75)] [])) (Hx := (fun e : Mem => Ev l D cy g K yX12_griddle cX12_griddle 2 (some .int) (rmd 56 0 0) (MX D cy g K (rmd 56 0 0) Φ) 0 0 M x (L e) 67 [(0, vr g 75)] [])) (fun s o hb hr => tX12_griddle_b20 hS hc s hb hr) FU _ _ hq14 ?_
  show Ev l D cy g K yX12_griddle cX12_griddle 2 (some .int) (rmd 56 0 0) (MX D cy g K (rmd 56 0 0) Φ) 0 0 M x (L q14) 67 [(0, vr g 75)] []
  refine ev_sub [0] rfl ?_
  exact tX12_griddle_j67 hS hc q14 hf hr
theorem tX12_griddle (hS : Sd M K P L) (hc : CIn P 75 92) (μ : Mem) {o : Int × Mem} (hf : fX12_griddle μ = some o) : Cn l D cy g K K yX12_griddle cX12_griddle 2 (some .int) (rmd 56 0 0) [vr g 75] M x (L μ) (PE (some (vi o.1)) M x (L o.2)) :=
 Cn.of (by decide) (Nat.le_of_ble_eq_true rfl) (eX12_griddle hS hc μ hf (PE_i _ _ _ _))
def fX12_plan_b11 (v3 : Int) (μ : Mem) : Option ((Int × Mem) ⊕ (Int × Mem)) :=
  if w32 (μ 75 8) = 0 then
    gd (0 ≤ w32 (μ 75 7) ∧ w32 (μ 75 7) < 1002) <|
    if w32 (μ 77 (w32 (μ 75 7)).toNat) = 0 then
      some (.inr (v3, μ))
    else
      (fX12_isWord 6 μ).bind fun v7 =>
      if v7 = true then
        if w32 v3 = w32 40 then
          (fX12_wrong 5 μ).bind fun μ15 =>
          (fX12_takeSign 59 μ15).bind fun μ16 =>
          some (.inl (v3, μ16))
        else
          lt (upd2 μ 75 7 ((μ 75 7) + 1)) fun μ10 =>
          (fX12_takeNumber 1 (μ10 81 0) μ10).bind fun q11 =>
          gd (0 ≤ w32 (41 + v3) ∧ w32 (41 + v3) < 82) <|
          lt (upd2 q11.2 84 ((w32 (41 + v3)).toNat) q11.1) fun μ13 =>
          (fX12_takeSign 59 μ13).bind fun μ14 =>
          some (.inl ((v3 + 1), μ14))
      else
        (fX12_wrong 1 μ).bind fun μ17 =>
        (fX12_takeSign 59 μ17).bind fun μ18 =>
        some (.inl (v3, μ18))
  else
    some (.inr (v3, μ))
set_option maxRecDepth 4000 in
theorem tX12_plan_b11 (hS : Sd M K P L) (hc : CIn P 75 85) (v3 : Int) (μ : Mem)  {o : (Int × Mem) ⊕ (Int × Mem)} (hf : fX12_plan_b11 v3 μ = some o) (hr : (Sum.elim (fun s : Int × Mem => Ev l D cy g K yX12_plan cX12_plan 3 (some .int) (rmd 4 0 0) (MX D cy g K (rmd 4 0 0) Φ) 0 0 M x (L s.2) 11 [(0, vr g 75), (1, vi s.1)] []) (fun e : Int × Mem => Ev l D cy g K yX12_plan cX12_plan 3 (some .int) (rmd 4 0 0) (MX D cy g K (rmd 4 0 0) Φ) 0 0 M x (L e.2) 101 [(0, vr g 75), (1, vi e.1)] [])) o) : Ev l D cy g K yX12_plan cX12_plan 3 (some .int) (rmd 4 0 0) (MX D cy g K (rmd 4 0 0) Φ) 0 0 M x (L μ) 11 [(0, vr g 75), (1, vi v3)] [] := by
  unfold fX12_plan_b11 at hf
  refine ev_aload_n dX12_plan_11 0 rfl ?_
  refine ev_getI 8 dX12_plan_12 (hS.lt (hc 75 rfl)) rfl (hS.mem _ (hc 75 rfl)) ciX12 (by decide) rfl flX12_152 ?_
  refine ev_if_ne 101 dX12_plan_15 (by decide) (fun h4 => ?_) (fun h4 => ?_)
  · rw [if_neg h4] at hf
    obtain rfl := Option.some.inj hf
    refine ev_sub [0, 1] rfl ?_
    exact hr
  · rw [if_pos h4] at hf
    refine ev_aload_n dX12_plan_18 0 rfl ?_
    refine ev_getK 4 dX12_plan_19 (hS.lt (hc 75 rfl)) rfl (hS.K1 (hc 75 rfl) rfl) ciX12 (by decide) rfl flX12_24 ?_
    refine ev_aload_n dX12_plan_22 0 rfl ?_
    refine ev_getI 7 dX12_plan_23 (hS.lt (hc 75 rfl)) rfl (hS.mem _ (hc 75 rfl)) ciX12 (by decide) rfl flX12_149 ?_
    obtain ⟨g5, hf⟩ := gd_elim hf
    refine ev_iald dX12_plan_26 (hS.lt (hc 77 rfl)) rfl (hS.mem _ (hc 77 rfl)) g5 ?_
    refine ev_if_eq 101 dX12_plan_27 (by decide) (fun h6 => ?_) (fun h6 => ?_)
    · rw [if_pos h6] at hf
      obtain rfl := Option.some.inj hf
      refine ev_sub [0, 1] rfl ?_
      exact hr
    · rw [if_neg h6] at hf
      refine ev_aload_n dX12_plan_30 0 rfl ?_
      refine ev_bipush dX12_plan_31 (by decide) ?_
      obtain ⟨v7, hv7, hf⟩ := Option.bind_eq_some_iff.mp hf
      refine cl_V1 (As := [vi 6]) (st := []) miX12_isWord (tX12_isWord hS (hc.w rfl rfl) 6 μ hv7) dX12_plan_33 lkX12_161 inX12_isWord rfl (hS.lt (hc 75 rfl)) rfl ⟨rfl, rfl⟩ ⟨⟨Nat.le_of_ble_eq_true rfl, Nat.le_of_ble_eq_true rfl⟩, Nat.zero_le _, Nat.zero_le _⟩ (Nat.le_of_ble_eq_true rfl) ?_
      refine ev_ifb_ne 47 dX12_plan_36 (by decide) (fun h8 => ?_) (fun h8 => ?_)
      · rw [if_pos h8] at hf
        refine ev_iload_n dX12_plan_47 1 rfl ?_
        refine ev_bipush dX12_plan_48 (by decide) ?_
        refine ev_icmp_ne 61 dX12_plan_50 (by decide) (fun h9 => ?_) (fun h9 => ?_)
        · rw [if_neg h9] at hf
          refine ev_aload_n dX12_plan_61 0 rfl ?_
          refine ev_dup dX12_plan_62 rfl ?_
          refine ev_getI 7 dX12_plan_63 (hS.lt (hc 75 rfl)) rfl (hS.mem _ (hc 75 rfl)) ciX12 (by decide) rfl flX12_149 ?_
          refine ev_iconst dX12_plan_66 ?_
          refine ev_iadd dX12_plan_67 ?_
          obtain ⟨μ10, hμ10, hf⟩ := lt_elim hf
          refine ev_putI 7 dX12_plan_68 (hS.lt (hc 75 rfl)) rfl ciX12 (by decide) (Or.inl rfl) rfl rfl flX12_149 (hS.up (hc 75 rfl) hμ10) ?_
          refine ev_aload_n dX12_plan_71 0 rfl ?_
          refine ev_getK 14 dX12_plan_72 (hS.lt (hc 75 rfl)) rfl (hS.K1 (hc 75 rfl) rfl) ciX12 (by decide) rfl flX12_82 ?_
          refine ev_bipush dX12_plan_75 (by decide) ?_
          refine ev_iload_n dX12_plan_77 1 rfl ?_
          refine ev_iadd dX12_plan_78 ?_
          refine ev_aload_n dX12_plan_79 0 rfl ?_
          refine ev_iconst dX12_plan_80 ?_
          refine ev_aload_n dX12_plan_81 0 rfl ?_
          refine cl_V1 (As := []) (st := [vi 1, vr g 75, vi (41 + v3), vr g 84]) miX12_cakes (tX12_cakes hS (hc.w rfl rfl) μ10 (o := (μ10 81 0)) rfl) dX12_plan_82 lkX12_209 inX12_cakes rfl (hS.lt (hc 75 rfl)) rfl ⟨rfl, rfl⟩ ⟨⟨Nat.le_of_ble_eq_true rfl, Nat.le_of_ble_eq_true rfl⟩, Nat.zero_le _, Nat.zero_le _⟩ (Nat.le_of_ble_eq_true rfl) ?_
          obtain ⟨q11, hq11, hf⟩ := Option.bind_eq_some_iff.mp hf
          refine cl_V1 (As := [vi 1, vi (μ10 81 0)]) (st := [vi (41 + v3), vr g 84]) miX12_takeNumber (tX12_takeNumber hS (hc.w rfl rfl) 1 (μ10 81 0) μ10 hq11) dX12_plan_85 lkX12_199 inX12_takeNumber rfl (hS.lt (hc 75 rfl)) rfl ⟨rfl, rfl⟩ ⟨⟨Nat.le_of_ble_eq_true rfl, Nat.le_of_ble_eq_true rfl⟩, Nat.zero_le _, Nat.zero_le _⟩ (Nat.le_of_ble_eq_true rfl) ?_
          obtain ⟨g12, hf⟩ := gd_elim hf
          obtain ⟨μ13, hμ13, hf⟩ := lt_elim hf
          refine ev_iast dX12_plan_88 (hS.lt (hc 84 rfl)) rfl g12 (hS.up (hc 84 rfl) hμ13) ?_
          refine ev_iinc (al2 := [(1, vi (v3 + 1)), (0, vr g 75)]) dX12_plan_89 1 rfl (by decide) rfl ?_
          refine ev_aload_n dX12_plan_92 1 rfl ?_
          refine ev_bipush dX12_plan_93 (by decide) ?_
          obtain ⟨μ14, hμ14, hf⟩ := Option.bind_eq_some_iff.mp hf
          refine cl_V0 (As := [vi 59]) (st := []) miX12_takeSign (tX12_takeSign hS (hc.w rfl rfl) 59 μ13 hμ14) dX12_plan_95 lkX12_183 inX12_takeSign rfl (hS.lt (hc 75 rfl)) rfl ⟨rfl, rfl⟩ ⟨⟨Nat.le_of_ble_eq_true rfl, Nat.le_of_ble_eq_true rfl⟩, Nat.zero_le _, Nat.zero_le _⟩ (Nat.le_of_ble_eq_true rfl) ?_
          refine ev_goto 11 dX12_plan_98 (by decide) ?_
          obtain rfl := Option.some.inj hf
          refine ev_sub [1, 0] rfl ?_
          exact hr
        · rw [if_pos h9] at hf
          refine ev_aload_n dX12_plan_53 0 rfl ?_
          refine ev_iconst dX12_plan_54 ?_
          obtain ⟨μ15, hμ15, hf⟩ := Option.bind_eq_some_iff.mp hf
          refine cl_V0 (As := [vi 5]) (st := []) miX12_wrong (tX12_wrong hS (hc.w rfl rfl) 5 μ hμ15) dX12_plan_55 lkX12_158 inX12_wrong rfl (hS.lt (hc 75 rfl)) rfl ⟨rfl, rfl⟩ ⟨⟨Nat.le_of_ble_eq_true rfl, Nat.le_of_ble_eq_true rfl⟩, Nat.zero_le _, Nat.zero_le _⟩ (Nat.le_of_ble_eq_true rfl) ?_
          refine ev_goto 92 dX12_plan_58 (by decide) ?_
          refine ev_aload_n dX12_plan_92 0 rfl ?_
          refine ev_bipush dX12_plan_93 (by decide) ?_
          obtain ⟨μ16, hμ16, hf⟩ := Option.bind_eq_some_iff.mp hf
          refine cl_V0 (As := [vi 59]) (st := []) miX12_takeSign (tX12_takeSign hS (hc.w rfl rfl) 59 μ15 hμ16) dX12_plan_95 lkX12_183 inX12_takeSign rfl (hS.lt (hc 75 rfl)) rfl ⟨rfl, rfl⟩ ⟨⟨Nat.le_of_ble_eq_true rfl, Nat.le_of_ble_eq_true rfl⟩, Nat.zero_le _, Nat.zero_le _⟩ (Nat.le_of_ble_eq_true rfl) ?_
          refine ev_goto 11 dX12_plan_98 (by decide) ?_
          obtain rfl := Option.some.inj hf
          refine ev_sub [0, 1] rfl ?_
          exact hr
      · rw [if_neg h8] at hf
        refine ev_aload_n dX12_plan_39 0 rfl ?_
        refine ev_iconst dX12_plan_40 ?_
        obtain ⟨μ17, hμ17, hf⟩ := Option.bind_eq_some_iff.mp hf
        refine cl_V0 (As := [vi 1]) (st := []) miX12_wrong (tX12_wrong hS (hc.w rfl rfl) 1 μ hμ17) dX12_plan_41 lkX12_158 inX12_wrong rfl (hS.lt (hc 75 rfl)) rfl ⟨rfl, rfl⟩ ⟨⟨Nat.le_of_ble_eq_true rfl, Nat.le_of_ble_eq_true rfl⟩, Nat.zero_le _, Nat.zero_le _⟩ (Nat.le_of_ble_eq_true rfl) ?_
        refine ev_goto 92 dX12_plan_44 (by decide) ?_
        refine ev_aload_n dX12_plan_92 0 rfl ?_
        refine ev_bipush dX12_plan_93 (by decide) ?_
        obtain ⟨μ18, hμ18, hf⟩ := Option.bind_eq_some_iff.mp hf
        refine cl_V0 (As := [vi 59]) (st := []) miX12_takeSign (tX12_takeSign hS (hc.w rfl rfl) 59 μ17 hμ18) dX12_plan_95 lkX12_183 inX12_takeSign rfl (hS.lt (hc 75 rfl)) rfl ⟨rfl, rfl⟩ ⟨⟨Nat.le_of_ble_eq_true rfl, Nat.le_of_ble_eq_true rfl⟩, Nat.zero_le _, Nat.zero_le _⟩ (Nat.le_of_ble_eq_true rfl) ?_
        refine ev_goto 11 dX12_plan_98 (by decide) ?_
        obtain rfl := Option.some.inj hf
        refine ev_sub [0, 1] rfl ?_
        exact hr
def fX12_plan_b122 (v20 : Int) (v23 : Int) (μ : Mem) : Option ((Int × Mem) ⊕ (Mem)) :=
  if w32 v23 < w32 v20 then
    gd (0 ≤ w32 (41 + v23) ∧ w32 (41 + v23) < 82) <|
    gd (0 ≤ w32 (1 + v23) ∧ w32 (1 + v23) < 82) <|
    lt (upd2 μ 84 ((w32 (1 + v23)).toNat) (μ 84 (w32 (41 + v23)).toNat)) fun μ27 =>
    some (.inl ((v23 + 1), μ27))
  else
    some (.inr μ)
set_option maxRecDepth 4000 in
theorem tX12_plan_b122 (hS : Sd M K P L) (hc : CIn P 75 85) (v20 : Int) (v23 : Int) (μ : Mem)  {o : (Int × Mem) ⊕ (Mem)} (hf : fX12_plan_b122 v20 v23 μ = some o) (hr : (Sum.elim (fun s : Int × Mem => Ev l D cy g K yX12_plan cX12_plan 3 (some .int) (rmd 4 0 0) (MX D cy g K (rmd 4 0 0) Φ) 0 0 M x (L s.2) 122 [(0, vr g 75), (1, vi v20), (2, vi s.1)] []) (fun e : Mem => Ev l D cy g K yX12_plan cX12_plan 3 (some .int) (rmd 4 0 0) (MX D cy g K (rmd 4 0 0) Φ) 0 0 M x (L e) 150 [] [])) o) : Ev l D cy g K yX12_plan cX12_plan 3 (some .int) (rmd 4 0 0) (MX D cy g K (rmd 4 0 0) Φ) 0 0 M x (L μ) 122 [(0, vr g 75), (1, vi v20), (2, vi v23)] [] := by
  unfold fX12_plan_b122 at hf
  refine ev_iload_n dX12_plan_122 2 rfl ?_
  refine ev_iload_n dX12_plan_123 1 rfl ?_
  refine ev_icmp_ge 150 dX12_plan_124 (by decide) (fun h24 => ?_) (fun h24 => ?_)
  · rw [if_neg h24] at hf
    obtain rfl := Option.some.inj hf
    refine ev_sub [] rfl ?_
    exact hr
  · rw [if_pos h24] at hf
    refine ev_aload_n dX12_plan_127 0 rfl ?_
    refine ev_getK 14 dX12_plan_128 (hS.lt (hc 75 rfl)) rfl (hS.K1 (hc 75 rfl) rfl) ciX12 (by decide) rfl flX12_82 ?_
    refine ev_iconst dX12_plan_131 ?_
    refine ev_iload_n dX12_plan_132 2 rfl ?_
    refine ev_iadd dX12_plan_133 ?_
    refine ev_aload_n dX12_plan_134 0 rfl ?_
    refine ev_getK 14 dX12_plan_135 (hS.lt (hc 75 rfl)) rfl (hS.K1 (hc 75 rfl) rfl) ciX12 (by decide) rfl flX12_82 ?_
    refine ev_bipush dX12_plan_138 (by decide) ?_
    refine ev_iload_n dX12_plan_140 2 rfl ?_
    refine ev_iadd dX12_plan_141 ?_
    obtain ⟨g25, hf⟩ := gd_elim hf
    refine ev_iald dX12_plan_142 (hS.lt (hc 84 rfl)) rfl (hS.mem _ (hc 84 rfl)) g25 ?_
    obtain ⟨g26, hf⟩ := gd_elim hf
    obtain ⟨μ27, hμ27, hf⟩ := lt_elim hf
    refine ev_iast dX12_plan_143 (hS.lt (hc 84 rfl)) rfl g26 (hS.up (hc 84 rfl) hμ27) ?_
    refine ev_iinc (al2 := [(2, vi (v23 + 1)), (0, vr g 75), (1, vi v20)]) dX12_plan_144 2 rfl (by decide) rfl ?_
    refine ev_goto 122 dX12_plan_147 (by decide) ?_
    obtain rfl := Option.some.inj hf
    refine ev_sub [1, 2, 0] rfl ?_
    exact hr
def fX12_plan_j101 (v20 : Int) (μ : Mem) : Option (Int × Mem) :=
  if w32 (μ 75 8) ≤ 0 then
    lt (upd2 μ 84 0 v20) fun μ22 =>
    (loopN (fun s => fX12_plan_b122 v20 s.1 s.2) FU (0, μ22)).bind fun q28 =>
    some ((0, q28))
  else
    some (((μ 75 8), μ))
set_option maxRecDepth 4000 in
theorem tX12_plan_j101 (hS : Sd M K P L) (hc : CIn P 75 85) (v20 : Int) (μ : Mem)  {o : Int × Mem} (hf : fX12_plan_j101 v20 μ = some o) (hr : (fun o : Int × Mem => Φ (some (vi o.1)) M x (L o.2)) o) : Ev l D cy g K yX12_plan cX12_plan 3 (some .int) (rmd 4 0 0) (MX D cy g K (rmd 4 0 0) Φ) 0 0 M x (L μ) 101 [(0, vr g 75), (1, vi v20)] [] := by
  unfold fX12_plan_j101 at hf
  refine ev_aload_n dX12_plan_101 0 rfl ?_
  refine ev_getI 8 dX12_plan_102 (hS.lt (hc 75 rfl)) rfl (hS.mem _ (hc 75 rfl)) ciX12 (by decide) rfl flX12_152 ?_
  refine ev_if_le 113 dX12_plan_105 (by decide) (fun h21 => ?_) (fun h21 => ?_)
  · rw [if_pos h21] at hf
    refine ev_aload_n dX12_plan_113 0 rfl ?_
    refine ev_getK 14 dX12_plan_114 (hS.lt (hc 75 rfl)) rfl (hS.K1 (hc 75 rfl) rfl) ciX12 (by decide) rfl flX12_82 ?_
    refine ev_iconst dX12_plan_117 ?_
    refine ev_iload_n dX12_plan_118 1 rfl ?_
    obtain ⟨μ22, hμ22, hf⟩ := lt_elim hf
    refine ev_iast (N2 := L μ22) dX12_plan_119 (hS.lt (hc 84 rfl)) rfl ⟨by decide, by decide⟩ (by rw [show (w32 0).toNat = 0 from by decide]; exact hS.up (hc 84 rfl) hμ22) ?_
    refine ev_iconst dX12_plan_120 ?_
    refine ev_istore_n (al2 := [(2, vi 0), (0, vr g 75), (1, vi v20)]) dX12_plan_121 2 rfl (by decide) rfl ?_
    obtain ⟨q28, hq28, hf⟩ := Option.bind_eq_some_iff.mp hf
    refine ev_sub [1, 2, 0] rfl ?_
    refine loop_ev (H := (fun s : Int × Mem => Ev l D cy g K yX12_plan cX12_plan 3 (some .int) (rmd 4 0 0) (MX D cy g K (rmd 4 0 0) Φ) 0 0 M x (L s.2) 122 [(0, vr g 75), (1, vi v20), (2, vi s.1)] [])) (Hx := (fun e : Mem => Ev l D cy g K yX12_plan cX12_plan 3 (some .int) (rmd 4 0 0) (MX D cy g K (rmd 4 0 0) Φ) 0 0 M x (L e) 150 [] [])) (fun s o hb hr => tX12_plan_b122 hS hc v20 s.1 s.2 hb hr) FU _ _ hq28 ?_
    show Ev l D cy g K yX12_plan cX12_plan 3 (some .int) (rmd 4 0 0) (MX D cy g K (rmd 4 0 0) Φ) 0 0 M x (L q28) 150 [] []
    refine ev_iconst dX12_plan_150 ?_
    obtain rfl := Option.some.inj hf
    exact ev_iret dX12_plan_151 rfl ⟨Nat.zero_le _, Nat.zero_le _⟩ hr
  · rw [if_neg h21] at hf
    refine ev_aload_n dX12_plan_108 0 rfl ?_
    refine ev_getI 8 dX12_plan_109 (hS.lt (hc 75 rfl)) rfl (hS.mem _ (hc 75 rfl)) ciX12 (by decide) rfl flX12_152 ?_
    obtain rfl := Option.some.inj hf
    exact ev_iret dX12_plan_112 rfl ⟨Nat.zero_le _, Nat.zero_le _⟩ hr
def fX12_plan  (μ : Mem) : Option (Int × Mem) :=
  lt (upd2 μ 75 0 0) fun μ1 =>
  (fX12_cutAll μ1).bind fun μ2 =>
  (loopN (fun s => fX12_plan_b11 s.1 s.2) FU (0, μ2)).bind fun q19 =>
  fX12_plan_j101 q19.1 q19.2
set_option maxRecDepth 4000 in
theorem eX12_plan (hS : Sd M K P L) (hc : CIn P 75 85)  (μ : Mem)  {o : Int × Mem} (hf : fX12_plan  μ = some o) (hr : (fun o : Int × Mem => Φ (some (vi o.1)) M x (L o.2)) o) : Ev l D cy g K yX12_plan cX12_plan 3 (some .int) (rmd 4 0 0) (MX D cy g K (rmd 4 0 0) Φ) 0 0 M x (L μ) 0 [(0, vr g 75)] [] := by
  unfold fX12_plan at hf
  refine ev_aload_n dX12_plan_0 0 rfl ?_
  refine ev_iconst dX12_plan_1 ?_
  obtain ⟨μ1, hμ1, hf⟩ := lt_elim hf
  refine ev_putI 0 dX12_plan_2 (hS.lt (hc 75 rfl)) rfl ciX12 (by decide) (Or.inl rfl) rfl rfl flX12_1 (hS.up (hc 75 rfl) hμ1) ?_
  refine ev_aload_n dX12_plan_5 0 rfl ?_
  obtain ⟨μ2, hμ2, hf⟩ := Option.bind_eq_some_iff.mp hf
  refine cl_V0 (As := []) (st := []) miX12_cutAll (tX12_cutAll hS (hc.w rfl rfl) μ1 hμ2) dX12_plan_6 lkX12_171 inX12_cutAll rfl (hS.lt (hc 75 rfl)) rfl ⟨rfl, rfl⟩ ⟨⟨Nat.le_of_ble_eq_true rfl, Nat.le_of_ble_eq_true rfl⟩, Nat.zero_le _, Nat.zero_le _⟩ (Nat.le_of_ble_eq_true rfl) ?_
  refine ev_iconst dX12_plan_9 ?_
  refine ev_istore_n (al2 := [(1, vi 0), (0, vr g 75)]) dX12_plan_10 1 rfl (by decide) rfl ?_
  obtain ⟨q19, hq19, hf⟩ := Option.bind_eq_some_iff.mp hf
  refine ev_sub [1, 0] rfl ?_
  refine loop_ev (H := (fun s : Int × Mem => Ev l D cy g K yX12_plan cX12_plan 3 (some .int) (rmd 4 0 0) (MX D cy g K (rmd 4 0 0) Φ) 0 0 M x (L s.2) 11 [(0, vr g 75), (1, vi s.1)] [])) (Hx := (fun e : Int × Mem => Ev l D cy g K yX12_plan cX12_plan 3 (some .int) (rmd 4 0 0) (MX D cy g K (rmd 4 0 0) Φ) 0 0 M x (L e.2) 101 [(0, vr g 75), (1, vi e.1)] [])) (fun s o hb hr => tX12_plan_b11 hS hc s.1 s.2 hb hr) FU _ _ hq19 ?_
  show Ev l D cy g K yX12_plan cX12_plan 3 (some .int) (rmd 4 0 0) (MX D cy g K (rmd 4 0 0) Φ) 0 0 M x (L q19.2) 101 [(0, vr g 75), (1, vi q19.1)] []
  refine ev_sub [0, 1] rfl ?_
  exact tX12_plan_j101 hS hc q19.1 q19.2 hf hr
theorem tX12_plan (hS : Sd M K P L) (hc : CIn P 75 85) (μ : Mem) {o : Int × Mem} (hf : fX12_plan μ = some o) : Cn l D cy g K K yX12_plan cX12_plan 3 (some .int) (rmd 4 0 0) [vr g 75] M x (L μ) (PE (some (vi o.1)) M x (L o.2)) :=
 Cn.of (by decide) (Nat.le_of_ble_eq_true rfl) (eX12_plan hS hc μ hf (PE_i _ _ _ _))
def fX12_wish_j101 (v21 : Int) (v22 : Int) (v23 : Int) (μ : Mem) : Option ((Int × Int × Mem) ⊕ (Mem)) :=
  if w32 (μ 75 8) = 0 then
    lt (upd2 μ 75 7 ((μ 75 7) + 1)) fun μ25 =>
    lt (i_or v21 (i_shl 1 v23)) fun v26 =>
    gd (0 ≤ w32 (10 + (2 * v22)) ∧ w32 (10 + (2 * v22)) < 20) <|
    lt (upd2 μ25 85 ((w32 (10 + (2 * v22))).toNat) v23) fun μ28 =>
    (fX12_takeOne 2 2 μ28).bind fun q29 =>
    gd (0 ≤ w32 (11 + (2 * v22)) ∧ w32 (11 + (2 * v22)) < 20) <|
    lt (upd2 q29.2 85 ((w32 (11 + (2 * v22))).toNat) (1 - q29.1)) fun μ31 =>
    some (.inl (v26, (v22 + 1), μ31))
  else
    some (.inl (v21, (v22 + 1), μ))
set_option maxRecDepth 4000 in
theorem tX12_wish_j101 (hS : Sd M K P L) (hc : CIn P 75 86) (v21 : Int) (v22 : Int) (v23 : Int) (μ : Mem)  {o : (Int × Int × Mem) ⊕ (Mem)} (hf : fX12_wish_j101 v21 v22 v23 μ = some o) (hr : (Sum.elim (fun s : Int × Int × Mem => Ev l D cy g K yX12_wish cX12_wish 4 (some .int) (rmd 4 0 0) (MX D cy g K (rmd 4 0 0) Φ) 0 0 M x (L s.2.2) 13 [(0, vr g 75), (1, vi s.1), (2, vi s.2.1)] []) (fun e : Mem => Ev l D cy g K yX12_wish cX12_wish 4 (some .int) (rmd 4 0 0) (MX D cy g K (rmd 4 0 0) Φ) 0 0 M x (L e) 161 [(0, vr g 75)] [])) o) : Ev l D cy g K yX12_wish cX12_wish 4 (some .int) (rmd 4 0 0) (MX D cy g K (rmd 4 0 0) Φ) 0 0 M x (L μ) 101 [(0, vr g 75), (1, vi v21), (2, vi v22), (3, vi v23)] [] := by
  unfold fX12_wish_j101 at hf
  refine ev_aload_n dX12_wish_101 0 rfl ?_
  refine ev_getI 8 dX12_wish_102 (hS.lt (hc 75 rfl)) rfl (hS.mem _ (hc 75 rfl)) ciX12 (by decide) rfl flX12_152 ?_
  refine ev_if_ne 155 dX12_wish_105 (by decide) (fun h24 => ?_) (fun h24 => ?_)
  · rw [if_neg h24] at hf
    refine ev_iinc (al2 := [(2, vi (v22 + 1)), (0, vr g 75), (1, vi v21), (3, vi v23)]) dX12_wish_155 2 rfl (by decide) rfl ?_
    refine ev_goto 13 dX12_wish_158 (by decide) ?_
    obtain rfl := Option.some.inj hf
    refine ev_sub [1, 2, 0] rfl ?_
    exact hr
  · rw [if_pos h24] at hf
    refine ev_aload_n dX12_wish_108 0 rfl ?_
    refine ev_dup dX12_wish_109 rfl ?_
    refine ev_getI 7 dX12_wish_110 (hS.lt (hc 75 rfl)) rfl (hS.mem _ (hc 75 rfl)) ciX12 (by decide) rfl flX12_149 ?_
    refine ev_iconst dX12_wish_113 ?_
    refine ev_iadd dX12_wish_114 ?_
    obtain ⟨μ25, hμ25, hf⟩ := lt_elim hf
    refine ev_putI 7 dX12_wish_115 (hS.lt (hc 75 rfl)) rfl ciX12 (by decide) (Or.inl rfl) rfl rfl flX12_149 (hS.up (hc 75 rfl) hμ25) ?_
    refine ev_iload_n dX12_wish_118 1 rfl ?_
    refine ev_iconst dX12_wish_119 ?_
    refine ev_iload_n dX12_wish_120 3 rfl ?_
    refine ev_ishl dX12_wish_121 ?_
    refine ev_ior dX12_wish_122 ?_
    obtain ⟨v26, hv26, hf⟩ := lt_elim hf
    refine ev_rni hv26 ?_
    refine ev_istore_n (al2 := [(1, vi v26), (0, vr g 75), (2, vi v22), (3, vi v23)]) dX12_wish_123 1 rfl (by decide) rfl ?_
    refine ev_aload_n dX12_wish_124 1 rfl ?_
    refine ev_getK 15 dX12_wish_125 (hS.lt (hc 75 rfl)) rfl (hS.K1 (hc 75 rfl) rfl) ciX12 (by decide) rfl flX12_85 ?_
    refine ev_bipush dX12_wish_128 (by decide) ?_
    refine ev_iconst dX12_wish_130 ?_
    refine ev_iload_n dX12_wish_131 2 rfl ?_
    refine ev_imul dX12_wish_132 ?_
    refine ev_iadd dX12_wish_133 ?_
    refine ev_iload_n dX12_wish_134 3 rfl ?_
    obtain ⟨g27, hf⟩ := gd_elim hf
    obtain ⟨μ28, hμ28, hf⟩ := lt_elim hf
    refine ev_iast dX12_wish_135 (hS.lt (hc 85 rfl)) rfl g27 (hS.up (hc 85 rfl) hμ28) ?_
    refine ev_aload_n dX12_wish_136 1 rfl ?_
    refine ev_getK 15 dX12_wish_137 (hS.lt (hc 75 rfl)) rfl (hS.K1 (hc 75 rfl) rfl) ciX12 (by decide) rfl flX12_85 ?_
    refine ev_bipush dX12_wish_140 (by decide) ?_
    refine ev_iconst dX12_wish_142 ?_
    refine ev_iload_n dX12_wish_143 2 rfl ?_
    refine ev_imul dX12_wish_144 ?_
    refine ev_iadd dX12_wish_145 ?_
    refine ev_iconst dX12_wish_146 ?_
    refine ev_aload_n dX12_wish_147 1 rfl ?_
    refine ev_iconst dX12_wish_148 ?_
    refine ev_iconst dX12_wish_149 ?_
    obtain ⟨q29, hq29, hf⟩ := Option.bind_eq_some_iff.mp hf
    refine cl_V1 (As := [vi 2, vi 2]) (st := [vi 1, vi (11 + (2 * v22)), vr g 85]) miX12_takeOne (tX12_takeOne hS (hc.w rfl rfl) 2 2 μ28 hq29) dX12_wish_150 lkX12_193 inX12_takeOne rfl (hS.lt (hc 75 rfl)) rfl ⟨rfl, rfl⟩ ⟨⟨Nat.le_of_ble_eq_true rfl, Nat.le_of_ble_eq_true rfl⟩, Nat.zero_le _, Nat.zero_le _⟩ (Nat.le_of_ble_eq_true rfl) ?_
    refine ev_isub dX12_wish_153 ?_
    obtain ⟨g30, hf⟩ := gd_elim hf
    obtain ⟨μ31, hμ31, hf⟩ := lt_elim hf
    refine ev_iast dX12_wish_154 (hS.lt (hc 85 rfl)) rfl g30 (hS.up (hc 85 rfl) hμ31) ?_
    refine ev_iinc (al2 := [(2, vi (v22 + 1)), (1, vi v26), (0, vr g 75), (3, vi v23)]) dX12_wish_155 2 rfl (by decide) rfl ?_
    refine ev_goto 13 dX12_wish_158 (by decide) ?_
    obtain rfl := Option.some.inj hf
    refine ev_sub [2, 1, 0] rfl ?_
    exact hr
def fX12_wish_j80 (v17 : Int) (v18 : Int) (v19 : Int) (μ : Mem) : Option ((Int × Int × Mem) ⊕ (Mem)) :=
  if w32 (μ 75 8) = 0 then
    if w32 (i_and (i_shr v17 v19) 1) = w32 1 then
      (fX12_wrong 3 μ).bind fun μ36 =>
      fX12_wish_j101 v17 v18 v19 μ36
    else
      fX12_wish_j101 v17 v18 v19 μ
  else
    fX12_wish_j101 v17 v18 v19 μ
set_option maxRecDepth 4000 in
theorem tX12_wish_j80 (hS : Sd M K P L) (hc : CIn P 75 86) (v17 : Int) (v18 : Int) (v19 : Int) (μ : Mem)  {o : (Int × Int × Mem) ⊕ (Mem)} (hf : fX12_wish_j80 v17 v18 v19 μ = some o) (hr : (Sum.elim (fun s : Int × Int × Mem => Ev l D cy g K yX12_wish cX12_wish 4 (some .int) (rmd 4 0 0) (MX D cy g K (rmd 4 0 0) Φ) 0 0 M x (L s.2.2) 13 [(0, vr g 75), (1, vi s.1), (2, vi s.2.1)] []) (fun e : Mem => Ev l D cy g K yX12_wish cX12_wish 4 (some .int) (rmd 4 0 0) (MX D cy g K (rmd 4 0 0) Φ) 0 0 M x (L e) 161 [(0, vr g 75)] [])) o) : Ev l D cy g K yX12_wish cX12_wish 4 (some .int) (rmd 4 0 0) (MX D cy g K (rmd 4 0 0) Φ) 0 0 M x (L μ) 80 [(0, vr g 75), (1, vi v17), (2, vi v18), (3, vi v19)] [] := by
  unfold fX12_wish_j80 at hf
  refine ev_aload_n dX12_wish_80 0 rfl ?_
  refine ev_getI 8 dX12_wish_81 (hS.lt (hc 75 rfl)) rfl (hS.mem _ (hc 75 rfl)) ciX12 (by decide) rfl flX12_152 ?_
  refine ev_if_ne 101 dX12_wish_84 (by decide) (fun h20 => ?_) (fun h20 => ?_)
  · rw [if_neg h20] at hf
    refine ev_sub [0, 1, 2, 3] rfl ?_
    exact tX12_wish_j101 hS hc v17 v18 v19 μ hf hr
  · rw [if_pos h20] at hf
    refine ev_iload_n dX12_wish_87 1 rfl ?_
    refine ev_iload_n dX12_wish_88 3 rfl ?_
    refine ev_ishr dX12_wish_89 ?_
    refine ev_iconst dX12_wish_90 ?_
    refine ev_iand dX12_wish_91 ?_
    refine ev_iconst dX12_wish_92 ?_
    refine ev_icmp_ne 101 dX12_wish_93 (by decide) (fun h32 => ?_) (fun h32 => ?_)
    · rw [if_neg h32] at hf
      refine ev_sub [0, 1, 2, 3] rfl ?_
      exact tX12_wish_j101 hS hc v17 v18 v19 μ hf hr
    · rw [if_pos h32] at hf
      refine ev_aload_n dX12_wish_96 0 rfl ?_
      refine ev_iconst dX12_wish_97 ?_
      obtain ⟨μ36, hμ36, hf⟩ := Option.bind_eq_some_iff.mp hf
      refine cl_V0 (As := [vi 3]) (st := []) miX12_wrong (tX12_wrong hS (hc.w rfl rfl) 3 μ hμ36) dX12_wish_98 lkX12_158 inX12_wrong rfl (hS.lt (hc 75 rfl)) rfl ⟨rfl, rfl⟩ ⟨⟨Nat.le_of_ble_eq_true rfl, Nat.le_of_ble_eq_true rfl⟩, Nat.zero_le _, Nat.zero_le _⟩ (Nat.le_of_ble_eq_true rfl) ?_
      refine ev_sub [0, 1, 2, 3] rfl ?_
      exact tX12_wish_j101 hS hc v17 v18 v19 μ36 hf hr
def fX12_wish_j60 (v13 : Int) (v14 : Int) (w15 : Int) (μ : Mem) : Option ((Int × Int × Mem) ⊕ (Mem)) :=
  if w32 (μ 75 8) = 0 then
    if w32 w15 < 0 then
      (fX12_wrong 2 μ).bind fun μ44 =>
      fX12_wish_j101 v13 v14 w15 μ44
    else
      fX12_wish_j80 v13 v14 w15 μ
  else
    fX12_wish_j80 v13 v14 w15 μ
set_option maxRecDepth 4000 in
theorem tX12_wish_j60 (hS : Sd M K P L) (hc : CIn P 75 86) (v13 : Int) (v14 : Int) (w15 : Int) (μ : Mem)  {o : (Int × Int × Mem) ⊕ (Mem)} (hf : fX12_wish_j60 v13 v14 w15 μ = some o) (hr : (Sum.elim (fun s : Int × Int × Mem => Ev l D cy g K yX12_wish cX12_wish 4 (some .int) (rmd 4 0 0) (MX D cy g K (rmd 4 0 0) Φ) 0 0 M x (L s.2.2) 13 [(0, vr g 75), (1, vi s.1), (2, vi s.2.1)] []) (fun e : Mem => Ev l D cy g K yX12_wish cX12_wish 4 (some .int) (rmd 4 0 0) (MX D cy g K (rmd 4 0 0) Φ) 0 0 M x (L e) 161 [(0, vr g 75)] [])) o) : Ev l D cy g K yX12_wish cX12_wish 4 (some .int) (rmd 4 0 0) (MX D cy g K (rmd 4 0 0) Φ) 0 0 M x (L μ) 60 [(0, vr g 75), (1, vi v13), (2, vi v14)] [vi w15] := by
  unfold fX12_wish_j60 at hf
  refine ev_istore_n (al2 := [(3, vi w15), (0, vr g 75), (1, vi v13), (2, vi v14)]) dX12_wish_60 3 rfl (by decide) rfl ?_
  refine ev_aload_n dX12_wish_61 1 rfl ?_
  refine ev_getI 8 dX12_wish_62 (hS.lt (hc 75 rfl)) rfl (hS.mem _ (hc 75 rfl)) ciX12 (by decide) rfl flX12_152 ?_
  refine ev_if_ne 80 dX12_wish_65 (by decide) (fun h16 => ?_) (fun h16 => ?_)
  · rw [if_neg h16] at hf
    refine ev_sub [1, 2, 3, 0] rfl ?_
    exact tX12_wish_j80 hS hc v13 v14 w15 μ hf hr
  · rw [if_pos h16] at hf
    refine ev_iload_n dX12_wish_68 0 rfl ?_
    refine ev_if_ge 80 dX12_wish_69 (by decide) (fun h40 => ?_) (fun h40 => ?_)
    · rw [if_neg h40] at hf
      refine ev_sub [1, 2, 3, 0] rfl ?_
      exact tX12_wish_j80 hS hc v13 v14 w15 μ hf hr
    · rw [if_pos h40] at hf
      refine ev_aload_n dX12_wish_72 1 rfl ?_
      refine ev_iconst dX12_wish_73 ?_
      obtain ⟨μ44, hμ44, hf⟩ := Option.bind_eq_some_iff.mp hf
      refine cl_V0 (As := [vi 2]) (st := []) miX12_wrong (tX12_wrong hS (hc.w rfl rfl) 2 μ hμ44) dX12_wish_74 lkX12_158 inX12_wrong rfl (hS.lt (hc 75 rfl)) rfl ⟨rfl, rfl⟩ ⟨⟨Nat.le_of_ble_eq_true rfl, Nat.le_of_ble_eq_true rfl⟩, Nat.zero_le _, Nat.zero_le _⟩ (Nat.le_of_ble_eq_true rfl) ?_
      refine ev_goto 101 dX12_wish_77 (by decide) ?_
      refine ev_sub [1, 2, 3, 0] rfl ?_
      exact tX12_wish_j101 hS hc v13 v14 w15 μ44 hf hr
def fX12_wish_j40 (v9 : Int) (v10 : Int) (μ : Mem) : Option ((Int × Int × Mem) ⊕ (Mem)) :=
  if w32 (μ 75 8) ≤ 0 then
    (fX12_nameAt 0 (μ 81 0) μ).bind fun v12 =>
    fX12_wish_j60 v9 v10 v12 μ
  else
    fX12_wish_j60 v9 v10 (-1) μ
set_option maxRecDepth 4000 in
theorem tX12_wish_j40 (hS : Sd M K P L) (hc : CIn P 75 86) (v9 : Int) (v10 : Int) (μ : Mem)  {o : (Int × Int × Mem) ⊕ (Mem)} (hf : fX12_wish_j40 v9 v10 μ = some o) (hr : (Sum.elim (fun s : Int × Int × Mem => Ev l D cy g K yX12_wish cX12_wish 4 (some .int) (rmd 4 0 0) (MX D cy g K (rmd 4 0 0) Φ) 0 0 M x (L s.2.2) 13 [(0, vr g 75), (1, vi s.1), (2, vi s.2.1)] []) (fun e : Mem => Ev l D cy g K yX12_wish cX12_wish 4 (some .int) (rmd 4 0 0) (MX D cy g K (rmd 4 0 0) Φ) 0 0 M x (L e) 161 [(0, vr g 75)] [])) o) : Ev l D cy g K yX12_wish cX12_wish 4 (some .int) (rmd 4 0 0) (MX D cy g K (rmd 4 0 0) Φ) 0 0 M x (L μ) 40 [(0, vr g 75), (1, vi v9), (2, vi v10)] [] := by
  unfold fX12_wish_j40 at hf
  refine ev_aload_n dX12_wish_40 0 rfl ?_
  refine ev_getI 8 dX12_wish_41 (hS.lt (hc 75 rfl)) rfl (hS.mem _ (hc 75 rfl)) ciX12 (by decide) rfl flX12_152 ?_
  refine ev_if_le 51 dX12_wish_44 (by decide) (fun h11 => ?_) (fun h11 => ?_)
  · rw [if_pos h11] at hf
    refine ev_aload_n dX12_wish_51 0 rfl ?_
    refine ev_iconst dX12_wish_52 ?_
    refine ev_aload_n dX12_wish_53 0 rfl ?_
    refine cl_V1 (As := []) (st := [vi 0, vr g 75]) miX12_cakes (tX12_cakes hS (hc.w rfl rfl) μ (o := (μ 81 0)) rfl) dX12_wish_54 lkX12_209 inX12_cakes rfl (hS.lt (hc 75 rfl)) rfl ⟨rfl, rfl⟩ ⟨⟨Nat.le_of_ble_eq_true rfl, Nat.le_of_ble_eq_true rfl⟩, Nat.zero_le _, Nat.zero_le _⟩ (Nat.le_of_ble_eq_true rfl) ?_
    obtain ⟨v12, hv12, hf⟩ := Option.bind_eq_some_iff.mp hf
    refine cl_V1 (As := [vi 0, vi (μ 81 0)]) (st := []) miX12_nameAt (tX12_nameAt hS (hc.w rfl rfl) 0 (μ 81 0) μ hv12) dX12_wish_57 lkX12_190 inX12_nameAt rfl (hS.lt (hc 75 rfl)) rfl ⟨rfl, rfl⟩ ⟨⟨Nat.le_of_ble_eq_true rfl, Nat.le_of_ble_eq_true rfl⟩, Nat.zero_le _, Nat.zero_le _⟩ (Nat.le_of_ble_eq_true rfl) ?_
    refine ev_sub [0, 1, 2] rfl ?_
    exact tX12_wish_j60 hS hc v9 v10 v12 μ hf hr
  · rw [if_neg h11] at hf
    refine ev_iconst dX12_wish_47 ?_
    refine ev_goto 60 dX12_wish_48 (by decide) ?_
    refine ev_sub [0, 1, 2] rfl ?_
    exact tX12_wish_j60 hS hc v9 v10 (-1) μ hf hr
def fX12_wish_b13 (v3 : Int) (v4 : Int) (μ : Mem) : Option ((Int × Int × Mem) ⊕ (Mem)) :=
  if w32 v4 < w32 (μ 81 0) then
    if w32 (μ 75 8) = 0 then
      (fX12_isName μ).bind fun v7 =>
      if v7 = true then
        fX12_wish_j40 v3 v4 μ
      else
        (fX12_wrong 1 μ).bind fun μ51 =>
        fX12_wish_j40 v3 v4 μ51
    else
      some (.inr μ)
  else
    some (.inr μ)
set_option maxRecDepth 4000 in
theorem tX12_wish_b13 (hS : Sd M K P L) (hc : CIn P 75 86) (v3 : Int) (v4 : Int) (μ : Mem)  {o : (Int × Int × Mem) ⊕ (Mem)} (hf : fX12_wish_b13 v3 v4 μ = some o) (hr : (Sum.elim (fun s : Int × Int × Mem => Ev l D cy g K yX12_wish cX12_wish 4 (some .int) (rmd 4 0 0) (MX D cy g K (rmd 4 0 0) Φ) 0 0 M x (L s.2.2) 13 [(0, vr g 75), (1, vi s.1), (2, vi s.2.1)] []) (fun e : Mem => Ev l D cy g K yX12_wish cX12_wish 4 (some .int) (rmd 4 0 0) (MX D cy g K (rmd 4 0 0) Φ) 0 0 M x (L e) 161 [(0, vr g 75)] [])) o) : Ev l D cy g K yX12_wish cX12_wish 4 (some .int) (rmd 4 0 0) (MX D cy g K (rmd 4 0 0) Φ) 0 0 M x (L μ) 13 [(0, vr g 75), (1, vi v3), (2, vi v4)] [] := by
  unfold fX12_wish_b13 at hf
  refine ev_iload_n dX12_wish_13 2 rfl ?_
  refine ev_aload_n dX12_wish_14 0 rfl ?_
  refine cl_V1 (As := []) (st := [vi v4]) miX12_cakes (tX12_cakes hS (hc.w rfl rfl) μ (o := (μ 81 0)) rfl) dX12_wish_15 lkX12_209 inX12_cakes rfl (hS.lt (hc 75 rfl)) rfl ⟨rfl, rfl⟩ ⟨⟨Nat.le_of_ble_eq_true rfl, Nat.le_of_ble_eq_true rfl⟩, Nat.zero_le _, Nat.zero_le _⟩ (Nat.le_of_ble_eq_true rfl) ?_
  refine ev_icmp_ge 161 dX12_wish_18 (by decide) (fun h5 => ?_) (fun h5 => ?_)
  · rw [if_neg h5] at hf
    obtain rfl := Option.some.inj hf
    refine ev_sub [0] rfl ?_
    exact hr
  · rw [if_pos h5] at hf
    refine ev_aload_n dX12_wish_21 0 rfl ?_
    refine ev_getI 8 dX12_wish_22 (hS.lt (hc 75 rfl)) rfl (hS.mem _ (hc 75 rfl)) ciX12 (by decide) rfl flX12_152 ?_
    refine ev_if_ne 161 dX12_wish_25 (by decide) (fun h6 => ?_) (fun h6 => ?_)
    · rw [if_neg h6] at hf
      obtain rfl := Option.some.inj hf
      refine ev_sub [0] rfl ?_
      exact hr
    · rw [if_pos h6] at hf
      refine ev_aload_n dX12_wish_28 0 rfl ?_
      obtain ⟨v7, hv7, hf⟩ := Option.bind_eq_some_iff.mp hf
      refine cl_V1 (As := []) (st := []) miX12_isName (tX12_isName hS (hc.w rfl rfl) μ hv7) dX12_wish_29 lkX12_186 inX12_isName rfl (hS.lt (hc 75 rfl)) rfl ⟨rfl, rfl⟩ ⟨⟨Nat.le_of_ble_eq_true rfl, Nat.le_of_ble_eq_true rfl⟩, Nat.zero_le _, Nat.zero_le _⟩ (Nat.le_of_ble_eq_true rfl) ?_
      refine ev_ifb_ne 40 dX12_wish_32 (by decide) (fun h8 => ?_) (fun h8 => ?_)
      · rw [if_pos h8] at hf
        refine ev_sub [0, 1, 2] rfl ?_
        exact tX12_wish_j40 hS hc v3 v4 μ hf hr
      · rw [if_neg h8] at hf
        refine ev_aload_n dX12_wish_35 0 rfl ?_
        refine ev_iconst dX12_wish_36 ?_
        obtain ⟨μ51, hμ51, hf⟩ := Option.bind_eq_some_iff.mp hf
        refine cl_V0 (As := [vi 1]) (st := []) miX12_wrong (tX12_wrong hS (hc.w rfl rfl) 1 μ hμ51) dX12_wish_37 lkX12_158 inX12_wrong rfl (hS.lt (hc 75 rfl)) rfl ⟨rfl, rfl⟩ ⟨⟨Nat.le_of_ble_eq_true rfl, Nat.le_of_ble_eq_true rfl⟩, Nat.zero_le _, Nat.zero_le _⟩ (Nat.le_of_ble_eq_true rfl) ?_
        refine ev_sub [0, 1, 2] rfl ?_
        exact tX12_wish_j40 hS hc v3 v4 μ51 hf hr
def fX12_wish_b204 (v58 : Int) (μ : Mem) : Option ((Int × Mem) ⊕ (Mem)) :=
  if w32 v58 < w32 10 then
    gd (0 ≤ w32 (10 + v58) ∧ w32 (10 + v58) < 20) <|
    gd (0 ≤ w32 v58 ∧ w32 v58 < 20) <|
    lt (upd2 μ 85 ((w32 v58).toNat) (μ 85 (w32 (10 + v58)).toNat)) fun μ62 =>
    some (.inl ((v58 + 1), μ62))
  else
    some (.inr μ)
set_option maxRecDepth 4000 in
theorem tX12_wish_b204 (hS : Sd M K P L) (hc : CIn P 75 86) (v58 : Int) (μ : Mem)  {o : (Int × Mem) ⊕ (Mem)} (hf : fX12_wish_b204 v58 μ = some o) (hr : (Sum.elim (fun s : Int × Mem => Ev l D cy g K yX12_wish cX12_wish 4 (some .int) (rmd 4 0 0) (MX D cy g K (rmd 4 0 0) Φ) 0 0 M x (L s.2) 204 [(0, vr g 75), (2, vi s.1)] []) (fun e : Mem => Ev l D cy g K yX12_wish cX12_wish 4 (some .int) (rmd 4 0 0) (MX D cy g K (rmd 4 0 0) Φ) 0 0 M x (L e) 231 [] [])) o) : Ev l D cy g K yX12_wish cX12_wish 4 (some .int) (rmd 4 0 0) (MX D cy g K (rmd 4 0 0) Φ) 0 0 M x (L μ) 204 [(0, vr g 75), (2, vi v58)] [] := by
  unfold fX12_wish_b204 at hf
  refine ev_iload_n dX12_wish_204 1 rfl ?_
  refine ev_bipush dX12_wish_205 (by decide) ?_
  refine ev_icmp_ge 231 dX12_wish_207 (by decide) (fun h59 => ?_) (fun h59 => ?_)
  · rw [if_neg h59] at hf
    obtain rfl := Option.some.inj hf
    refine ev_sub [] rfl ?_
    exact hr
  · rw [if_pos h59] at hf
    refine ev_aload_n dX12_wish_210 0 rfl ?_
    refine ev_getK 15 dX12_wish_211 (hS.lt (hc 75 rfl)) rfl (hS.K1 (hc 75 rfl) rfl) ciX12 (by decide) rfl flX12_85 ?_
    refine ev_iload_n dX12_wish_214 1 rfl ?_
    refine ev_aload_n dX12_wish_215 0 rfl ?_
    refine ev_getK 15 dX12_wish_216 (hS.lt (hc 75 rfl)) rfl (hS.K1 (hc 75 rfl) rfl) ciX12 (by decide) rfl flX12_85 ?_
    refine ev_bipush dX12_wish_219 (by decide) ?_
    refine ev_iload_n dX12_wish_221 1 rfl ?_
    refine ev_iadd dX12_wish_222 ?_
    obtain ⟨g60, hf⟩ := gd_elim hf
    refine ev_iald dX12_wish_223 (hS.lt (hc 85 rfl)) rfl (hS.mem _ (hc 85 rfl)) g60 ?_
    obtain ⟨g61, hf⟩ := gd_elim hf
    obtain ⟨μ62, hμ62, hf⟩ := lt_elim hf
    refine ev_iast dX12_wish_224 (hS.lt (hc 85 rfl)) rfl g61 (hS.up (hc 85 rfl) hμ62) ?_
    refine ev_iinc (al2 := [(2, vi (v58 + 1)), (0, vr g 75)]) dX12_wish_225 1 rfl (by decide) rfl ?_
    refine ev_goto 204 dX12_wish_228 (by decide) ?_
    obtain rfl := Option.some.inj hf
    refine ev_sub [1, 0] rfl ?_
    exact hr
def fX12_wish_j185  (μ : Mem) : Option (Int × Mem) :=
  if w32 (μ 75 8) ≤ 0 then
    lt (upd2 μ 75 16 1) fun μ57 =>
    (loopN (fun s => fX12_wish_b204 s.1 s.2) FU (0, μ57)).bind fun q63 =>
    some ((0, q63))
  else
    some (((μ 75 8), μ))
set_option maxRecDepth 4000 in
theorem tX12_wish_j185 (hS : Sd M K P L) (hc : CIn P 75 86)  (μ : Mem)  {o : Int × Mem} (hf : fX12_wish_j185 μ = some o) (hr : (fun o : Int × Mem => Φ (some (vi o.1)) M x (L o.2)) o) : Ev l D cy g K yX12_wish cX12_wish 4 (some .int) (rmd 4 0 0) (MX D cy g K (rmd 4 0 0) Φ) 0 0 M x (L μ) 185 [(0, vr g 75)] [] := by
  unfold fX12_wish_j185 at hf
  refine ev_aload_n dX12_wish_185 0 rfl ?_
  refine ev_getI 8 dX12_wish_186 (hS.lt (hc 75 rfl)) rfl (hS.mem _ (hc 75 rfl)) ciX12 (by decide) rfl flX12_152 ?_
  refine ev_if_le 197 dX12_wish_189 (by decide) (fun h56 => ?_) (fun h56 => ?_)
  · rw [if_pos h56] at hf
    refine ev_aload_n dX12_wish_197 0 rfl ?_
    refine ev_iconst dX12_wish_198 ?_
    obtain ⟨μ57, hμ57, hf⟩ := lt_elim hf
    refine ev_putZ (b := true) 16 dX12_wish_199 (hS.lt (hc 75 rfl)) rfl ciX12 (by decide) (Or.inl rfl) rfl rfl flX12_213 (hS.up (hc 75 rfl) hμ57) ?_
    refine ev_iconst dX12_wish_202 ?_
    refine ev_istore_n (al2 := [(2, vi 0), (0, vr g 75)]) dX12_wish_203 2 rfl (by decide) rfl ?_
    obtain ⟨q63, hq63, hf⟩ := Option.bind_eq_some_iff.mp hf
    refine ev_sub [1, 0] rfl ?_
    refine loop_ev (H := (fun s : Int × Mem => Ev l D cy g K yX12_wish cX12_wish 4 (some .int) (rmd 4 0 0) (MX D cy g K (rmd 4 0 0) Φ) 0 0 M x (L s.2) 204 [(0, vr g 75), (2, vi s.1)] [])) (Hx := (fun e : Mem => Ev l D cy g K yX12_wish cX12_wish 4 (some .int) (rmd 4 0 0) (MX D cy g K (rmd 4 0 0) Φ) 0 0 M x (L e) 231 [] [])) (fun s o hb hr => tX12_wish_b204 hS hc s.1 s.2 hb hr) FU _ _ hq63 ?_
    show Ev l D cy g K yX12_wish cX12_wish 4 (some .int) (rmd 4 0 0) (MX D cy g K (rmd 4 0 0) Φ) 0 0 M x (L q63) 231 [] []
    refine ev_iconst dX12_wish_231 ?_
    obtain rfl := Option.some.inj hf
    exact ev_iret dX12_wish_232 rfl ⟨Nat.zero_le _, Nat.zero_le _⟩ hr
  · rw [if_neg h56] at hf
    refine ev_aload_n dX12_wish_192 0 rfl ?_
    refine ev_getI 8 dX12_wish_193 (hS.lt (hc 75 rfl)) rfl (hS.mem _ (hc 75 rfl)) ciX12 (by decide) rfl flX12_152 ?_
    obtain rfl := Option.some.inj hf
    exact ev_iret dX12_wish_196 rfl ⟨Nat.zero_le _, Nat.zero_le _⟩ hr
def fX12_wish_j161  (μ : Mem) : Option (Int × Mem) :=
  if w32 (μ 75 8) = 0 then
    gd (0 ≤ w32 (μ 75 7) ∧ w32 (μ 75 7) < 1002) <|
    if w32 (μ 77 (w32 (μ 75 7)).toNat) = 0 then
      fX12_wish_j185 μ
    else
      (fX12_wrong 1 μ).bind fun μ66 =>
      fX12_wish_j185 μ66
  else
    fX12_wish_j185 μ
set_option maxRecDepth 4000 in
theorem tX12_wish_j161 (hS : Sd M K P L) (hc : CIn P 75 86)  (μ : Mem)  {o : Int × Mem} (hf : fX12_wish_j161 μ = some o) (hr : (fun o : Int × Mem => Φ (some (vi o.1)) M x (L o.2)) o) : Ev l D cy g K yX12_wish cX12_wish 4 (some .int) (rmd 4 0 0) (MX D cy g K (rmd 4 0 0) Φ) 0 0 M x (L μ) 161 [(0, vr g 75)] [] := by
  unfold fX12_wish_j161 at hf
  refine ev_aload_n dX12_wish_161 0 rfl ?_
  refine ev_getI 8 dX12_wish_162 (hS.lt (hc 75 rfl)) rfl (hS.mem _ (hc 75 rfl)) ciX12 (by decide) rfl flX12_152 ?_
  refine ev_if_ne 185 dX12_wish_165 (by decide) (fun h55 => ?_) (fun h55 => ?_)
  · rw [if_neg h55] at hf
    refine ev_sub [0] rfl ?_
    exact tX12_wish_j185 hS hc μ hf hr
  · rw [if_pos h55] at hf
    refine ev_aload_n dX12_wish_168 0 rfl ?_
    refine ev_getK 4 dX12_wish_169 (hS.lt (hc 75 rfl)) rfl (hS.K1 (hc 75 rfl) rfl) ciX12 (by decide) rfl flX12_24 ?_
    refine ev_aload_n dX12_wish_172 0 rfl ?_
    refine ev_getI 7 dX12_wish_173 (hS.lt (hc 75 rfl)) rfl (hS.mem _ (hc 75 rfl)) ciX12 (by decide) rfl flX12_149 ?_
    obtain ⟨g64, hf⟩ := gd_elim hf
    refine ev_iald dX12_wish_176 (hS.lt (hc 77 rfl)) rfl (hS.mem _ (hc 77 rfl)) g64 ?_
    refine ev_if_eq 185 dX12_wish_177 (by decide) (fun h65 => ?_) (fun h65 => ?_)
    · rw [if_pos h65] at hf
      refine ev_sub [0] rfl ?_
      exact tX12_wish_j185 hS hc μ hf hr
    · rw [if_neg h65] at hf
      refine ev_aload_n dX12_wish_180 0 rfl ?_
      refine ev_iconst dX12_wish_181 ?_
      obtain ⟨μ66, hμ66, hf⟩ := Option.bind_eq_some_iff.mp hf
      refine cl_V0 (As := [vi 1]) (st := []) miX12_wrong (tX12_wrong hS (hc.w rfl rfl) 1 μ hμ66) dX12_wish_182 lkX12_158 inX12_wrong rfl (hS.lt (hc 75 rfl)) rfl ⟨rfl, rfl⟩ ⟨⟨Nat.le_of_ble_eq_true rfl, Nat.le_of_ble_eq_true rfl⟩, Nat.zero_le _, Nat.zero_le _⟩ (Nat.le_of_ble_eq_true rfl) ?_
      refine ev_sub [0] rfl ?_
      exact tX12_wish_j185 hS hc μ66 hf hr
def fX12_wish  (μ : Mem) : Option (Int × Mem) :=
  lt (upd2 μ 75 0 0) fun μ1 =>
  (fX12_cutAll μ1).bind fun μ2 =>
  (loopN (fun s => fX12_wish_b13 s.1 s.2.1 s.2.2) FU (0, 0, μ2)).bind fun q54 =>
  fX12_wish_j161 q54
set_option maxRecDepth 4000 in
theorem eX12_wish (hS : Sd M K P L) (hc : CIn P 75 86)  (μ : Mem)  {o : Int × Mem} (hf : fX12_wish  μ = some o) (hr : (fun o : Int × Mem => Φ (some (vi o.1)) M x (L o.2)) o) : Ev l D cy g K yX12_wish cX12_wish 4 (some .int) (rmd 4 0 0) (MX D cy g K (rmd 4 0 0) Φ) 0 0 M x (L μ) 0 [(0, vr g 75)] [] := by
  unfold fX12_wish at hf
  refine ev_aload_n dX12_wish_0 0 rfl ?_
  refine ev_iconst dX12_wish_1 ?_
  obtain ⟨μ1, hμ1, hf⟩ := lt_elim hf
  refine ev_putI 0 dX12_wish_2 (hS.lt (hc 75 rfl)) rfl ciX12 (by decide) (Or.inl rfl) rfl rfl flX12_1 (hS.up (hc 75 rfl) hμ1) ?_
  refine ev_aload_n dX12_wish_5 0 rfl ?_
  obtain ⟨μ2, hμ2, hf⟩ := Option.bind_eq_some_iff.mp hf
  refine cl_V0 (As := []) (st := []) miX12_cutAll (tX12_cutAll hS (hc.w rfl rfl) μ1 hμ2) dX12_wish_6 lkX12_171 inX12_cutAll rfl (hS.lt (hc 75 rfl)) rfl ⟨rfl, rfl⟩ ⟨⟨Nat.le_of_ble_eq_true rfl, Nat.le_of_ble_eq_true rfl⟩, Nat.zero_le _, Nat.zero_le _⟩ (Nat.le_of_ble_eq_true rfl) ?_
  refine ev_iconst dX12_wish_9 ?_
  refine ev_istore_n (al2 := [(1, vi 0), (0, vr g 75)]) dX12_wish_10 1 rfl (by decide) rfl ?_
  refine ev_iconst dX12_wish_11 ?_
  refine ev_istore_n (al2 := [(2, vi 0), (1, vi 0), (0, vr g 75)]) dX12_wish_12 2 rfl (by decide) rfl ?_
  obtain ⟨q54, hq54, hf⟩ := Option.bind_eq_some_iff.mp hf
  refine ev_sub [2, 1, 0] rfl ?_
  refine loop_ev (H := (fun s : Int × Int × Mem => Ev l D cy g K yX12_wish cX12_wish 4 (some .int) (rmd 4 0 0) (MX D cy g K (rmd 4 0 0) Φ) 0 0 M x (L s.2.2) 13 [(0, vr g 75), (1, vi s.1), (2, vi s.2.1)] [])) (Hx := (fun e : Mem => Ev l D cy g K yX12_wish cX12_wish 4 (some .int) (rmd 4 0 0) (MX D cy g K (rmd 4 0 0) Φ) 0 0 M x (L e) 161 [(0, vr g 75)] [])) (fun s o hb hr => tX12_wish_b13 hS hc s.1 s.2.1 s.2.2 hb hr) FU _ _ hq54 ?_
  show Ev l D cy g K yX12_wish cX12_wish 4 (some .int) (rmd 4 0 0) (MX D cy g K (rmd 4 0 0) Φ) 0 0 M x (L q54) 161 [(0, vr g 75)] []
  refine ev_sub [0] rfl ?_
  exact tX12_wish_j161 hS hc q54 hf hr
theorem tX12_wish (hS : Sd M K P L) (hc : CIn P 75 86) (μ : Mem) {o : Int × Mem} (hf : fX12_wish μ = some o) : Cn l D cy g K K yX12_wish cX12_wish 4 (some .int) (rmd 4 0 0) [vr g 75] M x (L μ) (PE (some (vi o.1)) M x (L o.2)) :=
 Cn.of (by decide) (Nat.le_of_ble_eq_true rfl) (eX12_wish hS hc μ hf (PE_i _ _ _ _))
def fX12_both (c0 : Int) (a0 : Int) (b0 : Int) : Int :=
  if w32 c0 = 4 then
    (w32 (a0 + b0))
  else
    if w32 c0 = 5 then
      (w32 (a0 - b0))
    else
      if w32 c0 = 6 then
        (w32 (a0 * b0))
      else
        if w32 c0 = 7 then
          lt (if w32 a0 < w32 b0 then
              1
            else
              0) fun v5 =>
          v5
        else
          if w32 c0 = 8 then
            lt (if w32 a0 = w32 b0 then
                1
              else
                0) fun v8 =>
            v8
          else
            if w32 c0 = 9 then
              lt (if w32 a0 = 0 then
                  0
                else
                  if w32 b0 = 0 then
                    0
                  else
                    1) fun v11 =>
              v11
            else
              lt (if w32 a0 = 0 then
                  if w32 b0 = 0 then
                    0
                  else
                    1
                else
                  1) fun v14 =>
              v14
set_option maxRecDepth 4000 in
theorem eX12_both  (c0 : Int) (a0 : Int) (b0 : Int) (μ : Mem)  {o : Int} (hf : fX12_both c0 a0 b0 = o) (hr : (fun o : Int => Φ (some (vi o)) M x μ) o) : Ev l D cy g K yX12_both cX12_both 3 (some .int) (rmd 1 0 0) (MX D cy g K (rmd 1 0 0) Φ) 0 0 M x μ 0 [(0, vi c0), (1, vi a0), (2, vi b0)] [] := by
  unfold fX12_both at hf
  refine ev_iload_n dX12_both_0 0 rfl ?_
  by_cases h1 : w32 c0 = 4
  · rw [if_pos h1] at hf
    refine ev_tableIn 40 4 dX12_both_1 h1 (by decide) (by decide) rfl (by decide) ?_
    refine ev_iload_n dX12_both_40 1 rfl ?_
    refine ev_iload_n dX12_both_41 2 rfl ?_
    refine ev_iaddw dX12_both_42 ?_
    obtain rfl := hf
    exact ev_iret dX12_both_43 rfl ⟨Nat.zero_le _, Nat.zero_le _⟩ hr
  · rw [if_neg h1] at hf
    by_cases h2 : w32 c0 = 5
    · rw [if_pos h2] at hf
      refine ev_tableIn 44 5 dX12_both_1 h2 (by decide) (by decide) rfl (by decide) ?_
      refine ev_iload_n dX12_both_44 1 rfl ?_
      refine ev_iload_n dX12_both_45 2 rfl ?_
      refine ev_isubw dX12_both_46 ?_
      obtain rfl := hf
      exact ev_iret dX12_both_47 rfl ⟨Nat.zero_le _, Nat.zero_le _⟩ hr
    · rw [if_neg h2] at hf
      by_cases h3 : w32 c0 = 6
      · rw [if_pos h3] at hf
        refine ev_tableIn 48 6 dX12_both_1 h3 (by decide) (by decide) rfl (by decide) ?_
        refine ev_iload_n dX12_both_48 1 rfl ?_
        refine ev_iload_n dX12_both_49 2 rfl ?_
        refine ev_imulw dX12_both_50 ?_
        obtain rfl := hf
        exact ev_iret dX12_both_51 rfl ⟨Nat.zero_le _, Nat.zero_le _⟩ hr
      · rw [if_neg h3] at hf
        by_cases h4 : w32 c0 = 7
        · rw [if_pos h4] at hf
          refine ev_tableIn 52 7 dX12_both_1 h4 (by decide) (by decide) rfl (by decide) ?_
          refine ev_iload_n dX12_both_52 1 rfl ?_
          refine ev_iload_n dX12_both_53 2 rfl ?_
          obtain ⟨v5, hv5, hf⟩ := lt_elim hf
          have hJv5 : Ev l D cy g K yX12_both cX12_both 3 (some .int) (rmd 1 0 0) (MX D cy g K (rmd 1 0 0) Φ) 0 0 M x μ 62 [(0, vi c0), (1, vi a0), (2, vi b0)] [vi v5] := by
            obtain rfl := hf
            exact ev_iret dX12_both_62 rfl ⟨Nat.zero_le _, Nat.zero_le _⟩ hr
          refine ev_icmp_ge 61 dX12_both_54 (by decide) (fun h6 => ?_) (fun h6 => ?_)
          · refine ev_iconst dX12_both_61 ?_
            have e9 : v5 = 0 := hv5.trans ((if_neg h6))
            subst e9
            exact hJv5
          · refine ev_iconst dX12_both_57 ?_
            refine ev_goto 62 dX12_both_58 (by decide) ?_
            have e9 : v5 = 1 := hv5.trans ((if_pos h6))
            subst e9
            exact hJv5
        · rw [if_neg h4] at hf
          by_cases h7 : w32 c0 = 8
          · rw [if_pos h7] at hf
            refine ev_tableIn 63 8 dX12_both_1 h7 (by decide) (by decide) rfl (by decide) ?_
            refine ev_iload_n dX12_both_63 1 rfl ?_
            refine ev_iload_n dX12_both_64 2 rfl ?_
            obtain ⟨v8, hv8, hf⟩ := lt_elim hf
            have hJv8 : Ev l D cy g K yX12_both cX12_both 3 (some .int) (rmd 1 0 0) (MX D cy g K (rmd 1 0 0) Φ) 0 0 M x μ 73 [(0, vi c0), (1, vi a0), (2, vi b0)] [vi v8] := by
              obtain rfl := hf
              exact ev_iret dX12_both_73 rfl ⟨Nat.zero_le _, Nat.zero_le _⟩ hr
            refine ev_icmp_ne 72 dX12_both_65 (by decide) (fun h9 => ?_) (fun h9 => ?_)
            · refine ev_iconst dX12_both_72 ?_
              have e9 : v8 = 0 := hv8.trans ((if_neg h9))
              subst e9
              exact hJv8
            · refine ev_iconst dX12_both_68 ?_
              refine ev_goto 73 dX12_both_69 (by decide) ?_
              have e9 : v8 = 1 := hv8.trans ((if_pos h9))
              subst e9
              exact hJv8
          · rw [if_neg h7] at hf
            by_cases h10 : w32 c0 = 9
            · rw [if_pos h10] at hf
              refine ev_tableIn 74 9 dX12_both_1 h10 (by decide) (by decide) rfl (by decide) ?_
              refine ev_iload_n dX12_both_74 1 rfl ?_
              obtain ⟨v11, hv11, hf⟩ := lt_elim hf
              have hJv11 : Ev l D cy g K yX12_both cX12_both 3 (some .int) (rmd 1 0 0) (MX D cy g K (rmd 1 0 0) Φ) 0 0 M x μ 87 [(0, vi c0), (1, vi a0), (2, vi b0)] [vi v11] := by
                obtain rfl := hf
                exact ev_iret dX12_both_87 rfl ⟨Nat.zero_le _, Nat.zero_le _⟩ hr
              refine ev_if_eq 86 dX12_both_75 (by decide) (fun h12 => ?_) (fun h12 => ?_)
              · refine ev_iconst dX12_both_86 ?_
                have e9 : v11 = 0 := hv11.trans ((if_pos h12))
                subst e9
                exact hJv11
              · refine ev_iload_n dX12_both_78 2 rfl ?_
                refine ev_if_eq 86 dX12_both_79 (by decide) (fun h13 => ?_) (fun h13 => ?_)
                · refine ev_iconst dX12_both_86 ?_
                  have e9 : v11 = 0 := hv11.trans (((if_neg h12)).trans (if_pos h13))
                  subst e9
                  exact hJv11
                · refine ev_iconst dX12_both_82 ?_
                  refine ev_goto 87 dX12_both_83 (by decide) ?_
                  have e9 : v11 = 1 := hv11.trans (((if_neg h12)).trans (if_neg h13))
                  subst e9
                  exact hJv11
            · rw [if_neg h10] at hf
              refine ev_tableOut 88 dX12_both_1 (by omega) (by decide) ?_
              refine ev_iload_n dX12_both_88 1 rfl ?_
              obtain ⟨v14, hv14, hf⟩ := lt_elim hf
              have hJv14 : Ev l D cy g K yX12_both cX12_both 3 (some .int) (rmd 1 0 0) (MX D cy g K (rmd 1 0 0) Φ) 0 0 M x μ 101 [(0, vi c0), (1, vi a0), (2, vi b0)] [vi v14] := by
                obtain rfl := hf
                exact ev_iret dX12_both_101 rfl ⟨Nat.zero_le _, Nat.zero_le _⟩ hr
              refine ev_if_ne 96 dX12_both_89 (by decide) (fun h15 => ?_) (fun h15 => ?_)
              · refine ev_iconst dX12_both_96 ?_
                refine ev_goto 101 dX12_both_97 (by decide) ?_
                have e9 : v14 = 1 := hv14.trans ((if_neg h15))
                subst e9
                exact hJv14
              · refine ev_iload_n dX12_both_92 2 rfl ?_
                refine ev_if_eq 100 dX12_both_93 (by decide) (fun h16 => ?_) (fun h16 => ?_)
                · refine ev_iconst dX12_both_100 ?_
                  have e9 : v14 = 0 := hv14.trans (((if_pos h15)).trans (if_pos h16))
                  subst e9
                  exact hJv14
                · refine ev_iconst dX12_both_96 ?_
                  refine ev_goto 101 dX12_both_97 (by decide) ?_
                  have e9 : v14 = 1 := hv14.trans (((if_pos h15)).trans (if_neg h16))
                  subst e9
                  exact hJv14
theorem tX12_both (c0 : Int) (a0 : Int) (b0 : Int) (μ : Mem) {o : Int} (hf : fX12_both c0 a0 b0 = o) : Cn l D cy g K K yX12_both cX12_both 3 (some .int) (rmd 1 0 0) [vi c0, vi a0, vi b0] M x μ (PE (some (vi o)) M x μ) :=
 Cn.of (by decide) (Nat.le_of_ble_eq_true rfl) (eX12_both c0 a0 b0 μ hf (PE_i _ _ _ _))
def fX12_worthAt_j76 (from0 : Int) (v14 : Int) (v15 : Int) (w16 : Int) (w17 : Int) (μ : Mem) : Option ((Int × Int × Mem) ⊕ (Mem)) :=
  gd (0 ≤ w32 w17 ∧ w32 w17 < 64) <|
  lt (upd2 μ 87 ((w32 w17).toNat) w16) fun μ19 =>
  some (.inl ((v14 + 1), (v15 + 1), μ19))
set_option maxRecDepth 4000 in
theorem tX12_worthAt_j76 (hS : Sd M K P L) (hc : CIn P 75 88) (from0 : Int) (v14 : Int) (v15 : Int) (w16 : Int) (w17 : Int) (μ : Mem)  {o : (Int × Int × Mem) ⊕ (Mem)} (hf : fX12_worthAt_j76 from0 v14 v15 w16 w17 μ = some o) (hr : (Sum.elim (fun s : Int × Int × Mem => Ev l D cy g K yX12_worthAt cX12_worthAt 5 (some .int) (rmd 2 0 0) (MX D cy g K (rmd 2 0 0) Φ) 0 0 M x (L s.2.2) 4 [(0, vr g 75), (2, vi s.1), (3, vi s.2.1)] []) (fun e : Mem => Ev l D cy g K yX12_worthAt cX12_worthAt 5 (some .int) (rmd 2 0 0) (MX D cy g K (rmd 2 0 0) Φ) 0 0 M x (L e) 152 [(0, vr g 75)] [])) o) : Ev l D cy g K yX12_worthAt cX12_worthAt 5 (some .int) (rmd 2 0 0) (MX D cy g K (rmd 2 0 0) Φ) 0 0 M x (L μ) 76 [(0, vr g 75), (2, vi v14), (3, vi v15)] [vi w16, vi w17, vr g 87] := by
  unfold fX12_worthAt_j76 at hf
  obtain ⟨g18, hf⟩ := gd_elim hf
  obtain ⟨μ19, hμ19, hf⟩ := lt_elim hf
  refine ev_iast dX12_worthAt_76 (hS.lt (hc 87 rfl)) rfl g18 (hS.up (hc 87 rfl) hμ19) ?_
  refine ev_iinc (al2 := [(2, vi (v14 + 1)), (0, vr g 75), (3, vi v15)]) dX12_worthAt_77 1 rfl (by decide) rfl ?_
  refine ev_goto 146 dX12_worthAt_80 (by decide) ?_
  refine ev_iinc (al2 := [(3, vi (v15 + 1)), (2, vi (v14 + 1)), (0, vr g 75)]) dX12_worthAt_146 2 rfl (by decide) rfl ?_
  refine ev_goto 4 dX12_worthAt_149 (by decide) ?_
  obtain rfl := Option.some.inj hf
  refine ev_sub [2, 1, 0] rfl ?_
  exact hr
def fX12_worthAt_j39 (from0 : Int) (v8 : Int) (v9 : Int) (v10 : Int) (μ : Mem) : Option ((Int × Int × Mem) ⊕ (Mem)) :=
  if w32 v10 = w32 1 then
    gd (0 ≤ w32 v9 ∧ w32 v9 < 2200) <|
    fX12_worthAt_j76 from0 v8 v9 (i_div (μ 82 (w32 v9).toNat) 16) v8 μ
  else
    gd (0 ≤ w32 v9 ∧ w32 v9 < 2200) <|
    gd (0 ≤ w32 (i_div (μ 82 (w32 v9).toNat) 16) ∧ w32 (i_div (μ 82 (w32 v9).toNat) 16) < 4) <|
    fX12_worthAt_j76 from0 v8 v9 (μ 86 (w32 (i_div (μ 82 (w32 v9).toNat) 16)).toNat) v8 μ
set_option maxRecDepth 4000 in
theorem tX12_worthAt_j39 (hS : Sd M K P L) (hc : CIn P 75 88) (from0 : Int) (v8 : Int) (v9 : Int) (v10 : Int) (μ : Mem)  {o : (Int × Int × Mem) ⊕ (Mem)} (hf : fX12_worthAt_j39 from0 v8 v9 v10 μ = some o) (hr : (Sum.elim (fun s : Int × Int × Mem => Ev l D cy g K yX12_worthAt cX12_worthAt 5 (some .int) (rmd 2 0 0) (MX D cy g K (rmd 2 0 0) Φ) 0 0 M x (L s.2.2) 4 [(0, vr g 75), (2, vi s.1), (3, vi s.2.1)] []) (fun e : Mem => Ev l D cy g K yX12_worthAt cX12_worthAt 5 (some .int) (rmd 2 0 0) (MX D cy g K (rmd 2 0 0) Φ) 0 0 M x (L e) 152 [(0, vr g 75)] [])) o) : Ev l D cy g K yX12_worthAt cX12_worthAt 5 (some .int) (rmd 2 0 0) (MX D cy g K (rmd 2 0 0) Φ) 0 0 M x (L μ) 39 [(0, vr g 75), (2, vi v8), (3, vi v9), (4, vi v10)] [] := by
  unfold fX12_worthAt_j39 at hf
  refine ev_aload_n dX12_worthAt_39 0 rfl ?_
  refine ev_getK 18 dX12_worthAt_40 (hS.lt (hc 75 rfl)) rfl (hS.K1 (hc 75 rfl) rfl) ciX12 (by decide) rfl flX12_91 ?_
  refine ev_iload_n dX12_worthAt_43 1 rfl ?_
  refine ev_iload dX12_worthAt_44 3 rfl ?_
  refine ev_iconst dX12_worthAt_46 ?_
  refine ev_icmp_ne 62 dX12_worthAt_47 (by decide) (fun h11 => ?_) (fun h11 => ?_)
  · rw [if_neg h11] at hf
    refine ev_aload_n dX12_worthAt_62 0 rfl ?_
    refine ev_getK 17 dX12_worthAt_63 (hS.lt (hc 75 rfl)) rfl (hS.K1 (hc 75 rfl) rfl) ciX12 (by decide) rfl flX12_88 ?_
    refine ev_aload_n dX12_worthAt_66 0 rfl ?_
    refine ev_getK 11 dX12_worthAt_67 (hS.lt (hc 75 rfl)) rfl (hS.K1 (hc 75 rfl) rfl) ciX12 (by decide) rfl flX12_76 ?_
    refine ev_iload_n dX12_worthAt_70 2 rfl ?_
    obtain ⟨g12, hf⟩ := gd_elim hf
    refine ev_iald dX12_worthAt_71 (hS.lt (hc 82 rfl)) rfl (hS.mem _ (hc 82 rfl)) g12 ?_
    refine ev_bipush dX12_worthAt_72 (by decide) ?_
    refine ev_idiv dX12_worthAt_74 (by decide) ?_
    obtain ⟨g13, hf⟩ := gd_elim hf
    refine ev_iald dX12_worthAt_75 (hS.lt (hc 86 rfl)) rfl (hS.mem _ (hc 86 rfl)) g13 ?_
    refine ev_sub [0, 1, 2] rfl ?_
    exact tX12_worthAt_j76 hS hc from0 v8 v9 (μ 86 (w32 (i_div (μ 82 (w32 v9).toNat) 16)).toNat) v8 μ hf hr
  · rw [if_pos h11] at hf
    refine ev_aload_n dX12_worthAt_50 0 rfl ?_
    refine ev_getK 11 dX12_worthAt_51 (hS.lt (hc 75 rfl)) rfl (hS.K1 (hc 75 rfl) rfl) ciX12 (by decide) rfl flX12_76 ?_
    refine ev_iload_n dX12_worthAt_54 2 rfl ?_
    obtain ⟨g20, hf⟩ := gd_elim hf
    refine ev_iald dX12_worthAt_55 (hS.lt (hc 82 rfl)) rfl (hS.mem _ (hc 82 rfl)) g20 ?_
    refine ev_bipush dX12_worthAt_56 (by decide) ?_
    refine ev_idiv dX12_worthAt_58 (by decide) ?_
    refine ev_goto 76 dX12_worthAt_59 (by decide) ?_
    refine ev_sub [0, 1, 2] rfl ?_
    exact tX12_worthAt_j76 hS hc from0 v8 v9 (i_div (μ 82 (w32 v9).toNat) 16) v8 μ hf hr
def fX12_worthAt_b4 (from0 : Int) (v1 : Int) (v2 : Int) (μ : Mem) : Option ((Int × Int × Mem) ⊕ (Mem)) :=
  gd (0 ≤ w32 v2 ∧ w32 v2 < 2200) <|
  if w32 (i_rem (μ 82 (w32 v2).toNat) 16) = 0 then
    some (.inr μ)
  else
    gd (0 ≤ w32 v2 ∧ w32 v2 < 2200) <|
    lt (i_rem (μ 82 (w32 v2).toNat) 16) fun v6 =>
    if w32 v6 = w32 1 then
      fX12_worthAt_j39 from0 v1 v2 v6 μ
    else
      if w32 v6 = w32 2 then
        fX12_worthAt_j39 from0 v1 v2 v6 μ
      else
        if w32 v6 = w32 3 then
          gd (0 ≤ w32 (v1 - 1) ∧ w32 (v1 - 1) < 64) <|
          lt (if w32 (μ 87 (w32 (v1 - 1)).toNat) = 0 then
              true
            else
              false) fun v33 =>
          gd (0 ≤ w32 (v1 - 1) ∧ w32 (v1 - 1) < 64) <|
          lt (upd2 μ 87 ((w32 (v1 - 1)).toNat) (b2i v33)) fun μ36 =>
          some (.inl (v1, (v2 + 1), μ36))
        else
          gd (0 ≤ w32 ((v1 + (-1)) - 1) ∧ w32 ((v1 + (-1)) - 1) < 64) <|
          gd (0 ≤ w32 (v1 + (-1)) ∧ w32 (v1 + (-1)) < 64) <|
          lt (fX12_both v6 (μ 87 (w32 ((v1 + (-1)) - 1)).toNat) (μ 87 (w32 (v1 + (-1))).toNat)) fun v29 =>
          gd (0 ≤ w32 ((v1 + (-1)) - 1) ∧ w32 ((v1 + (-1)) - 1) < 64) <|
          lt (upd2 μ 87 ((w32 ((v1 + (-1)) - 1)).toNat) v29) fun μ31 =>
          some (.inl ((v1 + (-1)), (v2 + 1), μ31))
set_option maxRecDepth 4000 in
theorem tX12_worthAt_b4 (hS : Sd M K P L) (hc : CIn P 75 88) (from0 : Int) (v1 : Int) (v2 : Int) (μ : Mem)  {o : (Int × Int × Mem) ⊕ (Mem)} (hf : fX12_worthAt_b4 from0 v1 v2 μ = some o) (hr : (Sum.elim (fun s : Int × Int × Mem => Ev l D cy g K yX12_worthAt cX12_worthAt 5 (some .int) (rmd 2 0 0) (MX D cy g K (rmd 2 0 0) Φ) 0 0 M x (L s.2.2) 4 [(0, vr g 75), (2, vi s.1), (3, vi s.2.1)] []) (fun e : Mem => Ev l D cy g K yX12_worthAt cX12_worthAt 5 (some .int) (rmd 2 0 0) (MX D cy g K (rmd 2 0 0) Φ) 0 0 M x (L e) 152 [(0, vr g 75)] [])) o) : Ev l D cy g K yX12_worthAt cX12_worthAt 5 (some .int) (rmd 2 0 0) (MX D cy g K (rmd 2 0 0) Φ) 0 0 M x (L μ) 4 [(0, vr g 75), (2, vi v1), (3, vi v2)] [] := by
  unfold fX12_worthAt_b4 at hf
  refine ev_aload_n dX12_worthAt_4 0 rfl ?_
  refine ev_getK 11 dX12_worthAt_5 (hS.lt (hc 75 rfl)) rfl (hS.K1 (hc 75 rfl) rfl) ciX12 (by decide) rfl flX12_76 ?_
  refine ev_iload_n dX12_worthAt_8 2 rfl ?_
  obtain ⟨g3, hf⟩ := gd_elim hf
  refine ev_iald dX12_worthAt_9 (hS.lt (hc 82 rfl)) rfl (hS.mem _ (hc 82 rfl)) g3 ?_
  refine ev_bipush dX12_worthAt_10 (by decide) ?_
  refine ev_irem dX12_worthAt_12 (by decide) ?_
  refine ev_if_eq 152 dX12_worthAt_13 (by decide) (fun h4 => ?_) (fun h4 => ?_)
  · rw [if_pos h4] at hf
    obtain rfl := Option.some.inj hf
    refine ev_sub [0] rfl ?_
    exact hr
  · rw [if_neg h4] at hf
    refine ev_aload_n dX12_worthAt_16 0 rfl ?_
    refine ev_getK 11 dX12_worthAt_17 (hS.lt (hc 75 rfl)) rfl (hS.K1 (hc 75 rfl) rfl) ciX12 (by decide) rfl flX12_76 ?_
    refine ev_iload_n dX12_worthAt_20 2 rfl ?_
    obtain ⟨g5, hf⟩ := gd_elim hf
    refine ev_iald dX12_worthAt_21 (hS.lt (hc 82 rfl)) rfl (hS.mem _ (hc 82 rfl)) g5 ?_
    refine ev_bipush dX12_worthAt_22 (by decide) ?_
    refine ev_irem dX12_worthAt_24 (by decide) ?_
    obtain ⟨v6, hv6, hf⟩ := lt_elim hf
    refine ev_rni hv6 ?_
    refine ev_istore (al2 := [(4, vi v6), (0, vr g 75), (2, vi v1), (3, vi v2)]) dX12_worthAt_25 (by decide) rfl ?_
    refine ev_iload dX12_worthAt_27 0 rfl ?_
    refine ev_iconst dX12_worthAt_29 ?_
    refine ev_icmp_eq 39 dX12_worthAt_30 (by decide) (fun h7 => ?_) (fun h7 => ?_)
    · rw [if_pos h7] at hf
      refine ev_sub [1, 2, 3, 0] rfl ?_
      exact tX12_worthAt_j39 hS hc from0 v1 v2 v6 μ hf hr
    · rw [if_neg h7] at hf
      refine ev_iload dX12_worthAt_33 0 rfl ?_
      refine ev_iconst dX12_worthAt_35 ?_
      refine ev_icmp_ne 83 dX12_worthAt_36 (by decide) (fun h25 => ?_) (fun h25 => ?_)
      · rw [if_neg h25] at hf
        refine ev_iload dX12_worthAt_83 0 rfl ?_
        refine ev_iconst dX12_worthAt_85 ?_
        refine ev_icmp_ne 116 dX12_worthAt_86 (by decide) (fun h26 => ?_) (fun h26 => ?_)
        · rw [if_neg h26] at hf
          refine ev_iinc (al2 := [(2, vi (v1 + (-1))), (4, vi v6), (0, vr g 75), (3, vi v2)]) dX12_worthAt_116 2 rfl (by decide) rfl ?_
          refine ev_aload_n dX12_worthAt_119 2 rfl ?_
          refine ev_getK 18 dX12_worthAt_120 (hS.lt (hc 75 rfl)) rfl (hS.K1 (hc 75 rfl) rfl) ciX12 (by decide) rfl flX12_91 ?_
          refine ev_iload_n dX12_worthAt_123 0 rfl ?_
          refine ev_iconst dX12_worthAt_124 ?_
          refine ev_isub dX12_worthAt_125 ?_
          refine ev_iload dX12_worthAt_126 1 rfl ?_
          refine ev_aload_n dX12_worthAt_128 2 rfl ?_
          refine ev_getK 18 dX12_worthAt_129 (hS.lt (hc 75 rfl)) rfl (hS.K1 (hc 75 rfl) rfl) ciX12 (by decide) rfl flX12_91 ?_
          refine ev_iload_n dX12_worthAt_132 0 rfl ?_
          refine ev_iconst dX12_worthAt_133 ?_
          refine ev_isub dX12_worthAt_134 ?_
          obtain ⟨g27, hf⟩ := gd_elim hf
          refine ev_iald dX12_worthAt_135 (hS.lt (hc 87 rfl)) rfl (hS.mem _ (hc 87 rfl)) g27 ?_
          refine ev_aload_n dX12_worthAt_136 2 rfl ?_
          refine ev_getK 18 dX12_worthAt_137 (hS.lt (hc 75 rfl)) rfl (hS.K1 (hc 75 rfl) rfl) ciX12 (by decide) rfl flX12_91 ?_
          refine ev_iload_n dX12_worthAt_140 0 rfl ?_
          obtain ⟨g28, hf⟩ := gd_elim hf
          refine ev_iald dX12_worthAt_141 (hS.lt (hc 87 rfl)) rfl (hS.mem _ (hc 87 rfl)) g28 ?_
          obtain ⟨v29, hv29, hf⟩ := lt_elim hf
          refine cl_S1 (As := [vi v6, vi (μ 87 (w32 ((v1 + (-1)) - 1)).toNat), vi (μ 87 (w32 (v1 + (-1))).toNat)]) (st := [vi ((v1 + (-1)) - 1), vr g 87]) miX12_both (tX12_both v6 (μ 87 (w32 ((v1 + (-1)) - 1)).toNat) (μ 87 (w32 (v1 + (-1))).toNat) (L μ) hv29.symm) dX12_worthAt_142 lkX12_232 stX12_both rfl ⟨⟨Nat.le_of_ble_eq_true rfl, Nat.le_of_ble_eq_true rfl⟩, Nat.zero_le _, Nat.zero_le _⟩ (Nat.le_of_ble_eq_true rfl) ?_
          obtain ⟨g30, hf⟩ := gd_elim hf
          obtain ⟨μ31, hμ31, hf⟩ := lt_elim hf
          refine ev_iast dX12_worthAt_145 (hS.lt (hc 87 rfl)) rfl g30 (hS.up (hc 87 rfl) hμ31) ?_
          refine ev_iinc (al2 := [(3, vi (v2 + 1)), (2, vi (v1 + (-1))), (4, vi v6), (0, vr g 75)]) dX12_worthAt_146 3 rfl (by decide) rfl ?_
          refine ev_goto 4 dX12_worthAt_149 (by decide) ?_
          obtain rfl := Option.some.inj hf
          refine ev_sub [3, 1, 0] rfl ?_
          exact hr
        · rw [if_pos h26] at hf
          refine ev_aload_n dX12_worthAt_89 1 rfl ?_
          refine ev_getK 18 dX12_worthAt_90 (hS.lt (hc 75 rfl)) rfl (hS.K1 (hc 75 rfl) rfl) ciX12 (by decide) rfl flX12_91 ?_
          refine ev_iload_n dX12_worthAt_93 2 rfl ?_
          refine ev_iconst dX12_worthAt_94 ?_
          refine ev_isub dX12_worthAt_95 ?_
          refine ev_aload_n dX12_worthAt_96 1 rfl ?_
          refine ev_getK 18 dX12_worthAt_97 (hS.lt (hc 75 rfl)) rfl (hS.K1 (hc 75 rfl) rfl) ciX12 (by decide) rfl flX12_91 ?_
          refine ev_iload_n dX12_worthAt_100 2 rfl ?_
          refine ev_iconst dX12_worthAt_101 ?_
          refine ev_isub dX12_worthAt_102 ?_
          obtain ⟨g32, hf⟩ := gd_elim hf
          refine ev_iald dX12_worthAt_103 (hS.lt (hc 87 rfl)) rfl (hS.mem _ (hc 87 rfl)) g32 ?_
          obtain ⟨v33, hv33, hf⟩ := lt_elim hf
          have hJv33 : Ev l D cy g K yX12_worthAt cX12_worthAt 5 (some .int) (rmd 2 0 0) (MX D cy g K (rmd 2 0 0) Φ) 0 0 M x (L μ) 112 [(4, vi v6), (0, vr g 75), (2, vi v1), (3, vi v2)] [vb v33, vi (v1 - 1), vr g 87] := by
            obtain ⟨g35, hf⟩ := gd_elim hf
            obtain ⟨μ36, hμ36, hf⟩ := lt_elim hf
            refine ev_iast dX12_worthAt_112 (hS.lt (hc 87 rfl)) rfl g35 (hS.up (hc 87 rfl) hμ36) ?_
            refine ev_goto 146 dX12_worthAt_113 (by decide) ?_
            refine ev_iinc (al2 := [(3, vi (v2 + 1)), (4, vi v6), (0, vr g 75), (2, vi v1)]) dX12_worthAt_146 3 rfl (by decide) rfl ?_
            refine ev_goto 4 dX12_worthAt_149 (by decide) ?_
            obtain rfl := Option.some.inj hf
            refine ev_sub [2, 3, 0] rfl ?_
            exact hr
          refine ev_if_ne 111 dX12_worthAt_104 (by decide) (fun h34 => ?_) (fun h34 => ?_)
          · refine ev_iconst dX12_worthAt_111 ?_
            have e9 : v33 = false := hv33.trans ((if_neg h34))
            subst e9
            exact hJv33
          · refine ev_iconst dX12_worthAt_107 ?_
            refine ev_goto 112 dX12_worthAt_108 (by decide) ?_
            have e9 : v33 = true := hv33.trans ((if_pos h34))
            subst e9
            exact hJv33
      · rw [if_pos h25] at hf
        refine ev_sub [1, 2, 3, 0] rfl ?_
        exact tX12_worthAt_j39 hS hc from0 v1 v2 v6 μ hf hr
def fX12_worthAt (from0 : Int) (μ : Mem) : Option (Int × Mem) :=
  (loopN (fun s => fX12_worthAt_b4 from0 s.1 s.2.1 s.2.2) FU (0, from0, μ)).bind fun q40 =>
  some (((q40 87 0), q40))
set_option maxRecDepth 4000 in
theorem eX12_worthAt (hS : Sd M K P L) (hc : CIn P 75 88) (from0 : Int) (μ : Mem)  {o : Int × Mem} (hf : fX12_worthAt from0 μ = some o) (hr : (fun o : Int × Mem => Φ (some (vi o.1)) M x (L o.2)) o) : Ev l D cy g K yX12_worthAt cX12_worthAt 5 (some .int) (rmd 2 0 0) (MX D cy g K (rmd 2 0 0) Φ) 0 0 M x (L μ) 0 [(0, vr g 75), (1, vi from0)] [] := by
  unfold fX12_worthAt at hf
  refine ev_iconst dX12_worthAt_0 ?_
  refine ev_istore_n (al2 := [(2, vi 0), (0, vr g 75), (1, vi from0)]) dX12_worthAt_1 2 rfl (by decide) rfl ?_
  refine ev_iload_n dX12_worthAt_2 2 rfl ?_
  refine ev_istore_n (al2 := [(3, vi from0), (2, vi 0), (0, vr g 75), (1, vi from0)]) dX12_worthAt_3 3 rfl (by decide) rfl ?_
  obtain ⟨q40, hq40, hf⟩ := Option.bind_eq_some_iff.mp hf
  refine ev_sub [2, 1, 0] rfl ?_
  refine loop_ev (H := (fun s : Int × Int × Mem => Ev l D cy g K yX12_worthAt cX12_worthAt 5 (some .int) (rmd 2 0 0) (MX D cy g K (rmd 2 0 0) Φ) 0 0 M x (L s.2.2) 4 [(0, vr g 75), (2, vi s.1), (3, vi s.2.1)] [])) (Hx := (fun e : Mem => Ev l D cy g K yX12_worthAt cX12_worthAt 5 (some .int) (rmd 2 0 0) (MX D cy g K (rmd 2 0 0) Φ) 0 0 M x (L e) 152 [(0, vr g 75)] [])) (fun s o hb hr => tX12_worthAt_b4 hS hc from0 s.1 s.2.1 s.2.2 hb hr) FU _ _ hq40 ?_
  show Ev l D cy g K yX12_worthAt cX12_worthAt 5 (some .int) (rmd 2 0 0) (MX D cy g K (rmd 2 0 0) Φ) 0 0 M x (L q40) 152 [(0, vr g 75)] []
  refine ev_aload_n dX12_worthAt_152 0 rfl ?_
  refine ev_getK 18 dX12_worthAt_153 (hS.lt (hc 75 rfl)) rfl (hS.K1 (hc 75 rfl) rfl) ciX12 (by decide) rfl flX12_91 ?_
  refine ev_iconst dX12_worthAt_156 ?_
  refine ev_iald dX12_worthAt_157 (hS.lt (hc 87 rfl)) rfl (hS.mem _ (hc 87 rfl)) ⟨by decide, by decide⟩ ?_
  refine ev_rn (w := vi (q40 87 0)) (by rw [show (w32 0).toNat = 0 from by decide]) ?_
  obtain rfl := Option.some.inj hf
  exact ev_iret dX12_worthAt_158 rfl ⟨Nat.zero_le _, Nat.zero_le _⟩ hr
theorem tX12_worthAt (hS : Sd M K P L) (hc : CIn P 75 88) (from0 : Int) (μ : Mem) {o : Int × Mem} (hf : fX12_worthAt from0 μ = some o) : Cn l D cy g K K yX12_worthAt cX12_worthAt 5 (some .int) (rmd 2 0 0) [vr g 75, vi from0] M x (L μ) (PE (some (vi o.1)) M x (L o.2)) :=
 Cn.of (by decide) (Nat.le_of_ble_eq_true rfl) (eX12_worthAt hS hc from0 μ hf (PE_i _ _ _ _))
def fX12_copies_b3 (from0 : Int) (to0 : Int) (many : Int) (v1 : Int) (μ : Mem) : Option ((Int × Mem) ⊕ (Mem)) :=
  if w32 v1 < w32 many then
    gd (0 ≤ w32 (from0 + v1) ∧ w32 (from0 + v1) < 588) <|
    gd (0 ≤ w32 (to0 + v1) ∧ w32 (to0 + v1) < 588) <|
    lt (upd2 μ 88 ((w32 (to0 + v1)).toNat) (μ 88 (w32 (from0 + v1)).toNat)) fun μ5 =>
    some (.inl ((v1 + 1), μ5))
  else
    some (.inr μ)
set_option maxRecDepth 4000 in
theorem tX12_copies_b3 (hS : Sd M K P L) (hc : CIn P 75 89) (from0 : Int) (to0 : Int) (many : Int) (v1 : Int) (μ : Mem)  {o : (Int × Mem) ⊕ (Mem)} (hf : fX12_copies_b3 from0 to0 many v1 μ = some o) (hr : (Sum.elim (fun s : Int × Mem => Ev l D cy g K yX12_copies cX12_copies 5 none (rmd 1 0 0) (MX D cy g K (rmd 1 0 0) Φ) 0 0 M x (L s.2) 3 [(0, vr g 75), (1, vi from0), (2, vi to0), (3, vi many), (4, vi s.1)] []) (fun e : Mem => Ev l D cy g K yX12_copies cX12_copies 5 none (rmd 1 0 0) (MX D cy g K (rmd 1 0 0) Φ) 0 0 M x (L e) 33 [] [])) o) : Ev l D cy g K yX12_copies cX12_copies 5 none (rmd 1 0 0) (MX D cy g K (rmd 1 0 0) Φ) 0 0 M x (L μ) 3 [(0, vr g 75), (1, vi from0), (2, vi to0), (3, vi many), (4, vi v1)] [] := by
  unfold fX12_copies_b3 at hf
  refine ev_iload dX12_copies_3 4 rfl ?_
  refine ev_iload_n dX12_copies_5 3 rfl ?_
  refine ev_icmp_ge 33 dX12_copies_6 (by decide) (fun h2 => ?_) (fun h2 => ?_)
  · rw [if_neg h2] at hf
    obtain rfl := Option.some.inj hf
    refine ev_sub [] rfl ?_
    exact hr
  · rw [if_pos h2] at hf
    refine ev_aload_n dX12_copies_9 0 rfl ?_
    refine ev_getK 19 dX12_copies_10 (hS.lt (hc 75 rfl)) rfl (hS.K1 (hc 75 rfl) rfl) ciX12 (by decide) rfl flX12_94 ?_
    refine ev_iload_n dX12_copies_13 2 rfl ?_
    refine ev_iload dX12_copies_14 4 rfl ?_
    refine ev_iadd dX12_copies_16 ?_
    refine ev_aload_n dX12_copies_17 0 rfl ?_
    refine ev_getK 19 dX12_copies_18 (hS.lt (hc 75 rfl)) rfl (hS.K1 (hc 75 rfl) rfl) ciX12 (by decide) rfl flX12_94 ?_
    refine ev_iload_n dX12_copies_21 1 rfl ?_
    refine ev_iload dX12_copies_22 4 rfl ?_
    refine ev_iadd dX12_copies_24 ?_
    obtain ⟨g3, hf⟩ := gd_elim hf
    refine ev_iald dX12_copies_25 (hS.lt (hc 88 rfl)) rfl (hS.mem _ (hc 88 rfl)) g3 ?_
    obtain ⟨g4, hf⟩ := gd_elim hf
    obtain ⟨μ5, hμ5, hf⟩ := lt_elim hf
    refine ev_iast dX12_copies_26 (hS.lt (hc 88 rfl)) rfl g4 (hS.up (hc 88 rfl) hμ5) ?_
    refine ev_iinc (al2 := [(4, vi (v1 + 1)), (0, vr g 75), (1, vi from0), (2, vi to0), (3, vi many)]) dX12_copies_27 4 rfl (by decide) rfl ?_
    refine ev_goto 3 dX12_copies_30 (by decide) ?_
    obtain rfl := Option.some.inj hf
    refine ev_sub [1, 2, 3, 4, 0] rfl ?_
    exact hr
def fX12_copies (from0 : Int) (to0 : Int) (many : Int) (μ : Mem) : Option (Mem) :=
  (loopN (fun s => fX12_copies_b3 from0 to0 many s.1 s.2) FU (0, μ)).bind fun q6 =>
  some (q6)
set_option maxRecDepth 4000 in
theorem eX12_copies (hS : Sd M K P L) (hc : CIn P 75 89) (from0 : Int) (to0 : Int) (many : Int) (μ : Mem)  {o : Mem} (hf : fX12_copies from0 to0 many μ = some o) (hr : (fun o : Mem => Φ none M x (L o)) o) : Ev l D cy g K yX12_copies cX12_copies 5 none (rmd 1 0 0) (MX D cy g K (rmd 1 0 0) Φ) 0 0 M x (L μ) 0 [(0, vr g 75), (1, vi from0), (2, vi to0), (3, vi many)] [] := by
  unfold fX12_copies at hf
  refine ev_iconst dX12_copies_0 ?_
  refine ev_istore (al2 := [(4, vi 0), (0, vr g 75), (1, vi from0), (2, vi to0), (3, vi many)]) dX12_copies_1 (by decide) rfl ?_
  obtain ⟨q6, hq6, hf⟩ := Option.bind_eq_some_iff.mp hf
  refine ev_sub [1, 2, 3, 4, 0] rfl ?_
  refine loop_ev (H := (fun s : Int × Mem => Ev l D cy g K yX12_copies cX12_copies 5 none (rmd 1 0 0) (MX D cy g K (rmd 1 0 0) Φ) 0 0 M x (L s.2) 3 [(0, vr g 75), (1, vi from0), (2, vi to0), (3, vi many), (4, vi s.1)] [])) (Hx := (fun e : Mem => Ev l D cy g K yX12_copies cX12_copies 5 none (rmd 1 0 0) (MX D cy g K (rmd 1 0 0) Φ) 0 0 M x (L e) 33 [] [])) (fun s o hb hr => tX12_copies_b3 hS hc from0 to0 many s.1 s.2 hb hr) FU _ _ hq6 ?_
  show Ev l D cy g K yX12_copies cX12_copies 5 none (rmd 1 0 0) (MX D cy g K (rmd 1 0 0) Φ) 0 0 M x (L q6) 33 [] []
  obtain rfl := Option.some.inj hf
  exact ev_vret dX12_copies_33 rfl ⟨Nat.zero_le _, Nat.zero_le _⟩ hr
theorem tX12_copies (hS : Sd M K P L) (hc : CIn P 75 89) (from0 : Int) (to0 : Int) (many : Int) (μ : Mem) {o : Mem} (hf : fX12_copies from0 to0 many μ = some o) : Cn l D cy g K K yX12_copies cX12_copies 5 none (rmd 1 0 0) [vr g 75, vi from0, vi to0, vi many] M x (L μ) (PE none M x (L o)) :=
 Cn.of (by decide) (Nat.le_of_ble_eq_true rfl) (eX12_copies hS hc from0 to0 many μ hf (PE_i _ _ _ _))
def fX12_keeps_j52  (μ : Mem) : Option (Mem) :=
  (fX12_copies 0 (28 * (5 + (μ 75 20))) 3 μ).bind fun μ2 =>
  lt (upd2 μ2 75 20 ((μ2 75 20) + 1)) fun μ3 =>
  some (μ3)
set_option maxRecDepth 4000 in
theorem tX12_keeps_j52 (hS : Sd M K P L) (hc : CIn P 75 89)  (μ : Mem)  {o : Mem} (hf : fX12_keeps_j52 μ = some o) (hr : (fun o : Mem => Φ none M x (L o)) o) : Ev l D cy g K yX12_keeps cX12_keeps 2 none (rmd 2 0 0) (MX D cy g K (rmd 2 0 0) Φ) 0 0 M x (L μ) 52 [(0, vr g 75)] [] := by
  unfold fX12_keeps_j52 at hf
  refine ev_aload_n dX12_keeps_52 0 rfl ?_
  refine ev_iconst dX12_keeps_53 ?_
  refine ev_bipush dX12_keeps_54 (by decide) ?_
  refine ev_iconst dX12_keeps_56 ?_
  refine ev_aload_n dX12_keeps_57 0 rfl ?_
  refine ev_getI 20 dX12_keeps_58 (hS.lt (hc 75 rfl)) rfl (hS.mem _ (hc 75 rfl)) ciX12 (by decide) rfl flX12_248 ?_
  refine ev_iadd dX12_keeps_61 ?_
  refine ev_imul dX12_keeps_62 ?_
  refine ev_iconst dX12_keeps_63 ?_
  obtain ⟨μ2, hμ2, hf⟩ := Option.bind_eq_some_iff.mp hf
  refine cl_V0 (As := [vi 0, vi (28 * (5 + (μ 75 20))), vi 3]) (st := []) miX12_copies (tX12_copies hS (hc.w rfl rfl) 0 (28 * (5 + (μ 75 20))) 3 μ hμ2) dX12_keeps_64 lkX12_254 inX12_copies rfl (hS.lt (hc 75 rfl)) rfl ⟨rfl, rfl⟩ ⟨⟨Nat.le_of_ble_eq_true rfl, Nat.le_of_ble_eq_true rfl⟩, Nat.zero_le _, Nat.zero_le _⟩ (Nat.le_of_ble_eq_true rfl) ?_
  refine ev_aload_n dX12_keeps_67 0 rfl ?_
  refine ev_dup dX12_keeps_68 rfl ?_
  refine ev_getI 20 dX12_keeps_69 (hS.lt (hc 75 rfl)) rfl (hS.mem _ (hc 75 rfl)) ciX12 (by decide) rfl flX12_248 ?_
  refine ev_iconst dX12_keeps_72 ?_
  refine ev_iadd dX12_keeps_73 ?_
  obtain ⟨μ3, hμ3, hf⟩ := lt_elim hf
  refine ev_putI 20 dX12_keeps_74 (hS.lt (hc 75 rfl)) rfl ciX12 (by decide) (Or.inl rfl) rfl rfl flX12_248 (hS.up (hc 75 rfl) hμ3) ?_
  obtain rfl := Option.some.inj hf
  exact ev_vret dX12_keeps_77 rfl ⟨Nat.zero_le _, Nat.zero_le _⟩ hr
def fX12_keeps_b11 (v4 : Int) (μ : Mem) : Option ((Int × Mem) ⊕ (Mem)) :=
  if w32 v4 < w32 16 then
    (fX12_copies (28 * (5 + v4)) (28 * ((5 + v4) - 1)) 3 μ).bind fun μ6 =>
    some (.inl ((v4 + 1), μ6))
  else
    some (.inr μ)
set_option maxRecDepth 4000 in
theorem tX12_keeps_b11 (hS : Sd M K P L) (hc : CIn P 75 89) (v4 : Int) (μ : Mem)  {o : (Int × Mem) ⊕ (Mem)} (hf : fX12_keeps_b11 v4 μ = some o) (hr : (Sum.elim (fun s : Int × Mem => Ev l D cy g K yX12_keeps cX12_keeps 2 none (rmd 2 0 0) (MX D cy g K (rmd 2 0 0) Φ) 0 0 M x (L s.2) 11 [(0, vr g 75), (1, vi s.1)] []) (fun e : Mem => Ev l D cy g K yX12_keeps cX12_keeps 2 none (rmd 2 0 0) (MX D cy g K (rmd 2 0 0) Φ) 0 0 M x (L e) 42 [(0, vr g 75)] [])) o) : Ev l D cy g K yX12_keeps cX12_keeps 2 none (rmd 2 0 0) (MX D cy g K (rmd 2 0 0) Φ) 0 0 M x (L μ) 11 [(0, vr g 75), (1, vi v4)] [] := by
  unfold fX12_keeps_b11 at hf
  refine ev_iload_n dX12_keeps_11 1 rfl ?_
  refine ev_bipush dX12_keeps_12 (by decide) ?_
  refine ev_icmp_ge 42 dX12_keeps_14 (by decide) (fun h5 => ?_) (fun h5 => ?_)
  · rw [if_neg h5] at hf
    obtain rfl := Option.some.inj hf
    refine ev_sub [0] rfl ?_
    exact hr
  · rw [if_pos h5] at hf
    refine ev_aload_n dX12_keeps_17 0 rfl ?_
    refine ev_bipush dX12_keeps_18 (by decide) ?_
    refine ev_iconst dX12_keeps_20 ?_
    refine ev_iload_n dX12_keeps_21 1 rfl ?_
    refine ev_iadd dX12_keeps_22 ?_
    refine ev_imul dX12_keeps_23 ?_
    refine ev_bipush dX12_keeps_24 (by decide) ?_
    refine ev_iconst dX12_keeps_26 ?_
    refine ev_iload_n dX12_keeps_27 1 rfl ?_
    refine ev_iadd dX12_keeps_28 ?_
    refine ev_iconst dX12_keeps_29 ?_
    refine ev_isub dX12_keeps_30 ?_
    refine ev_imul dX12_keeps_31 ?_
    refine ev_iconst dX12_keeps_32 ?_
    obtain ⟨μ6, hμ6, hf⟩ := Option.bind_eq_some_iff.mp hf
    refine cl_V0 (As := [vi (28 * (5 + v4)), vi (28 * ((5 + v4) - 1)), vi 3]) (st := []) miX12_copies (tX12_copies hS (hc.w rfl rfl) (28 * (5 + v4)) (28 * ((5 + v4) - 1)) 3 μ hμ6) dX12_keeps_33 lkX12_254 inX12_copies rfl (hS.lt (hc 75 rfl)) rfl ⟨rfl, rfl⟩ ⟨⟨Nat.le_of_ble_eq_true rfl, Nat.le_of_ble_eq_true rfl⟩, Nat.zero_le _, Nat.zero_le _⟩ (Nat.le_of_ble_eq_true rfl) ?_
    refine ev_iinc (al2 := [(1, vi (v4 + 1)), (0, vr g 75)]) dX12_keeps_36 1 rfl (by decide) rfl ?_
    refine ev_goto 11 dX12_keeps_39 (by decide) ?_
    obtain rfl := Option.some.inj hf
    refine ev_sub [1, 0] rfl ?_
    exact hr
def fX12_keeps  (μ : Mem) : Option (Mem) :=
  if w32 (μ 75 20) = w32 16 then
    (loopN (fun s => fX12_keeps_b11 s.1 s.2) FU (1, μ)).bind fun q7 =>
    lt (upd2 q7 75 20 ((q7 75 20) - 1)) fun μ8 =>
    fX12_keeps_j52 μ8
  else
    fX12_keeps_j52 μ
set_option maxRecDepth 4000 in
theorem eX12_keeps (hS : Sd M K P L) (hc : CIn P 75 89)  (μ : Mem)  {o : Mem} (hf : fX12_keeps  μ = some o) (hr : (fun o : Mem => Φ none M x (L o)) o) : Ev l D cy g K yX12_keeps cX12_keeps 2 none (rmd 2 0 0) (MX D cy g K (rmd 2 0 0) Φ) 0 0 M x (L μ) 0 [(0, vr g 75)] [] := by
  unfold fX12_keeps at hf
  refine ev_aload_n dX12_keeps_0 0 rfl ?_
  refine ev_getI 20 dX12_keeps_1 (hS.lt (hc 75 rfl)) rfl (hS.mem _ (hc 75 rfl)) ciX12 (by decide) rfl flX12_248 ?_
  refine ev_bipush dX12_keeps_4 (by decide) ?_
  refine ev_icmp_ne 52 dX12_keeps_6 (by decide) (fun h1 => ?_) (fun h1 => ?_)
  · rw [if_neg h1] at hf
    refine ev_sub [0] rfl ?_
    exact tX12_keeps_j52 hS hc μ hf hr
  · rw [if_pos h1] at hf
    refine ev_iconst dX12_keeps_9 ?_
    refine ev_istore_n (al2 := [(1, vi 1), (0, vr g 75)]) dX12_keeps_10 1 rfl (by decide) rfl ?_
    obtain ⟨q7, hq7, hf⟩ := Option.bind_eq_some_iff.mp hf
    refine ev_sub [1, 0] rfl ?_
    refine loop_ev (H := (fun s : Int × Mem => Ev l D cy g K yX12_keeps cX12_keeps 2 none (rmd 2 0 0) (MX D cy g K (rmd 2 0 0) Φ) 0 0 M x (L s.2) 11 [(0, vr g 75), (1, vi s.1)] [])) (Hx := (fun e : Mem => Ev l D cy g K yX12_keeps cX12_keeps 2 none (rmd 2 0 0) (MX D cy g K (rmd 2 0 0) Φ) 0 0 M x (L e) 42 [(0, vr g 75)] [])) (fun s o hb hr => tX12_keeps_b11 hS hc s.1 s.2 hb hr) FU _ _ hq7 ?_
    show Ev l D cy g K yX12_keeps cX12_keeps 2 none (rmd 2 0 0) (MX D cy g K (rmd 2 0 0) Φ) 0 0 M x (L q7) 42 [(0, vr g 75)] []
    refine ev_aload_n dX12_keeps_42 0 rfl ?_
    refine ev_dup dX12_keeps_43 rfl ?_
    refine ev_getI 20 dX12_keeps_44 (hS.lt (hc 75 rfl)) rfl (hS.mem _ (hc 75 rfl)) ciX12 (by decide) rfl flX12_248 ?_
    refine ev_iconst dX12_keeps_47 ?_
    refine ev_isub dX12_keeps_48 ?_
    obtain ⟨μ8, hμ8, hf⟩ := lt_elim hf
    refine ev_putI 20 dX12_keeps_49 (hS.lt (hc 75 rfl)) rfl ciX12 (by decide) (Or.inl rfl) rfl rfl flX12_248 (hS.up (hc 75 rfl) hμ8) ?_
    refine ev_sub [0] rfl ?_
    exact tX12_keeps_j52 hS hc μ8 hf hr
theorem tX12_keeps (hS : Sd M K P L) (hc : CIn P 75 89) (μ : Mem) {o : Mem} (hf : fX12_keeps μ = some o) : Cn l D cy g K K yX12_keeps cX12_keeps 2 none (rmd 2 0 0) [vr g 75] M x (L μ) (PE none M x (L o)) :=
 Cn.of (by decide) (Nat.le_of_ble_eq_true rfl) (eX12_keeps hS hc μ hf (PE_i _ _ _ _))
def fX12_sides_b4 (v1 : Int) (v2 : Int) (μ : Mem) : Option ((Int × Int) ⊕ (Int)) :=
  if w32 v2 < w32 (μ 81 0) then
    (fX12_hasSide v2 μ).bind fun v4 =>
    lt (if v4 = true then
        1
      else
        0) fun v5 =>
    lt (v1 + v5) fun v7 =>
    some (.inl (v7, (v2 + 1)))
  else
    some (.inr v1)
set_option maxRecDepth 4000 in
theorem tX12_sides_b4 (hS : Sd M K P L) (hc : CIn P 75 82) (v1 : Int) (v2 : Int) (μ : Mem)  {o : (Int × Int) ⊕ (Int)} (hf : fX12_sides_b4 v1 v2 μ = some o) (hr : (Sum.elim (fun s : Int × Int => Ev l D cy g K yX12_sides cX12_sides 3 (some .int) (rmd 3 0 0) (MX D cy g K (rmd 3 0 0) Φ) 0 0 M x (L μ) 4 [(0, vr g 75), (1, vi s.1), (2, vi s.2)] []) (fun e : Int => Ev l D cy g K yX12_sides cX12_sides 3 (some .int) (rmd 3 0 0) (MX D cy g K (rmd 3 0 0) Φ) 0 0 M x (L μ) 34 [(1, vi e)] [])) o) : Ev l D cy g K yX12_sides cX12_sides 3 (some .int) (rmd 3 0 0) (MX D cy g K (rmd 3 0 0) Φ) 0 0 M x (L μ) 4 [(0, vr g 75), (1, vi v1), (2, vi v2)] [] := by
  unfold fX12_sides_b4 at hf
  refine ev_iload_n dX12_sides_4 2 rfl ?_
  refine ev_aload_n dX12_sides_5 0 rfl ?_
  refine cl_V1 (As := []) (st := [vi v2]) miX12_cakes (tX12_cakes hS (hc.w rfl rfl) μ (o := (μ 81 0)) rfl) dX12_sides_6 lkX12_209 inX12_cakes rfl (hS.lt (hc 75 rfl)) rfl ⟨rfl, rfl⟩ ⟨⟨Nat.le_of_ble_eq_true rfl, Nat.le_of_ble_eq_true rfl⟩, Nat.zero_le _, Nat.zero_le _⟩ (Nat.le_of_ble_eq_true rfl) ?_
  refine ev_icmp_ge 34 dX12_sides_9 (by decide) (fun h3 => ?_) (fun h3 => ?_)
  · rw [if_neg h3] at hf
    obtain rfl := Option.some.inj hf
    refine ev_sub [1] rfl ?_
    exact hr
  · rw [if_pos h3] at hf
    refine ev_iload_n dX12_sides_12 1 rfl ?_
    refine ev_aload_n dX12_sides_13 0 rfl ?_
    refine ev_iload_n dX12_sides_14 2 rfl ?_
    obtain ⟨v4, hv4, hf⟩ := Option.bind_eq_some_iff.mp hf
    refine cl_V1 (As := [vi v2]) (st := [vi v1]) miX12_hasSide (tX12_hasSide hS (hc.w rfl rfl) v2 μ hv4) dX12_sides_15 lkX12_236 inX12_hasSide rfl (hS.lt (hc 75 rfl)) rfl ⟨rfl, rfl⟩ ⟨⟨Nat.le_of_ble_eq_true rfl, Nat.le_of_ble_eq_true rfl⟩, Nat.zero_le _, Nat.zero_le _⟩ (Nat.le_of_ble_eq_true rfl) ?_
    obtain ⟨v5, hv5, hf⟩ := lt_elim hf
    have hJv5 : Ev l D cy g K yX12_sides cX12_sides 3 (some .int) (rmd 3 0 0) (MX D cy g K (rmd 3 0 0) Φ) 0 0 M x (L μ) 26 [(0, vr g 75), (1, vi v1), (2, vi v2)] [vi v5, vi v1] := by
      refine ev_iadd dX12_sides_26 ?_
      obtain ⟨v7, hv7, hf⟩ := lt_elim hf
      refine ev_rni hv7 ?_
      refine ev_istore_n (al2 := [(1, vi v7), (0, vr g 75), (2, vi v2)]) dX12_sides_27 1 rfl (by decide) rfl ?_
      refine ev_iinc (al2 := [(2, vi (v2 + 1)), (1, vi v7), (0, vr g 75)]) dX12_sides_28 2 rfl (by decide) rfl ?_
      refine ev_goto 4 dX12_sides_31 (by decide) ?_
      obtain rfl := Option.some.inj hf
      refine ev_sub [2, 1, 0] rfl ?_
      exact hr
    refine ev_ifb_eq 25 dX12_sides_18 (by decide) (fun h6 => ?_) (fun h6 => ?_)
    · refine ev_iconst dX12_sides_25 ?_
      have e9 : v5 = 0 := hv5.trans ((if_neg h6))
      subst e9
      exact hJv5
    · refine ev_iconst dX12_sides_21 ?_
      refine ev_goto 26 dX12_sides_22 (by decide) ?_
      have e9 : v5 = 1 := hv5.trans ((if_pos h6))
      subst e9
      exact hJv5
def fX12_sides  (μ : Mem) : Option (Int) :=
  (loopN (fun s => fX12_sides_b4 s.1 s.2 μ) FU (0, 0)).bind fun q8 =>
  some (q8)
set_option maxRecDepth 4000 in
theorem eX12_sides (hS : Sd M K P L) (hc : CIn P 75 82)  (μ : Mem)  {o : Int} (hf : fX12_sides  μ = some o) (hr : (fun o : Int => Φ (some (vi o)) M x (L μ)) o) : Ev l D cy g K yX12_sides cX12_sides 3 (some .int) (rmd 3 0 0) (MX D cy g K (rmd 3 0 0) Φ) 0 0 M x (L μ) 0 [(0, vr g 75)] [] := by
  unfold fX12_sides at hf
  refine ev_iconst dX12_sides_0 ?_
  refine ev_istore_n (al2 := [(1, vi 0), (0, vr g 75)]) dX12_sides_1 1 rfl (by decide) rfl ?_
  refine ev_iconst dX12_sides_2 ?_
  refine ev_istore_n (al2 := [(2, vi 0), (1, vi 0), (0, vr g 75)]) dX12_sides_3 2 rfl (by decide) rfl ?_
  obtain ⟨q8, hq8, hf⟩ := Option.bind_eq_some_iff.mp hf
  refine ev_sub [2, 1, 0] rfl ?_
  refine loop_ev (H := (fun s : Int × Int => Ev l D cy g K yX12_sides cX12_sides 3 (some .int) (rmd 3 0 0) (MX D cy g K (rmd 3 0 0) Φ) 0 0 M x (L μ) 4 [(0, vr g 75), (1, vi s.1), (2, vi s.2)] [])) (Hx := (fun e : Int => Ev l D cy g K yX12_sides cX12_sides 3 (some .int) (rmd 3 0 0) (MX D cy g K (rmd 3 0 0) Φ) 0 0 M x (L μ) 34 [(1, vi e)] [])) (fun s o hb hr => tX12_sides_b4 hS hc s.1 s.2 μ hb hr) FU _ _ hq8 ?_
  show Ev l D cy g K yX12_sides cX12_sides 3 (some .int) (rmd 3 0 0) (MX D cy g K (rmd 3 0 0) Φ) 0 0 M x (L μ) 34 [(1, vi q8)] []
  refine ev_iload_n dX12_sides_34 0 rfl ?_
  obtain rfl := Option.some.inj hf
  exact ev_iret dX12_sides_35 rfl ⟨Nat.zero_le _, Nat.zero_le _⟩ hr
theorem tX12_sides (hS : Sd M K P L) (hc : CIn P 75 82) (μ : Mem) {o : Int} (hf : fX12_sides μ = some o) : Cn l D cy g K K yX12_sides cX12_sides 3 (some .int) (rmd 3 0 0) [vr g 75] M x (L μ) (PE (some (vi o)) M x (L μ)) :=
 Cn.of (by decide) (Nat.le_of_ble_eq_true rfl) (eX12_sides hS hc μ hf (PE_i _ _ _ _))
def fX12_ordersOf_b4 (n0 : Int) (v1 : Int) (v2 : Int) (μ : Mem) : Option ((Int × Int) ⊕ (Int)) :=
  if w32 v2 ≤ w32 n0 then
    lt (v1 * v2) fun v4 =>
    some (.inl (v4, (v2 + 1)))
  else
    some (.inr v1)
set_option maxRecDepth 4000 in
theorem tX12_ordersOf_b4 (hS : Sd M K P L) (hc : CIn P 100 0) (n0 : Int) (v1 : Int) (v2 : Int) (μ : Mem)  {o : (Int × Int) ⊕ (Int)} (hf : fX12_ordersOf_b4 n0 v1 v2 μ = some o) (hr : (Sum.elim (fun s : Int × Int => Ev l D cy g K yX12_ordersOf cX12_ordersOf 3 (some .int) (rmd 1 0 0) (MX D cy g K (rmd 1 0 0) Φ) 0 0 M x (L μ) 4 [(0, vi n0), (1, vi s.1), (2, vi s.2)] []) (fun e : Int => Ev l D cy g K yX12_ordersOf cX12_ordersOf 3 (some .int) (rmd 1 0 0) (MX D cy g K (rmd 1 0 0) Φ) 0 0 M x (L μ) 19 [(1, vi e)] [])) o) : Ev l D cy g K yX12_ordersOf cX12_ordersOf 3 (some .int) (rmd 1 0 0) (MX D cy g K (rmd 1 0 0) Φ) 0 0 M x (L μ) 4 [(0, vi n0), (1, vi v1), (2, vi v2)] [] := by
  unfold fX12_ordersOf_b4 at hf
  refine ev_iload_n dX12_ordersOf_4 2 rfl ?_
  refine ev_iload_n dX12_ordersOf_5 0 rfl ?_
  refine ev_icmp_gt 19 dX12_ordersOf_6 (by decide) (fun h3 => ?_) (fun h3 => ?_)
  · rw [if_neg h3] at hf
    obtain rfl := Option.some.inj hf
    refine ev_sub [1] rfl ?_
    exact hr
  · rw [if_pos h3] at hf
    refine ev_iload_n dX12_ordersOf_9 1 rfl ?_
    refine ev_iload_n dX12_ordersOf_10 2 rfl ?_
    refine ev_imul dX12_ordersOf_11 ?_
    obtain ⟨v4, hv4, hf⟩ := lt_elim hf
    refine ev_rni hv4 ?_
    refine ev_istore_n (al2 := [(1, vi v4), (0, vi n0), (2, vi v2)]) dX12_ordersOf_12 1 rfl (by decide) rfl ?_
    refine ev_iinc (al2 := [(2, vi (v2 + 1)), (1, vi v4), (0, vi n0)]) dX12_ordersOf_13 2 rfl (by decide) rfl ?_
    refine ev_goto 4 dX12_ordersOf_16 (by decide) ?_
    obtain rfl := Option.some.inj hf
    refine ev_sub [2, 1, 0] rfl ?_
    exact hr
def fX12_ordersOf (n0 : Int) (μ : Mem) : Option (Int) :=
  (loopN (fun s => fX12_ordersOf_b4 n0 s.1 s.2 μ) FU (1, 2)).bind fun q5 =>
  some (q5)
set_option maxRecDepth 4000 in
theorem eX12_ordersOf (hS : Sd M K P L) (hc : CIn P 100 0) (n0 : Int) (μ : Mem)  {o : Int} (hf : fX12_ordersOf n0 μ = some o) (hr : (fun o : Int => Φ (some (vi o)) M x (L μ)) o) : Ev l D cy g K yX12_ordersOf cX12_ordersOf 3 (some .int) (rmd 1 0 0) (MX D cy g K (rmd 1 0 0) Φ) 0 0 M x (L μ) 0 [(0, vi n0)] [] := by
  unfold fX12_ordersOf at hf
  refine ev_iconst dX12_ordersOf_0 ?_
  refine ev_istore_n (al2 := [(1, vi 1), (0, vi n0)]) dX12_ordersOf_1 1 rfl (by decide) rfl ?_
  refine ev_iconst dX12_ordersOf_2 ?_
  refine ev_istore_n (al2 := [(2, vi 2), (1, vi 1), (0, vi n0)]) dX12_ordersOf_3 2 rfl (by decide) rfl ?_
  obtain ⟨q5, hq5, hf⟩ := Option.bind_eq_some_iff.mp hf
  refine ev_sub [2, 1, 0] rfl ?_
  refine loop_ev (H := (fun s : Int × Int => Ev l D cy g K yX12_ordersOf cX12_ordersOf 3 (some .int) (rmd 1 0 0) (MX D cy g K (rmd 1 0 0) Φ) 0 0 M x (L μ) 4 [(0, vi n0), (1, vi s.1), (2, vi s.2)] [])) (Hx := (fun e : Int => Ev l D cy g K yX12_ordersOf cX12_ordersOf 3 (some .int) (rmd 1 0 0) (MX D cy g K (rmd 1 0 0) Φ) 0 0 M x (L μ) 19 [(1, vi e)] [])) (fun s o hb hr => tX12_ordersOf_b4 hS hc n0 s.1 s.2 μ hb hr) FU _ _ hq5 ?_
  show Ev l D cy g K yX12_ordersOf cX12_ordersOf 3 (some .int) (rmd 1 0 0) (MX D cy g K (rmd 1 0 0) Φ) 0 0 M x (L μ) 19 [(1, vi q5)] []
  refine ev_iload_n dX12_ordersOf_19 0 rfl ?_
  obtain rfl := Option.some.inj hf
  exact ev_iret dX12_ordersOf_20 rfl ⟨Nat.zero_le _, Nat.zero_le _⟩ hr
theorem tX12_ordersOf (hS : Sd M K P L) (hc : CIn P 100 0) (n0 : Int) (μ : Mem) {o : Int} (hf : fX12_ordersOf n0 μ = some o) : Cn l D cy g K K yX12_ordersOf cX12_ordersOf 3 (some .int) (rmd 1 0 0) [vi n0] M x (L μ) (PE (some (vi o)) M x (L μ)) :=
 Cn.of (by decide) (Nat.le_of_ble_eq_true rfl) (eX12_ordersOf hS hc n0 μ hf (PE_i _ _ _ _))
def fX12_stacks  (μ : Mem) : Option (Int) :=
  (fX12_ordersOf (μ 81 0) μ).bind fun v1 =>
  (fX12_sides μ).bind fun v2 =>
  some ((i_shl v1 v2))
set_option maxRecDepth 4000 in
theorem eX12_stacks (hS : Sd M K P L) (hc : CIn P 75 82)  (μ : Mem)  {o : Int} (hf : fX12_stacks  μ = some o) (hr : (fun o : Int => Φ (some (vi o)) M x (L μ)) o) : Ev l D cy g K yX12_stacks cX12_stacks 1 (some .int) (rmd 4 0 0) (MX D cy g K (rmd 4 0 0) Φ) 0 0 M x (L μ) 0 [(0, vr g 75)] [] := by
  unfold fX12_stacks at hf
  refine ev_aload_n dX12_stacks_0 0 rfl ?_
  refine cl_V1 (As := []) (st := []) miX12_cakes (tX12_cakes hS (hc.w rfl rfl) μ (o := (μ 81 0)) rfl) dX12_stacks_1 lkX12_209 inX12_cakes rfl (hS.lt (hc 75 rfl)) rfl ⟨rfl, rfl⟩ ⟨⟨Nat.le_of_ble_eq_true rfl, Nat.le_of_ble_eq_true rfl⟩, Nat.zero_le _, Nat.zero_le _⟩ (Nat.le_of_ble_eq_true rfl) ?_
  obtain ⟨v1, hv1, hf⟩ := Option.bind_eq_some_iff.mp hf
  refine cl_S1 (As := [vi (μ 81 0)]) (st := []) miX12_ordersOf (tX12_ordersOf hS (hc.w rfl rfl) (μ 81 0) μ hv1) dX12_stacks_4 lkX12_258 stX12_ordersOf rfl ⟨⟨Nat.le_of_ble_eq_true rfl, Nat.le_of_ble_eq_true rfl⟩, Nat.zero_le _, Nat.zero_le _⟩ (Nat.le_of_ble_eq_true rfl) ?_
  refine ev_aload_n dX12_stacks_7 0 rfl ?_
  obtain ⟨v2, hv2, hf⟩ := Option.bind_eq_some_iff.mp hf
  refine cl_V1 (As := []) (st := [vi v1]) miX12_sides (tX12_sides hS (hc.w rfl rfl) μ hv2) dX12_stacks_8 lkX12_261 inX12_sides rfl (hS.lt (hc 75 rfl)) rfl ⟨rfl, rfl⟩ ⟨⟨Nat.le_of_ble_eq_true rfl, Nat.le_of_ble_eq_true rfl⟩, Nat.zero_le _, Nat.zero_le _⟩ (Nat.le_of_ble_eq_true rfl) ?_
  refine ev_ishl dX12_stacks_11 ?_
  obtain rfl := Option.some.inj hf
  exact ev_iret dX12_stacks_12 rfl ⟨Nat.zero_le _, Nat.zero_le _⟩ hr
theorem tX12_stacks (hS : Sd M K P L) (hc : CIn P 75 82) (μ : Mem) {o : Int} (hf : fX12_stacks μ = some o) : Cn l D cy g K K yX12_stacks cX12_stacks 1 (some .int) (rmd 4 0 0) [vr g 75] M x (L μ) (PE (some (vi o)) M x (L μ)) :=
 Cn.of (by decide) (Nat.le_of_ble_eq_true rfl) (eX12_stacks hS hc μ hf (PE_i _ _ _ _))
def fX12_lays_j65 (number : Int) (v1 : Int) (v12 : Int) (v5 : Int) (v6 : Int) (v16 : Int) (v17 : Int) (μ : Mem) : Option ((Int × Int × Mem) ⊕ (Int × Mem)) :=
  lt (if w32 (i_and (i_shr v5 v17) 1) = 0 then
      1
    else
      0) fun v18 =>
  lt (v16 - v18) fun v20 =>
  some (.inl (v20, (v17 + 1), μ))
set_option maxRecDepth 4000 in
theorem tX12_lays_j65 (hS : Sd M K P L) (hc : CIn P 75 92) (number : Int) (v1 : Int) (v12 : Int) (v5 : Int) (v6 : Int) (v16 : Int) (v17 : Int) (μ : Mem)  {o : (Int × Int × Mem) ⊕ (Int × Mem)} (hf : fX12_lays_j65 number v1 v12 v5 v6 v16 v17 μ = some o) (hr : (Sum.elim (fun s : Int × Int × Mem => Ev l D cy g K yX12_lays cX12_lays 9 none (rmd 4 0 0) (MX D cy g K (rmd 4 0 0) Φ) 0 0 M x (L s.2.2) 49 [(0, vr g 75), (1, vi number), (2, vi v1), (3, vi v12), (4, vi v5), (5, vi v6), (7, vi s.1), (8, vi s.2.1)] []) (fun e : Int × Mem => Ev l D cy g K yX12_lays cX12_lays 9 none (rmd 4 0 0) (MX D cy g K (rmd 4 0 0) Φ) 0 0 M x (L e.2) 91 [(0, vr g 75), (1, vi number), (2, vi v1), (3, vi v12), (4, vi v5), (5, vi v6), (8, vi e.1)] [])) o) : Ev l D cy g K yX12_lays cX12_lays 9 none (rmd 4 0 0) (MX D cy g K (rmd 4 0 0) Φ) 0 0 M x (L μ) 65 [(0, vr g 75), (1, vi number), (2, vi v1), (3, vi v12), (4, vi v5), (5, vi v6), (7, vi v16), (8, vi v17)] [] := by
  unfold fX12_lays_j65 at hf
  refine ev_iload dX12_lays_65 6 rfl ?_
  refine ev_iload dX12_lays_67 4 rfl ?_
  refine ev_iload dX12_lays_69 7 rfl ?_
  refine ev_ishr dX12_lays_71 ?_
  refine ev_iconst dX12_lays_72 ?_
  refine ev_iand dX12_lays_73 ?_
  obtain ⟨v18, hv18, hf⟩ := lt_elim hf
  have hJv18 : Ev l D cy g K yX12_lays cX12_lays 9 none (rmd 4 0 0) (MX D cy g K (rmd 4 0 0) Φ) 0 0 M x (L μ) 82 [(0, vr g 75), (1, vi number), (2, vi v1), (3, vi v12), (4, vi v5), (5, vi v6), (7, vi v16), (8, vi v17)] [vi v18, vi v16] := by
    refine ev_isub dX12_lays_82 ?_
    obtain ⟨v20, hv20, hf⟩ := lt_elim hf
    refine ev_rni hv20 ?_
    refine ev_istore (al2 := [(7, vi v20), (0, vr g 75), (1, vi number), (2, vi v1), (3, vi v12), (4, vi v5), (5, vi v6), (8, vi v17)]) dX12_lays_83 (by decide) rfl ?_
    refine ev_iinc (al2 := [(8, vi (v17 + 1)), (7, vi v20), (0, vr g 75), (1, vi number), (2, vi v1), (3, vi v12), (4, vi v5), (5, vi v6)]) dX12_lays_85 7 rfl (by decide) rfl ?_
    refine ev_goto 49 dX12_lays_88 (by decide) ?_
    obtain rfl := Option.some.inj hf
    refine ev_sub [2, 3, 4, 5, 6, 7, 1, 0] rfl ?_
    exact hr
  refine ev_if_ne 81 dX12_lays_74 (by decide) (fun h19 => ?_) (fun h19 => ?_)
  · refine ev_iconst dX12_lays_81 ?_
    have e9 : v18 = 0 := hv18.trans ((if_neg h19))
    subst e9
    exact hJv18
  · refine ev_iconst dX12_lays_77 ?_
    refine ev_goto 82 dX12_lays_78 (by decide) ?_
    have e9 : v18 = 1 := hv18.trans ((if_pos h19))
    subst e9
    exact hJv18
def fX12_lays_b49 (number : Int) (v1 : Int) (v12 : Int) (v5 : Int) (v6 : Int) (v13 : Int) (v14 : Int) (μ : Mem) : Option ((Int × Int × Mem) ⊕ (Int × Mem)) :=
  if w32 (i_and (i_shr v5 v14) 1) = w32 1 then
    fX12_lays_j65 number v1 v12 v5 v6 v13 v14 μ
  else
    if w32 v13 ≤ 0 then
      some (.inr (v14, μ))
    else
      fX12_lays_j65 number v1 v12 v5 v6 v13 v14 μ
set_option maxRecDepth 4000 in
theorem tX12_lays_b49 (hS : Sd M K P L) (hc : CIn P 75 92) (number : Int) (v1 : Int) (v12 : Int) (v5 : Int) (v6 : Int) (v13 : Int) (v14 : Int) (μ : Mem)  {o : (Int × Int × Mem) ⊕ (Int × Mem)} (hf : fX12_lays_b49 number v1 v12 v5 v6 v13 v14 μ = some o) (hr : (Sum.elim (fun s : Int × Int × Mem => Ev l D cy g K yX12_lays cX12_lays 9 none (rmd 4 0 0) (MX D cy g K (rmd 4 0 0) Φ) 0 0 M x (L s.2.2) 49 [(0, vr g 75), (1, vi number), (2, vi v1), (3, vi v12), (4, vi v5), (5, vi v6), (7, vi s.1), (8, vi s.2.1)] []) (fun e : Int × Mem => Ev l D cy g K yX12_lays cX12_lays 9 none (rmd 4 0 0) (MX D cy g K (rmd 4 0 0) Φ) 0 0 M x (L e.2) 91 [(0, vr g 75), (1, vi number), (2, vi v1), (3, vi v12), (4, vi v5), (5, vi v6), (8, vi e.1)] [])) o) : Ev l D cy g K yX12_lays cX12_lays 9 none (rmd 4 0 0) (MX D cy g K (rmd 4 0 0) Φ) 0 0 M x (L μ) 49 [(0, vr g 75), (1, vi number), (2, vi v1), (3, vi v12), (4, vi v5), (5, vi v6), (7, vi v13), (8, vi v14)] [] := by
  unfold fX12_lays_b49 at hf
  refine ev_iload dX12_lays_49 4 rfl ?_
  refine ev_iload dX12_lays_51 7 rfl ?_
  refine ev_ishr dX12_lays_53 ?_
  refine ev_iconst dX12_lays_54 ?_
  refine ev_iand dX12_lays_55 ?_
  refine ev_iconst dX12_lays_56 ?_
  refine ev_icmp_eq 65 dX12_lays_57 (by decide) (fun h15 => ?_) (fun h15 => ?_)
  · rw [if_pos h15] at hf
    refine ev_sub [0, 1, 2, 3, 4, 5, 6, 7] rfl ?_
    exact tX12_lays_j65 hS hc number v1 v12 v5 v6 v13 v14 μ hf hr
  · rw [if_neg h15] at hf
    refine ev_iload dX12_lays_60 6 rfl ?_
    refine ev_if_le 91 dX12_lays_62 (by decide) (fun h21 => ?_) (fun h21 => ?_)
    · rw [if_pos h21] at hf
      obtain rfl := Option.some.inj hf
      refine ev_sub [0, 1, 2, 3, 4, 5, 7] rfl ?_
      exact hr
    · rw [if_neg h21] at hf
      refine ev_sub [0, 1, 2, 3, 4, 5, 6, 7] rfl ?_
      exact tX12_lays_j65 hS hc number v1 v12 v5 v6 v13 v14 μ hf hr
def fX12_lays_b18 (number : Int) (v1 : Int) (v4 : Int) (v5 : Int) (v6 : Int) (μ : Mem) : Option ((Int × Int × Int × Mem) ⊕ (Mem)) :=
  if w32 v6 < w32 v1 then
    (fX12_ordersOf ((v1 - 1) - v6) μ).bind fun v8 =>
    gd (¬ w32 v8 = 0) <|
    lt (i_div v4 v8) fun v10 =>
    gd (¬ w32 v8 = 0) <|
    lt (i_rem v4 v8) fun v12 =>
    (loopN (fun s => fX12_lays_b49 number v1 v12 v5 v6 s.1 s.2.1 s.2.2) FU (v10, 0, μ)).bind fun q24 =>
    gd (0 ≤ w32 v6 ∧ w32 v6 < 5) <|
    lt (upd2 q24.2 90 ((w32 v6).toNat) q24.1) fun μ26 =>
    lt (i_or v5 (i_shl 1 q24.1)) fun v27 =>
    some (.inl (v12, v27, (v6 + 1), μ26))
  else
    some (.inr μ)
set_option maxRecDepth 4000 in
theorem tX12_lays_b18 (hS : Sd M K P L) (hc : CIn P 75 92) (number : Int) (v1 : Int) (v4 : Int) (v5 : Int) (v6 : Int) (μ : Mem)  {o : (Int × Int × Int × Mem) ⊕ (Mem)} (hf : fX12_lays_b18 number v1 v4 v5 v6 μ = some o) (hr : (Sum.elim (fun s : Int × Int × Int × Mem => Ev l D cy g K yX12_lays cX12_lays 9 none (rmd 4 0 0) (MX D cy g K (rmd 4 0 0) Φ) 0 0 M x (L s.2.2.2) 18 [(0, vr g 75), (1, vi number), (2, vi v1), (3, vi s.1), (4, vi s.2.1), (5, vi s.2.2.1)] []) (fun e : Mem => Ev l D cy g K yX12_lays cX12_lays 9 none (rmd 4 0 0) (MX D cy g K (rmd 4 0 0) Φ) 0 0 M x (L e) 115 [(0, vr g 75), (1, vi number), (2, vi v1)] [])) o) : Ev l D cy g K yX12_lays cX12_lays 9 none (rmd 4 0 0) (MX D cy g K (rmd 4 0 0) Φ) 0 0 M x (L μ) 18 [(0, vr g 75), (1, vi number), (2, vi v1), (3, vi v4), (4, vi v5), (5, vi v6)] [] := by
  unfold fX12_lays_b18 at hf
  refine ev_iload dX12_lays_18 5 rfl ?_
  refine ev_iload_n dX12_lays_20 2 rfl ?_
  refine ev_icmp_ge 115 dX12_lays_21 (by decide) (fun h7 => ?_) (fun h7 => ?_)
  · rw [if_neg h7] at hf
    obtain rfl := Option.some.inj hf
    refine ev_sub [0, 1, 2] rfl ?_
    exact hr
  · rw [if_pos h7] at hf
    refine ev_iload_n dX12_lays_24 2 rfl ?_
    refine ev_iconst dX12_lays_25 ?_
    refine ev_isub dX12_lays_26 ?_
    refine ev_iload dX12_lays_27 5 rfl ?_
    refine ev_isub dX12_lays_29 ?_
    obtain ⟨v8, hv8, hf⟩ := Option.bind_eq_some_iff.mp hf
    refine cl_S1 (As := [vi ((v1 - 1) - v6)]) (st := []) miX12_ordersOf (tX12_ordersOf hS (hc.w rfl rfl) ((v1 - 1) - v6) μ hv8) dX12_lays_30 lkX12_258 stX12_ordersOf rfl ⟨⟨Nat.le_of_ble_eq_true rfl, Nat.le_of_ble_eq_true rfl⟩, Nat.zero_le _, Nat.zero_le _⟩ (Nat.le_of_ble_eq_true rfl) ?_
    refine ev_istore (al2 := [(6, vi v8), (0, vr g 75), (1, vi number), (2, vi v1), (3, vi v4), (4, vi v5), (5, vi v6)]) dX12_lays_33 (by decide) rfl ?_
    refine ev_iload_n dX12_lays_35 4 rfl ?_
    refine ev_iload dX12_lays_36 0 rfl ?_
    obtain ⟨g9, hf⟩ := gd_elim hf
    refine ev_idiv dX12_lays_38 g9 ?_
    obtain ⟨v10, hv10, hf⟩ := lt_elim hf
    refine ev_rni hv10 ?_
    refine ev_istore (al2 := [(7, vi v10), (6, vi v8), (0, vr g 75), (1, vi number), (2, vi v1), (3, vi v4), (4, vi v5), (5, vi v6)]) dX12_lays_39 (by decide) rfl ?_
    refine ev_iload_n dX12_lays_41 5 rfl ?_
    refine ev_iload dX12_lays_42 1 rfl ?_
    obtain ⟨g11, hf⟩ := gd_elim hf
    refine ev_irem dX12_lays_44 g11 ?_
    obtain ⟨v12, hv12, hf⟩ := lt_elim hf
    refine ev_rni hv12 ?_
    refine ev_istore_n (al2 := [(3, vi v12), (7, vi v10), (6, vi v8), (0, vr g 75), (1, vi number), (2, vi v1), (4, vi v5), (5, vi v6)]) dX12_lays_45 3 rfl (by decide) rfl ?_
    refine ev_iconst dX12_lays_46 ?_
    refine ev_istore (al2 := [(8, vi 0), (3, vi v12), (7, vi v10), (6, vi v8), (0, vr g 75), (1, vi number), (2, vi v1), (4, vi v5), (5, vi v6)]) dX12_lays_47 (by decide) rfl ?_
    obtain ⟨q24, hq24, hf⟩ := Option.bind_eq_some_iff.mp hf
    refine ev_sub [4, 5, 6, 1, 7, 8, 2, 0] rfl ?_
    refine loop_ev (H := (fun s : Int × Int × Mem => Ev l D cy g K yX12_lays cX12_lays 9 none (rmd 4 0 0) (MX D cy g K (rmd 4 0 0) Φ) 0 0 M x (L s.2.2) 49 [(0, vr g 75), (1, vi number), (2, vi v1), (3, vi v12), (4, vi v5), (5, vi v6), (7, vi s.1), (8, vi s.2.1)] [])) (Hx := (fun e : Int × Mem => Ev l D cy g K yX12_lays cX12_lays 9 none (rmd 4 0 0) (MX D cy g K (rmd 4 0 0) Φ) 0 0 M x (L e.2) 91 [(0, vr g 75), (1, vi number), (2, vi v1), (3, vi v12), (4, vi v5), (5, vi v6), (8, vi e.1)] [])) (fun s o hb hr => tX12_lays_b49 hS hc number v1 v12 v5 v6 s.1 s.2.1 s.2.2 hb hr) FU _ _ hq24 ?_
    show Ev l D cy g K yX12_lays cX12_lays 9 none (rmd 4 0 0) (MX D cy g K (rmd 4 0 0) Φ) 0 0 M x (L q24.2) 91 [(0, vr g 75), (1, vi number), (2, vi v1), (3, vi v12), (4, vi v5), (5, vi v6), (8, vi q24.1)] []
    refine ev_aload_n dX12_lays_91 0 rfl ?_
    refine ev_getK 23 dX12_lays_92 (hS.lt (hc 75 rfl)) rfl (hS.K1 (hc 75 rfl) rfl) ciX12 (by decide) rfl flX12_101 ?_
    refine ev_iload dX12_lays_95 5 rfl ?_
    refine ev_iload dX12_lays_97 6 rfl ?_
    obtain ⟨g25, hf⟩ := gd_elim hf
    obtain ⟨μ26, hμ26, hf⟩ := lt_elim hf
    refine ev_iast dX12_lays_99 (hS.lt (hc 90 rfl)) rfl g25 (hS.up (hc 90 rfl) hμ26) ?_
    refine ev_iload dX12_lays_100 4 rfl ?_
    refine ev_iconst dX12_lays_102 ?_
    refine ev_iload dX12_lays_103 6 rfl ?_
    refine ev_ishl dX12_lays_105 ?_
    refine ev_ior dX12_lays_106 ?_
    obtain ⟨v27, hv27, hf⟩ := lt_elim hf
    refine ev_rni hv27 ?_
    refine ev_istore (al2 := [(4, vi v27), (0, vr g 75), (1, vi number), (2, vi v1), (3, vi v12), (5, vi v6), (8, vi q24.1)]) dX12_lays_107 (by decide) rfl ?_
    refine ev_iinc (al2 := [(5, vi (v6 + 1)), (4, vi v27), (0, vr g 75), (1, vi number), (2, vi v1), (3, vi v12), (8, vi q24.1)]) dX12_lays_109 5 rfl (by decide) rfl ?_
    refine ev_goto 18 dX12_lays_112 (by decide) ?_
    obtain rfl := Option.some.inj hf
    refine ev_sub [2, 3, 4, 5, 1, 0] rfl ?_
    exact hr
def fX12_lays_b124 (number : Int) (v1 : Int) (v30 : Int) (v31 : Int) (μ : Mem) : Option ((Int × Int × Mem) ⊕ (Mem)) :=
  if w32 v31 < w32 v1 then
    gd (0 ≤ w32 v31 ∧ w32 v31 < 5) <|
    gd (0 ≤ w32 (μ 90 (w32 v31).toNat) ∧ w32 (μ 90 (w32 v31).toNat) < 5) <|
    lt (upd2 μ 91 ((w32 (μ 90 (w32 v31).toNat)).toNat) 0) fun μ35 =>
    gd (0 ≤ w32 v31 ∧ w32 v31 < 5) <|
    (fX12_hasSide (μ35 90 (w32 v31).toNat) μ35).bind fun v37 =>
    if v37 = true then
      gd (0 ≤ w32 v31 ∧ w32 v31 < 5) <|
      lt (if w32 (i_and (i_shr number (v30 + (-1))) 1) = w32 1 then
          true
        else
          false) fun v40 =>
      gd (0 ≤ w32 (μ35 90 (w32 v31).toNat) ∧ w32 (μ35 90 (w32 v31).toNat) < 5) <|
      lt (upd2 μ35 91 ((w32 (μ35 90 (w32 v31).toNat)).toNat) (b2i v40)) fun μ43 =>
      some (.inl ((v30 + (-1)), (v31 + 1), μ43))
    else
      some (.inl (v30, (v31 + 1), μ35))
  else
    some (.inr μ)
set_option maxRecDepth 4000 in
theorem tX12_lays_b124 (hS : Sd M K P L) (hc : CIn P 75 92) (number : Int) (v1 : Int) (v30 : Int) (v31 : Int) (μ : Mem)  {o : (Int × Int × Mem) ⊕ (Mem)} (hf : fX12_lays_b124 number v1 v30 v31 μ = some o) (hr : (Sum.elim (fun s : Int × Int × Mem => Ev l D cy g K yX12_lays cX12_lays 9 none (rmd 4 0 0) (MX D cy g K (rmd 4 0 0) Φ) 0 0 M x (L s.2.2) 124 [(0, vr g 75), (1, vi number), (2, vi v1), (5, vi s.1), (6, vi s.2.1)] []) (fun e : Mem => Ev l D cy g K yX12_lays cX12_lays 9 none (rmd 4 0 0) (MX D cy g K (rmd 4 0 0) Φ) 0 0 M x (L e) 193 [] [])) o) : Ev l D cy g K yX12_lays cX12_lays 9 none (rmd 4 0 0) (MX D cy g K (rmd 4 0 0) Φ) 0 0 M x (L μ) 124 [(0, vr g 75), (1, vi number), (2, vi v1), (5, vi v30), (6, vi v31)] [] := by
  unfold fX12_lays_b124 at hf
  refine ev_iload dX12_lays_124 4 rfl ?_
  refine ev_iload_n dX12_lays_126 2 rfl ?_
  refine ev_icmp_ge 193 dX12_lays_127 (by decide) (fun h32 => ?_) (fun h32 => ?_)
  · rw [if_neg h32] at hf
    obtain rfl := Option.some.inj hf
    refine ev_sub [] rfl ?_
    exact hr
  · rw [if_pos h32] at hf
    refine ev_aload_n dX12_lays_130 0 rfl ?_
    refine ev_getK 24 dX12_lays_131 (hS.lt (hc 75 rfl)) rfl (hS.K1 (hc 75 rfl) rfl) ciX12 (by decide) rfl flX12_104 ?_
    refine ev_aload_n dX12_lays_134 0 rfl ?_
    refine ev_getK 23 dX12_lays_135 (hS.lt (hc 75 rfl)) rfl (hS.K1 (hc 75 rfl) rfl) ciX12 (by decide) rfl flX12_101 ?_
    refine ev_iload dX12_lays_138 4 rfl ?_
    obtain ⟨g33, hf⟩ := gd_elim hf
    refine ev_iald dX12_lays_140 (hS.lt (hc 90 rfl)) rfl (hS.mem _ (hc 90 rfl)) g33 ?_
    refine ev_iconst dX12_lays_141 ?_
    obtain ⟨g34, hf⟩ := gd_elim hf
    obtain ⟨μ35, hμ35, hf⟩ := lt_elim hf
    refine ev_zast (b := false) dX12_lays_142 (hS.lt (hc 91 rfl)) rfl g34 (hS.up (hc 91 rfl) hμ35) ?_
    refine ev_aload_n dX12_lays_143 0 rfl ?_
    refine ev_aload_n dX12_lays_144 0 rfl ?_
    refine ev_getK 23 dX12_lays_145 (hS.lt (hc 75 rfl)) rfl (hS.K1 (hc 75 rfl) rfl) ciX12 (by decide) rfl flX12_101 ?_
    refine ev_iload dX12_lays_148 4 rfl ?_
    obtain ⟨g36, hf⟩ := gd_elim hf
    refine ev_iald dX12_lays_150 (hS.lt (hc 90 rfl)) rfl (hS.mem _ (hc 90 rfl)) g36 ?_
    obtain ⟨v37, hv37, hf⟩ := Option.bind_eq_some_iff.mp hf
    refine cl_V1 (As := [vi (μ35 90 (w32 v31).toNat)]) (st := []) miX12_hasSide (tX12_hasSide hS (hc.w rfl rfl) (μ35 90 (w32 v31).toNat) μ35 hv37) dX12_lays_151 lkX12_236 inX12_hasSide rfl (hS.lt (hc 75 rfl)) rfl ⟨rfl, rfl⟩ ⟨⟨Nat.le_of_ble_eq_true rfl, Nat.le_of_ble_eq_true rfl⟩, Nat.zero_le _, Nat.zero_le _⟩ (Nat.le_of_ble_eq_true rfl) ?_
    refine ev_ifb_eq 187 dX12_lays_154 (by decide) (fun h38 => ?_) (fun h38 => ?_)
    · rw [if_neg h38] at hf
      refine ev_iinc (al2 := [(6, vi (v31 + 1)), (0, vr g 75), (1, vi number), (2, vi v1), (5, vi v30)]) dX12_lays_187 4 rfl (by decide) rfl ?_
      refine ev_goto 124 dX12_lays_190 (by decide) ?_
      obtain rfl := Option.some.inj hf
      refine ev_sub [1, 2, 3, 4, 0] rfl ?_
      exact hr
    · rw [if_pos h38] at hf
      refine ev_iinc (al2 := [(5, vi (v30 + (-1))), (0, vr g 75), (1, vi number), (2, vi v1), (6, vi v31)]) dX12_lays_157 3 rfl (by decide) rfl ?_
      refine ev_aload_n dX12_lays_160 1 rfl ?_
      refine ev_getK 24 dX12_lays_161 (hS.lt (hc 75 rfl)) rfl (hS.K1 (hc 75 rfl) rfl) ciX12 (by decide) rfl flX12_104 ?_
      refine ev_aload_n dX12_lays_164 1 rfl ?_
      refine ev_getK 23 dX12_lays_165 (hS.lt (hc 75 rfl)) rfl (hS.K1 (hc 75 rfl) rfl) ciX12 (by decide) rfl flX12_101 ?_
      refine ev_iload dX12_lays_168 4 rfl ?_
      obtain ⟨g39, hf⟩ := gd_elim hf
      refine ev_iald dX12_lays_170 (hS.lt (hc 90 rfl)) rfl (hS.mem _ (hc 90 rfl)) g39 ?_
      refine ev_iload_n dX12_lays_171 2 rfl ?_
      refine ev_iload dX12_lays_172 0 rfl ?_
      refine ev_ishr dX12_lays_174 ?_
      refine ev_iconst dX12_lays_175 ?_
      refine ev_iand dX12_lays_176 ?_
      refine ev_iconst dX12_lays_177 ?_
      obtain ⟨v40, hv40, hf⟩ := lt_elim hf
      have hJv40 : Ev l D cy g K yX12_lays cX12_lays 9 none (rmd 4 0 0) (MX D cy g K (rmd 4 0 0) Φ) 0 0 M x (L μ35) 186 [(5, vi (v30 + (-1))), (0, vr g 75), (1, vi number), (2, vi v1), (6, vi v31)] [vb v40, vi (μ35 90 (w32 v31).toNat), vr g 91] := by
        obtain ⟨g42, hf⟩ := gd_elim hf
        obtain ⟨μ43, hμ43, hf⟩ := lt_elim hf
        refine ev_zast (b := v40) dX12_lays_186 (hS.lt (hc 91 rfl)) rfl g42 (hS.up (hc 91 rfl) hμ43) ?_
        refine ev_iinc (al2 := [(6, vi (v31 + 1)), (5, vi (v30 + (-1))), (0, vr g 75), (1, vi number), (2, vi v1)]) dX12_lays_187 4 rfl (by decide) rfl ?_
        refine ev_goto 124 dX12_lays_190 (by decide) ?_
        obtain rfl := Option.some.inj hf
        refine ev_sub [2, 3, 4, 1, 0] rfl ?_
        exact hr
      refine ev_icmp_ne 185 dX12_lays_178 (by decide) (fun h41 => ?_) (fun h41 => ?_)
      · refine ev_iconst dX12_lays_185 ?_
        have e9 : v40 = false := hv40.trans ((if_neg h41))
        subst e9
        exact hJv40
      · refine ev_iconst dX12_lays_181 ?_
        refine ev_goto 186 dX12_lays_182 (by decide) ?_
        have e9 : v40 = true := hv40.trans ((if_pos h41))
        subst e9
        exact hJv40
def fX12_lays (number : Int) (μ : Mem) : Option (Mem) :=
  lt (μ 81 0) fun v1 =>
  (fX12_sides μ).bind fun v2 =>
  lt (i_shr number v2) fun v3 =>
  (loopN (fun s => fX12_lays_b18 number v1 s.1 s.2.1 s.2.2.1 s.2.2.2) FU (v3, 0, 0, μ)).bind fun q28 =>
  (fX12_sides q28).bind fun v29 =>
  (loopN (fun s => fX12_lays_b124 number v1 s.1 s.2.1 s.2.2) FU (v29, 0, q28)).bind fun q44 =>
  some (q44)
set_option maxRecDepth 4000 in
theorem eX12_lays (hS : Sd M K P L) (hc : CIn P 75 92) (number : Int) (μ : Mem)  {o : Mem} (hf : fX12_lays number μ = some o) (hr : (fun o : Mem => Φ none M x (L o)) o) : Ev l D cy g K yX12_lays cX12_lays 9 none (rmd 4 0 0) (MX D cy g K (rmd 4 0 0) Φ) 0 0 M x (L μ) 0 [(0, vr g 75), (1, vi number)] [] := by
  unfold fX12_lays at hf
  refine ev_aload_n dX12_lays_0 0 rfl ?_
  refine cl_V1 (As := []) (st := []) miX12_cakes (tX12_cakes hS (hc.w rfl rfl) μ (o := (μ 81 0)) rfl) dX12_lays_1 lkX12_209 inX12_cakes rfl (hS.lt (hc 75 rfl)) rfl ⟨rfl, rfl⟩ ⟨⟨Nat.le_of_ble_eq_true rfl, Nat.le_of_ble_eq_true rfl⟩, Nat.zero_le _, Nat.zero_le _⟩ (Nat.le_of_ble_eq_true rfl) ?_
  obtain ⟨v1, hv1, hf⟩ := lt_elim hf
  refine ev_rni hv1 ?_
  refine ev_istore_n (al2 := [(2, vi v1), (0, vr g 75), (1, vi number)]) dX12_lays_4 2 rfl (by decide) rfl ?_
  refine ev_iload_n dX12_lays_5 2 rfl ?_
  refine ev_aload_n dX12_lays_6 1 rfl ?_
  obtain ⟨v2, hv2, hf⟩ := Option.bind_eq_some_iff.mp hf
  refine cl_V1 (As := []) (st := [vi number]) miX12_sides (tX12_sides hS (hc.w rfl rfl) μ hv2) dX12_lays_7 lkX12_261 inX12_sides rfl (hS.lt (hc 75 rfl)) rfl ⟨rfl, rfl⟩ ⟨⟨Nat.le_of_ble_eq_true rfl, Nat.le_of_ble_eq_true rfl⟩, Nat.zero_le _, Nat.zero_le _⟩ (Nat.le_of_ble_eq_true rfl) ?_
  refine ev_ishr dX12_lays_10 ?_
  obtain ⟨v3, hv3, hf⟩ := lt_elim hf
  refine ev_rni hv3 ?_
  refine ev_istore_n (al2 := [(3, vi v3), (2, vi v1), (0, vr g 75), (1, vi number)]) dX12_lays_11 3 rfl (by decide) rfl ?_
  refine ev_iconst dX12_lays_12 ?_
  refine ev_istore (al2 := [(4, vi 0), (3, vi v3), (2, vi v1), (0, vr g 75), (1, vi number)]) dX12_lays_13 (by decide) rfl ?_
  refine ev_iconst dX12_lays_15 ?_
  refine ev_istore (al2 := [(5, vi 0), (4, vi 0), (3, vi v3), (2, vi v1), (0, vr g 75), (1, vi number)]) dX12_lays_16 (by decide) rfl ?_
  obtain ⟨q28, hq28, hf⟩ := Option.bind_eq_some_iff.mp hf
  refine ev_sub [4, 5, 3, 2, 1, 0] rfl ?_
  refine loop_ev (H := (fun s : Int × Int × Int × Mem => Ev l D cy g K yX12_lays cX12_lays 9 none (rmd 4 0 0) (MX D cy g K (rmd 4 0 0) Φ) 0 0 M x (L s.2.2.2) 18 [(0, vr g 75), (1, vi number), (2, vi v1), (3, vi s.1), (4, vi s.2.1), (5, vi s.2.2.1)] [])) (Hx := (fun e : Mem => Ev l D cy g K yX12_lays cX12_lays 9 none (rmd 4 0 0) (MX D cy g K (rmd 4 0 0) Φ) 0 0 M x (L e) 115 [(0, vr g 75), (1, vi number), (2, vi v1)] [])) (fun s o hb hr => tX12_lays_b18 hS hc number v1 s.1 s.2.1 s.2.2.1 s.2.2.2 hb hr) FU _ _ hq28 ?_
  show Ev l D cy g K yX12_lays cX12_lays 9 none (rmd 4 0 0) (MX D cy g K (rmd 4 0 0) Φ) 0 0 M x (L q28) 115 [(0, vr g 75), (1, vi number), (2, vi v1)] []
  refine ev_aload_n dX12_lays_115 0 rfl ?_
  obtain ⟨v29, hv29, hf⟩ := Option.bind_eq_some_iff.mp hf
  refine cl_V1 (As := []) (st := []) miX12_sides (tX12_sides hS (hc.w rfl rfl) q28 hv29) dX12_lays_116 lkX12_261 inX12_sides rfl (hS.lt (hc 75 rfl)) rfl ⟨rfl, rfl⟩ ⟨⟨Nat.le_of_ble_eq_true rfl, Nat.le_of_ble_eq_true rfl⟩, Nat.zero_le _, Nat.zero_le _⟩ (Nat.le_of_ble_eq_true rfl) ?_
  refine ev_istore (al2 := [(5, vi v29), (0, vr g 75), (1, vi number), (2, vi v1)]) dX12_lays_119 (by decide) rfl ?_
  refine ev_iconst dX12_lays_121 ?_
  refine ev_istore (al2 := [(6, vi 0), (5, vi v29), (0, vr g 75), (1, vi number), (2, vi v1)]) dX12_lays_122 (by decide) rfl ?_
  obtain ⟨q44, hq44, hf⟩ := Option.bind_eq_some_iff.mp hf
  refine ev_sub [2, 3, 4, 1, 0] rfl ?_
  refine loop_ev (H := (fun s : Int × Int × Mem => Ev l D cy g K yX12_lays cX12_lays 9 none (rmd 4 0 0) (MX D cy g K (rmd 4 0 0) Φ) 0 0 M x (L s.2.2) 124 [(0, vr g 75), (1, vi number), (2, vi v1), (5, vi s.1), (6, vi s.2.1)] [])) (Hx := (fun e : Mem => Ev l D cy g K yX12_lays cX12_lays 9 none (rmd 4 0 0) (MX D cy g K (rmd 4 0 0) Φ) 0 0 M x (L e) 193 [] [])) (fun s o hb hr => tX12_lays_b124 hS hc number v1 s.1 s.2.1 s.2.2 hb hr) FU _ _ hq44 ?_
  show Ev l D cy g K yX12_lays cX12_lays 9 none (rmd 4 0 0) (MX D cy g K (rmd 4 0 0) Φ) 0 0 M x (L q44) 193 [] []
  obtain rfl := Option.some.inj hf
  exact ev_vret dX12_lays_193 rfl ⟨Nat.zero_le _, Nat.zero_le _⟩ hr
theorem tX12_lays (hS : Sd M K P L) (hc : CIn P 75 92) (number : Int) (μ : Mem) {o : Mem} (hf : fX12_lays number μ = some o) : Cn l D cy g K K yX12_lays cX12_lays 9 none (rmd 4 0 0) [vr g 75, vi number] M x (L μ) (PE none M x (L o)) :=
 Cn.of (by decide) (Nat.le_of_ble_eq_true rfl) (eX12_lays hS hc number μ hf (PE_i _ _ _ _))
def fX12_factsFor_j81 (many : Int) (v12 : Int) (v13 : Int) (w14 : Int) (w15 : Int) (w16 : Int) (μ : Mem) : Option ((Int × Mem) ⊕ (Mem)) :=
  gd (0 ≤ w32 w16 ∧ w32 w16 < 4) <|
  lt (upd2 μ 86 ((w32 w16).toNat) (w15 + w14)) fun μ18 =>
  gd (0 ≤ w32 v13 ∧ w32 v13 < 5) <|
  lt (if ((μ18 91 (w32 v13).toNat) != 0) = true then
      1
    else
      0) fun v20 =>
  lt (upd2 μ18 86 3 ((μ18 86 3) + v20)) fun μ22 =>
  some (.inl ((v12 + 1), μ22))
set_option maxRecDepth 4000 in
theorem tX12_factsFor_j81 (hS : Sd M K P L) (hc : CIn P 75 92) (many : Int) (v12 : Int) (v13 : Int) (w14 : Int) (w15 : Int) (w16 : Int) (μ : Mem)  {o : (Int × Mem) ⊕ (Mem)} (hf : fX12_factsFor_j81 many v12 v13 w14 w15 w16 μ = some o) (hr : (Sum.elim (fun s : Int × Mem => Ev l D cy g K yX12_factsFor cX12_factsFor 4 none (rmd 2 0 0) (MX D cy g K (rmd 2 0 0) Φ) 0 0 M x (L s.2) 35 [(0, vr g 75), (1, vi many), (2, vi s.1)] []) (fun e : Mem => Ev l D cy g K yX12_factsFor cX12_factsFor 4 none (rmd 2 0 0) (MX D cy g K (rmd 2 0 0) Φ) 0 0 M x (L e) 112 [] [])) o) : Ev l D cy g K yX12_factsFor cX12_factsFor 4 none (rmd 2 0 0) (MX D cy g K (rmd 2 0 0) Φ) 0 0 M x (L μ) 81 [(0, vr g 75), (1, vi many), (2, vi v12), (3, vi v13)] [vi w14, vi w15, vi w16, vr g 86] := by
  unfold fX12_factsFor_j81 at hf
  refine ev_iadd dX12_factsFor_81 ?_
  obtain ⟨g17, hf⟩ := gd_elim hf
  obtain ⟨μ18, hμ18, hf⟩ := lt_elim hf
  refine ev_iast dX12_factsFor_82 (hS.lt (hc 86 rfl)) rfl g17 (hS.up (hc 86 rfl) hμ18) ?_
  refine ev_aload_n dX12_factsFor_83 0 rfl ?_
  refine ev_getK 17 dX12_factsFor_84 (hS.lt (hc 75 rfl)) rfl (hS.K1 (hc 75 rfl) rfl) ciX12 (by decide) rfl flX12_88 ?_
  refine ev_iconst dX12_factsFor_87 ?_
  refine ev_dup2 dX12_factsFor_88 rfl rfl ?_
  refine ev_iald dX12_factsFor_89 (hS.lt (hc 86 rfl)) rfl (hS.mem _ (hc 86 rfl)) ⟨by decide, by decide⟩ ?_
  refine ev_rn (w := vi (μ18 86 3)) (by rw [show (w32 3).toNat = 3 from by decide]) ?_
  refine ev_aload_n dX12_factsFor_90 0 rfl ?_
  refine ev_getK 24 dX12_factsFor_91 (hS.lt (hc 75 rfl)) rfl (hS.K1 (hc 75 rfl) rfl) ciX12 (by decide) rfl flX12_104 ?_
  refine ev_iload_n dX12_factsFor_94 3 rfl ?_
  obtain ⟨g19, hf⟩ := gd_elim hf
  refine ev_zald dX12_factsFor_95 (hS.lt (hc 91 rfl)) rfl (hS.mem _ (hc 91 rfl)) g19 ?_
  obtain ⟨v20, hv20, hf⟩ := lt_elim hf
  have hJv20 : Ev l D cy g K yX12_factsFor cX12_factsFor 4 none (rmd 2 0 0) (MX D cy g K (rmd 2 0 0) Φ) 0 0 M x (L μ18) 104 [(0, vr g 75), (1, vi many), (2, vi v12), (3, vi v13)] [vi v20, vi (μ18 86 3), vi 3, vr g 86] := by
    refine ev_iadd dX12_factsFor_104 ?_
    obtain ⟨μ22, hμ22, hf⟩ := lt_elim hf
    refine ev_iast (N2 := L μ22) dX12_factsFor_105 (hS.lt (hc 86 rfl)) rfl ⟨by decide, by decide⟩ (by rw [show (w32 3).toNat = 3 from by decide]; exact hS.up (hc 86 rfl) hμ22) ?_
    refine ev_iinc (al2 := [(2, vi (v12 + 1)), (0, vr g 75), (1, vi many), (3, vi v13)]) dX12_factsFor_106 2 rfl (by decide) rfl ?_
    refine ev_goto 35 dX12_factsFor_109 (by decide) ?_
    obtain rfl := Option.some.inj hf
    refine ev_sub [1, 2, 0] rfl ?_
    exact hr
  refine ev_ifb_eq 103 dX12_factsFor_96 (by decide) (fun h21 => ?_) (fun h21 => ?_)
  · refine ev_iconst dX12_factsFor_103 ?_
    have e9 : v20 = 0 := hv20.trans ((if_neg h21))
    subst e9
    exact hJv20
  · refine ev_iconst dX12_factsFor_99 ?_
    refine ev_goto 104 dX12_factsFor_100 (by decide) ?_
    have e9 : v20 = 1 := hv20.trans ((if_pos h21))
    subst e9
    exact hJv20
def fX12_factsFor_b35 (many : Int) (v5 : Int) (μ : Mem) : Option ((Int × Mem) ⊕ (Mem)) :=
  if w32 v5 < w32 many then
    gd (0 ≤ w32 v5 ∧ w32 v5 < 5) <|
    lt (μ 90 (w32 v5).toNat) fun v8 =>
    (fX12_cakeOf v8 0 μ).bind fun v9 =>
    if w32 v9 = w32 2 then
      (fX12_cakeOf v8 1 μ).bind fun v23 =>
      fX12_factsFor_j81 many v5 v8 (2 * v23) (μ 86 2) 2 μ
    else
      (fX12_cakeOf v8 1 μ).bind fun v11 =>
      fX12_factsFor_j81 many v5 v8 v11 (μ 86 2) 2 μ
  else
    some (.inr μ)
set_option maxRecDepth 4000 in
theorem tX12_factsFor_b35 (hS : Sd M K P L) (hc : CIn P 75 92) (many : Int) (v5 : Int) (μ : Mem)  {o : (Int × Mem) ⊕ (Mem)} (hf : fX12_factsFor_b35 many v5 μ = some o) (hr : (Sum.elim (fun s : Int × Mem => Ev l D cy g K yX12_factsFor cX12_factsFor 4 none (rmd 2 0 0) (MX D cy g K (rmd 2 0 0) Φ) 0 0 M x (L s.2) 35 [(0, vr g 75), (1, vi many), (2, vi s.1)] []) (fun e : Mem => Ev l D cy g K yX12_factsFor cX12_factsFor 4 none (rmd 2 0 0) (MX D cy g K (rmd 2 0 0) Φ) 0 0 M x (L e) 112 [] [])) o) : Ev l D cy g K yX12_factsFor cX12_factsFor 4 none (rmd 2 0 0) (MX D cy g K (rmd 2 0 0) Φ) 0 0 M x (L μ) 35 [(0, vr g 75), (1, vi many), (2, vi v5)] [] := by
  unfold fX12_factsFor_b35 at hf
  refine ev_iload_n dX12_factsFor_35 2 rfl ?_
  refine ev_iload_n dX12_factsFor_36 1 rfl ?_
  refine ev_icmp_ge 112 dX12_factsFor_37 (by decide) (fun h6 => ?_) (fun h6 => ?_)
  · rw [if_neg h6] at hf
    obtain rfl := Option.some.inj hf
    refine ev_sub [] rfl ?_
    exact hr
  · rw [if_pos h6] at hf
    refine ev_aload_n dX12_factsFor_40 0 rfl ?_
    refine ev_getK 23 dX12_factsFor_41 (hS.lt (hc 75 rfl)) rfl (hS.K1 (hc 75 rfl) rfl) ciX12 (by decide) rfl flX12_101 ?_
    refine ev_iload_n dX12_factsFor_44 2 rfl ?_
    obtain ⟨g7, hf⟩ := gd_elim hf
    refine ev_iald dX12_factsFor_45 (hS.lt (hc 90 rfl)) rfl (hS.mem _ (hc 90 rfl)) g7 ?_
    obtain ⟨v8, hv8, hf⟩ := lt_elim hf
    refine ev_rni hv8 ?_
    refine ev_istore_n (al2 := [(3, vi v8), (0, vr g 75), (1, vi many), (2, vi v5)]) dX12_factsFor_46 3 rfl (by decide) rfl ?_
    refine ev_aload_n dX12_factsFor_47 1 rfl ?_
    refine ev_getK 17 dX12_factsFor_48 (hS.lt (hc 75 rfl)) rfl (hS.K1 (hc 75 rfl) rfl) ciX12 (by decide) rfl flX12_88 ?_
    refine ev_iconst dX12_factsFor_51 ?_
    refine ev_dup2 dX12_factsFor_52 rfl rfl ?_
    refine ev_iald dX12_factsFor_53 (hS.lt (hc 86 rfl)) rfl (hS.mem _ (hc 86 rfl)) ⟨by decide, by decide⟩ ?_
    refine ev_rn (w := vi (μ 86 2)) (by rw [show (w32 2).toNat = 2 from by decide]) ?_
    refine ev_aload_n dX12_factsFor_54 1 rfl ?_
    refine ev_iload_n dX12_factsFor_55 0 rfl ?_
    refine ev_iconst dX12_factsFor_56 ?_
    obtain ⟨v9, hv9, hf⟩ := Option.bind_eq_some_iff.mp hf
    refine cl_V1 (As := [vi v8, vi 0]) (st := [vi (μ 86 2), vi 2, vr g 86]) miX12_cakeOf (tX12_cakeOf hS (hc.w rfl rfl) v8 0 μ hv9) dX12_factsFor_57 lkX12_239 inX12_cakeOf rfl (hS.lt (hc 75 rfl)) rfl ⟨rfl, rfl⟩ ⟨⟨Nat.le_of_ble_eq_true rfl, Nat.le_of_ble_eq_true rfl⟩, Nat.zero_le _, Nat.zero_le _⟩ (Nat.le_of_ble_eq_true rfl) ?_
    refine ev_iconst dX12_factsFor_60 ?_
    refine ev_icmp_ne 75 dX12_factsFor_61 (by decide) (fun h10 => ?_) (fun h10 => ?_)
    · rw [if_neg h10] at hf
      refine ev_aload_n dX12_factsFor_75 1 rfl ?_
      refine ev_iload_n dX12_factsFor_76 0 rfl ?_
      refine ev_iconst dX12_factsFor_77 ?_
      obtain ⟨v11, hv11, hf⟩ := Option.bind_eq_some_iff.mp hf
      refine cl_V1 (As := [vi v8, vi 1]) (st := [vi (μ 86 2), vi 2, vr g 86]) miX12_cakeOf (tX12_cakeOf hS (hc.w rfl rfl) v8 1 μ hv11) dX12_factsFor_78 lkX12_239 inX12_cakeOf rfl (hS.lt (hc 75 rfl)) rfl ⟨rfl, rfl⟩ ⟨⟨Nat.le_of_ble_eq_true rfl, Nat.le_of_ble_eq_true rfl⟩, Nat.zero_le _, Nat.zero_le _⟩ (Nat.le_of_ble_eq_true rfl) ?_
      refine ev_sub [1, 2, 3, 0] rfl ?_
      exact tX12_factsFor_j81 hS hc many v5 v8 v11 (μ 86 2) 2 μ hf hr
    · rw [if_pos h10] at hf
      refine ev_iconst dX12_factsFor_64 ?_
      refine ev_aload_n dX12_factsFor_65 1 rfl ?_
      refine ev_iload_n dX12_factsFor_66 0 rfl ?_
      refine ev_iconst dX12_factsFor_67 ?_
      obtain ⟨v23, hv23, hf⟩ := Option.bind_eq_some_iff.mp hf
      refine cl_V1 (As := [vi v8, vi 1]) (st := [vi 2, vi (μ 86 2), vi 2, vr g 86]) miX12_cakeOf (tX12_cakeOf hS (hc.w rfl rfl) v8 1 μ hv23) dX12_factsFor_68 lkX12_239 inX12_cakeOf rfl (hS.lt (hc 75 rfl)) rfl ⟨rfl, rfl⟩ ⟨⟨Nat.le_of_ble_eq_true rfl, Nat.le_of_ble_eq_true rfl⟩, Nat.zero_le _, Nat.zero_le _⟩ (Nat.le_of_ble_eq_true rfl) ?_
      refine ev_imul dX12_factsFor_71 ?_
      refine ev_goto 81 dX12_factsFor_72 (by decide) ?_
      refine ev_sub [1, 2, 3, 0] rfl ?_
      exact tX12_factsFor_j81 hS hc many v5 v8 (2 * v23) (μ 86 2) 2 μ hf hr
def fX12_factsFor (many : Int) (μ : Mem) : Option (Mem) :=
  lt (upd2 μ 86 0 many) fun μ1 =>
  lt (upd2 μ1 86 1 ((μ1 81 0) - many)) fun μ2 =>
  lt (upd2 μ2 86 2 0) fun μ3 =>
  lt (upd2 μ3 86 3 0) fun μ4 =>
  (loopN (fun s => fX12_factsFor_b35 many s.1 s.2) FU (0, μ4)).bind fun q29 =>
  some (q29)
set_option maxRecDepth 4000 in
theorem eX12_factsFor (hS : Sd M K P L) (hc : CIn P 75 92) (many : Int) (μ : Mem)  {o : Mem} (hf : fX12_factsFor many μ = some o) (hr : (fun o : Mem => Φ none M x (L o)) o) : Ev l D cy g K yX12_factsFor cX12_factsFor 4 none (rmd 2 0 0) (MX D cy g K (rmd 2 0 0) Φ) 0 0 M x (L μ) 0 [(0, vr g 75), (1, vi many)] [] := by
  unfold fX12_factsFor at hf
  refine ev_aload_n dX12_factsFor_0 0 rfl ?_
  refine ev_getK 17 dX12_factsFor_1 (hS.lt (hc 75 rfl)) rfl (hS.K1 (hc 75 rfl) rfl) ciX12 (by decide) rfl flX12_88 ?_
  refine ev_iconst dX12_factsFor_4 ?_
  refine ev_iload_n dX12_factsFor_5 1 rfl ?_
  obtain ⟨μ1, hμ1, hf⟩ := lt_elim hf
  refine ev_iast (N2 := L μ1) dX12_factsFor_6 (hS.lt (hc 86 rfl)) rfl ⟨by decide, by decide⟩ (by rw [show (w32 0).toNat = 0 from by decide]; exact hS.up (hc 86 rfl) hμ1) ?_
  refine ev_aload_n dX12_factsFor_7 0 rfl ?_
  refine ev_getK 17 dX12_factsFor_8 (hS.lt (hc 75 rfl)) rfl (hS.K1 (hc 75 rfl) rfl) ciX12 (by decide) rfl flX12_88 ?_
  refine ev_iconst dX12_factsFor_11 ?_
  refine ev_aload_n dX12_factsFor_12 0 rfl ?_
  refine cl_V1 (As := []) (st := [vi 1, vr g 86]) miX12_cakes (tX12_cakes hS (hc.w rfl rfl) μ1 (o := (μ1 81 0)) rfl) dX12_factsFor_13 lkX12_209 inX12_cakes rfl (hS.lt (hc 75 rfl)) rfl ⟨rfl, rfl⟩ ⟨⟨Nat.le_of_ble_eq_true rfl, Nat.le_of_ble_eq_true rfl⟩, Nat.zero_le _, Nat.zero_le _⟩ (Nat.le_of_ble_eq_true rfl) ?_
  refine ev_iload_n dX12_factsFor_16 1 rfl ?_
  refine ev_isub dX12_factsFor_17 ?_
  obtain ⟨μ2, hμ2, hf⟩ := lt_elim hf
  refine ev_iast (N2 := L μ2) dX12_factsFor_18 (hS.lt (hc 86 rfl)) rfl ⟨by decide, by decide⟩ (by rw [show (w32 1).toNat = 1 from by decide]; exact hS.up (hc 86 rfl) hμ2) ?_
  refine ev_aload_n dX12_factsFor_19 0 rfl ?_
  refine ev_getK 17 dX12_factsFor_20 (hS.lt (hc 75 rfl)) rfl (hS.K1 (hc 75 rfl) rfl) ciX12 (by decide) rfl flX12_88 ?_
  refine ev_iconst dX12_factsFor_23 ?_
  refine ev_iconst dX12_factsFor_24 ?_
  obtain ⟨μ3, hμ3, hf⟩ := lt_elim hf
  refine ev_iast (N2 := L μ3) dX12_factsFor_25 (hS.lt (hc 86 rfl)) rfl ⟨by decide, by decide⟩ (by rw [show (w32 2).toNat = 2 from by decide]; exact hS.up (hc 86 rfl) hμ3) ?_
  refine ev_aload_n dX12_factsFor_26 0 rfl ?_
  refine ev_getK 17 dX12_factsFor_27 (hS.lt (hc 75 rfl)) rfl (hS.K1 (hc 75 rfl) rfl) ciX12 (by decide) rfl flX12_88 ?_
  refine ev_iconst dX12_factsFor_30 ?_
  refine ev_iconst dX12_factsFor_31 ?_
  obtain ⟨μ4, hμ4, hf⟩ := lt_elim hf
  refine ev_iast (N2 := L μ4) dX12_factsFor_32 (hS.lt (hc 86 rfl)) rfl ⟨by decide, by decide⟩ (by rw [show (w32 3).toNat = 3 from by decide]; exact hS.up (hc 86 rfl) hμ4) ?_
  refine ev_iconst dX12_factsFor_33 ?_
  refine ev_istore_n (al2 := [(2, vi 0), (0, vr g 75), (1, vi many)]) dX12_factsFor_34 2 rfl (by decide) rfl ?_
  obtain ⟨q29, hq29, hf⟩ := Option.bind_eq_some_iff.mp hf
  refine ev_sub [1, 2, 0] rfl ?_
  refine loop_ev (H := (fun s : Int × Mem => Ev l D cy g K yX12_factsFor cX12_factsFor 4 none (rmd 2 0 0) (MX D cy g K (rmd 2 0 0) Φ) 0 0 M x (L s.2) 35 [(0, vr g 75), (1, vi many), (2, vi s.1)] [])) (Hx := (fun e : Mem => Ev l D cy g K yX12_factsFor cX12_factsFor 4 none (rmd 2 0 0) (MX D cy g K (rmd 2 0 0) Φ) 0 0 M x (L e) 112 [] [])) (fun s o hb hr => tX12_factsFor_b35 hS hc many s.1 s.2 hb hr) FU _ _ hq29 ?_
  show Ev l D cy g K yX12_factsFor cX12_factsFor 4 none (rmd 2 0 0) (MX D cy g K (rmd 2 0 0) Φ) 0 0 M x (L q29) 112 [] []
  obtain rfl := Option.some.inj hf
  exact ev_vret dX12_factsFor_112 rfl ⟨Nat.zero_le _, Nat.zero_le _⟩ hr
theorem tX12_factsFor (hS : Sd M K P L) (hc : CIn P 75 92) (many : Int) (μ : Mem) {o : Mem} (hf : fX12_factsFor many μ = some o) : Cn l D cy g K K yX12_factsFor cX12_factsFor 4 none (rmd 2 0 0) [vr g 75, vi many] M x (L μ) (PE none M x (L o)) :=
 Cn.of (by decide) (Nat.le_of_ble_eq_true rfl) (eX12_factsFor hS hc many μ hf (PE_i _ _ _ _))
def fX12_mayTurn_j24 (many : Int) (μ : Mem) : Option (Bool × Mem) :=
  (fX12_factsFor many μ).bind fun μ2 =>
  if w32 (μ2 81 1) < 0 then
    some ((true, μ2))
  else
    (fX12_worthAt (μ2 81 1) μ2).bind fun q4 =>
    lt (if w32 q4.1 = 0 then
        true
      else
        false) fun v5 =>
    some ((v5, q4.2))
set_option maxRecDepth 4000 in
theorem tX12_mayTurn_j24 (hS : Sd M K P L) (hc : CIn P 75 92) (many : Int) (μ : Mem)  {o : Bool × Mem} (hf : fX12_mayTurn_j24 many μ = some o) (hr : (fun o : Bool × Mem => Φ (some (vb o.1)) M x (L o.2)) o) : Ev l D cy g K yX12_mayTurn cX12_mayTurn 2 (some .boolean) (rmd 3 0 0) (MX D cy g K (rmd 3 0 0) Φ) 0 0 M x (L μ) 24 [(0, vr g 75), (1, vi many)] [] := by
  unfold fX12_mayTurn_j24 at hf
  refine ev_aload_n dX12_mayTurn_24 0 rfl ?_
  refine ev_iload_n dX12_mayTurn_25 1 rfl ?_
  obtain ⟨μ2, hμ2, hf⟩ := Option.bind_eq_some_iff.mp hf
  refine cl_V0 (As := [vi many]) (st := []) miX12_factsFor (tX12_factsFor hS (hc.w rfl rfl) many μ hμ2) dX12_mayTurn_26 lkX12_264 inX12_factsFor rfl (hS.lt (hc 75 rfl)) rfl ⟨rfl, rfl⟩ ⟨⟨Nat.le_of_ble_eq_true rfl, Nat.le_of_ble_eq_true rfl⟩, Nat.zero_le _, Nat.zero_le _⟩ (Nat.le_of_ble_eq_true rfl) ?_
  refine ev_aload_n dX12_mayTurn_29 0 rfl ?_
  refine ev_getK 10 dX12_mayTurn_30 (hS.lt (hc 75 rfl)) rfl (hS.K1 (hc 75 rfl) rfl) ciX12 (by decide) rfl flX12_73 ?_
  refine ev_iconst dX12_mayTurn_33 ?_
  refine ev_iald dX12_mayTurn_34 (hS.lt (hc 81 rfl)) rfl (hS.mem _ (hc 81 rfl)) ⟨by decide, by decide⟩ ?_
  refine ev_rn (w := vi (μ2 81 1)) (by rw [show (w32 1).toNat = 1 from by decide]) ?_
  refine ev_if_lt 51 dX12_mayTurn_35 (by decide) (fun h3 => ?_) (fun h3 => ?_)
  · rw [if_pos h3] at hf
    refine ev_iconst dX12_mayTurn_51 ?_
    refine ev_goto 56 dX12_mayTurn_52 (by decide) ?_
    obtain rfl := Option.some.inj hf
    exact ev_bret (b := true) dX12_mayTurn_56 rfl ⟨Nat.zero_le _, Nat.zero_le _⟩ hr
  · rw [if_neg h3] at hf
    refine ev_aload_n dX12_mayTurn_38 0 rfl ?_
    refine ev_aload_n dX12_mayTurn_39 0 rfl ?_
    refine ev_getK 10 dX12_mayTurn_40 (hS.lt (hc 75 rfl)) rfl (hS.K1 (hc 75 rfl) rfl) ciX12 (by decide) rfl flX12_73 ?_
    refine ev_iconst dX12_mayTurn_43 ?_
    refine ev_iald dX12_mayTurn_44 (hS.lt (hc 81 rfl)) rfl (hS.mem _ (hc 81 rfl)) ⟨by decide, by decide⟩ ?_
    refine ev_rn (w := vi (μ2 81 1)) (by rw [show (w32 1).toNat = 1 from by decide]) ?_
    obtain ⟨q4, hq4, hf⟩ := Option.bind_eq_some_iff.mp hf
    refine cl_V1 (As := [vi (μ2 81 1)]) (st := []) miX12_worthAt (tX12_worthAt hS (hc.w rfl rfl) (μ2 81 1) μ2 hq4) dX12_mayTurn_45 lkX12_267 inX12_worthAt rfl (hS.lt (hc 75 rfl)) rfl ⟨rfl, rfl⟩ ⟨⟨Nat.le_of_ble_eq_true rfl, Nat.le_of_ble_eq_true rfl⟩, Nat.zero_le _, Nat.zero_le _⟩ (Nat.le_of_ble_eq_true rfl) ?_
    obtain ⟨v5, hv5, hf⟩ := lt_elim hf
    have hJv5 : Ev l D cy g K yX12_mayTurn cX12_mayTurn 2 (some .boolean) (rmd 3 0 0) (MX D cy g K (rmd 3 0 0) Φ) 0 0 M x (L q4.2) 56 [(0, vr g 75), (1, vi many)] [vb v5] := by
      obtain rfl := Option.some.inj hf
      exact ev_bret (b := v5) dX12_mayTurn_56 rfl ⟨Nat.zero_le _, Nat.zero_le _⟩ hr
    refine ev_if_ne 55 dX12_mayTurn_48 (by decide) (fun h6 => ?_) (fun h6 => ?_)
    · refine ev_iconst dX12_mayTurn_55 ?_
      have e9 : v5 = false := hv5.trans ((if_neg h6))
      subst e9
      exact hJv5
    · refine ev_iconst dX12_mayTurn_51 ?_
      refine ev_goto 56 dX12_mayTurn_52 (by decide) ?_
      have e9 : v5 = true := hv5.trans ((if_pos h6))
      subst e9
      exact hJv5
def fX12_mayTurn (many : Int) (μ : Mem) : Option (Bool × Mem) :=
  if w32 many ≤ w32 1 then
    fX12_mayTurn_j24 many μ
  else
    gd (0 ≤ w32 (many - 1) ∧ w32 (many - 1) < 5) <|
    (fX12_cakeOf (μ 90 (w32 (many - 1)).toNat) 0 μ).bind fun v8 =>
    if w32 v8 = w32 3 then
      some ((false, μ))
    else
      fX12_mayTurn_j24 many μ
set_option maxRecDepth 4000 in
theorem eX12_mayTurn (hS : Sd M K P L) (hc : CIn P 75 92) (many : Int) (μ : Mem)  {o : Bool × Mem} (hf : fX12_mayTurn many μ = some o) (hr : (fun o : Bool × Mem => Φ (some (vb o.1)) M x (L o.2)) o) : Ev l D cy g K yX12_mayTurn cX12_mayTurn 2 (some .boolean) (rmd 3 0 0) (MX D cy g K (rmd 3 0 0) Φ) 0 0 M x (L μ) 0 [(0, vr g 75), (1, vi many)] [] := by
  unfold fX12_mayTurn at hf
  refine ev_iload_n dX12_mayTurn_0 1 rfl ?_
  refine ev_iconst dX12_mayTurn_1 ?_
  refine ev_icmp_le 24 dX12_mayTurn_2 (by decide) (fun h1 => ?_) (fun h1 => ?_)
  · rw [if_pos h1] at hf
    refine ev_sub [0, 1] rfl ?_
    exact tX12_mayTurn_j24 hS hc many μ hf hr
  · rw [if_neg h1] at hf
    refine ev_aload_n dX12_mayTurn_5 0 rfl ?_
    refine ev_aload_n dX12_mayTurn_6 0 rfl ?_
    refine ev_getK 23 dX12_mayTurn_7 (hS.lt (hc 75 rfl)) rfl (hS.K1 (hc 75 rfl) rfl) ciX12 (by decide) rfl flX12_101 ?_
    refine ev_iload_n dX12_mayTurn_10 1 rfl ?_
    refine ev_iconst dX12_mayTurn_11 ?_
    refine ev_isub dX12_mayTurn_12 ?_
    obtain ⟨g7, hf⟩ := gd_elim hf
    refine ev_iald dX12_mayTurn_13 (hS.lt (hc 90 rfl)) rfl (hS.mem _ (hc 90 rfl)) g7 ?_
    refine ev_iconst dX12_mayTurn_14 ?_
    obtain ⟨v8, hv8, hf⟩ := Option.bind_eq_some_iff.mp hf
    refine cl_V1 (As := [vi (μ 90 (w32 (many - 1)).toNat), vi 0]) (st := []) miX12_cakeOf (tX12_cakeOf hS (hc.w rfl rfl) (μ 90 (w32 (many - 1)).toNat) 0 μ hv8) dX12_mayTurn_15 lkX12_239 inX12_cakeOf rfl (hS.lt (hc 75 rfl)) rfl ⟨rfl, rfl⟩ ⟨⟨Nat.le_of_ble_eq_true rfl, Nat.le_of_ble_eq_true rfl⟩, Nat.zero_le _, Nat.zero_le _⟩ (Nat.le_of_ble_eq_true rfl) ?_
    refine ev_iconst dX12_mayTurn_18 ?_
    refine ev_icmp_ne 24 dX12_mayTurn_19 (by decide) (fun h9 => ?_) (fun h9 => ?_)
    · rw [if_neg h9] at hf
      refine ev_sub [0, 1] rfl ?_
      exact tX12_mayTurn_j24 hS hc many μ hf hr
    · rw [if_pos h9] at hf
      refine ev_iconst dX12_mayTurn_22 ?_
      obtain rfl := Option.some.inj hf
      exact ev_bret (b := false) dX12_mayTurn_23 rfl ⟨Nat.zero_le _, Nat.zero_le _⟩ hr
theorem tX12_mayTurn (hS : Sd M K P L) (hc : CIn P 75 92) (many : Int) (μ : Mem) {o : Bool × Mem} (hf : fX12_mayTurn many μ = some o) : Cn l D cy g K K yX12_mayTurn cX12_mayTurn 2 (some .boolean) (rmd 3 0 0) [vr g 75, vi many] M x (L μ) (PE (some (vb o.1)) M x (L o.2)) :=
 Cn.of (by decide) (Nat.le_of_ble_eq_true rfl) (eX12_mayTurn hS hc many μ hf (PE_i _ _ _ _))
def fX12_costOf_j28 (many : Int) (w4 : Int) (μ : Mem) : Option (Int × Mem) :=
  lt (if w32 w4 < w32 1 then
      1
    else
      if w32 w4 ≤ w32 9 then
        w4
      else
        9) fun v5 =>
  some ((v5, μ))
set_option maxRecDepth 4000 in
theorem tX12_costOf_j28 (hS : Sd M K P L) (hc : CIn P 75 92) (many : Int) (w4 : Int) (μ : Mem)  {o : Int × Mem} (hf : fX12_costOf_j28 many w4 μ = some o) (hr : (fun o : Int × Mem => Φ (some (vi o.1)) M x (L o.2)) o) : Ev l D cy g K yX12_costOf cX12_costOf 3 (some .int) (rmd 3 0 0) (MX D cy g K (rmd 3 0 0) Φ) 0 0 M x (L μ) 28 [] [vi w4] := by
  unfold fX12_costOf_j28 at hf
  refine ev_istore_n (al2 := [(2, vi w4)]) dX12_costOf_28 2 rfl (by decide) rfl ?_
  refine ev_iload_n dX12_costOf_29 0 rfl ?_
  refine ev_iconst dX12_costOf_30 ?_
  obtain ⟨v5, hv5, hf⟩ := lt_elim hf
  have hJv5 : Ev l D cy g K yX12_costOf cX12_costOf 3 (some .int) (rmd 3 0 0) (MX D cy g K (rmd 3 0 0) Φ) 0 0 M x (L μ) 50 [(2, vi w4)] [vi v5] := by
    obtain rfl := Option.some.inj hf
    exact ev_iret dX12_costOf_50 rfl ⟨Nat.zero_le _, Nat.zero_le _⟩ hr
  refine ev_icmp_ge 38 dX12_costOf_31 (by decide) (fun h6 => ?_) (fun h6 => ?_)
  · refine ev_iload_n dX12_costOf_38 0 rfl ?_
    refine ev_bipush dX12_costOf_39 (by decide) ?_
    refine ev_icmp_le 49 dX12_costOf_41 (by decide) (fun h7 => ?_) (fun h7 => ?_)
    · refine ev_iload_n dX12_costOf_49 0 rfl ?_
      have e9 : v5 = w4 := hv5.trans (((if_neg h6)).trans (if_pos h7))
      subst e9
      exact hJv5
    · refine ev_bipush dX12_costOf_44 (by decide) ?_
      refine ev_goto 50 dX12_costOf_46 (by decide) ?_
      have e9 : v5 = 9 := hv5.trans (((if_neg h6)).trans (if_neg h7))
      subst e9
      exact hJv5
  · refine ev_iconst dX12_costOf_34 ?_
    refine ev_goto 50 dX12_costOf_35 (by decide) ?_
    have e9 : v5 = 1 := hv5.trans ((if_pos h6))
    subst e9
    exact hJv5
def fX12_costOf (many : Int) (μ : Mem) : Option (Int × Mem) :=
  (fX12_factsFor many μ).bind fun μ1 =>
  if w32 (μ1 81 2) < 0 then
    fX12_costOf_j28 many 1 μ1
  else
    (fX12_worthAt (μ1 81 2) μ1).bind fun q3 =>
    fX12_costOf_j28 many q3.1 q3.2
set_option maxRecDepth 4000 in
theorem eX12_costOf (hS : Sd M K P L) (hc : CIn P 75 92) (many : Int) (μ : Mem)  {o : Int × Mem} (hf : fX12_costOf many μ = some o) (hr : (fun o : Int × Mem => Φ (some (vi o.1)) M x (L o.2)) o) : Ev l D cy g K yX12_costOf cX12_costOf 3 (some .int) (rmd 3 0 0) (MX D cy g K (rmd 3 0 0) Φ) 0 0 M x (L μ) 0 [(0, vr g 75), (1, vi many)] [] := by
  unfold fX12_costOf at hf
  refine ev_aload_n dX12_costOf_0 0 rfl ?_
  refine ev_iload_n dX12_costOf_1 1 rfl ?_
  obtain ⟨μ1, hμ1, hf⟩ := Option.bind_eq_some_iff.mp hf
  refine cl_V0 (As := [vi many]) (st := []) miX12_factsFor (tX12_factsFor hS (hc.w rfl rfl) many μ hμ1) dX12_costOf_2 lkX12_264 inX12_factsFor rfl (hS.lt (hc 75 rfl)) rfl ⟨rfl, rfl⟩ ⟨⟨Nat.le_of_ble_eq_true rfl, Nat.le_of_ble_eq_true rfl⟩, Nat.zero_le _, Nat.zero_le _⟩ (Nat.le_of_ble_eq_true rfl) ?_
  refine ev_aload_n dX12_costOf_5 0 rfl ?_
  refine ev_getK 10 dX12_costOf_6 (hS.lt (hc 75 rfl)) rfl (hS.K1 (hc 75 rfl) rfl) ciX12 (by decide) rfl flX12_73 ?_
  refine ev_iconst dX12_costOf_9 ?_
  refine ev_iald dX12_costOf_10 (hS.lt (hc 81 rfl)) rfl (hS.mem _ (hc 81 rfl)) ⟨by decide, by decide⟩ ?_
  refine ev_rn (w := vi (μ1 81 2)) (by rw [show (w32 2).toNat = 2 from by decide]) ?_
  refine ev_if_ge 18 dX12_costOf_11 (by decide) (fun h2 => ?_) (fun h2 => ?_)
  · rw [if_neg h2] at hf
    refine ev_aload_n dX12_costOf_18 0 rfl ?_
    refine ev_aload_n dX12_costOf_19 0 rfl ?_
    refine ev_getK 10 dX12_costOf_20 (hS.lt (hc 75 rfl)) rfl (hS.K1 (hc 75 rfl) rfl) ciX12 (by decide) rfl flX12_73 ?_
    refine ev_iconst dX12_costOf_23 ?_
    refine ev_iald dX12_costOf_24 (hS.lt (hc 81 rfl)) rfl (hS.mem _ (hc 81 rfl)) ⟨by decide, by decide⟩ ?_
    refine ev_rn (w := vi (μ1 81 2)) (by rw [show (w32 2).toNat = 2 from by decide]) ?_
    obtain ⟨q3, hq3, hf⟩ := Option.bind_eq_some_iff.mp hf
    refine cl_V1 (As := [vi (μ1 81 2)]) (st := []) miX12_worthAt (tX12_worthAt hS (hc.w rfl rfl) (μ1 81 2) μ1 hq3) dX12_costOf_25 lkX12_267 inX12_worthAt rfl (hS.lt (hc 75 rfl)) rfl ⟨rfl, rfl⟩ ⟨⟨Nat.le_of_ble_eq_true rfl, Nat.le_of_ble_eq_true rfl⟩, Nat.zero_le _, Nat.zero_le _⟩ (Nat.le_of_ble_eq_true rfl) ?_
    refine ev_sub [] rfl ?_
    exact tX12_costOf_j28 hS hc many q3.1 q3.2 hf hr
  · rw [if_pos h2] at hf
    refine ev_iconst dX12_costOf_14 ?_
    refine ev_goto 28 dX12_costOf_15 (by decide) ?_
    refine ev_sub [] rfl ?_
    exact tX12_costOf_j28 hS hc many 1 μ1 hf hr
theorem tX12_costOf (hS : Sd M K P L) (hc : CIn P 75 92) (many : Int) (μ : Mem) {o : Int × Mem} (hf : fX12_costOf many μ = some o) : Cn l D cy g K K yX12_costOf cX12_costOf 3 (some .int) (rmd 3 0 0) [vr g 75, vi many] M x (L μ) (PE (some (vi o.1)) M x (L o.2)) :=
 Cn.of (by decide) (Nat.le_of_ble_eq_true rfl) (eX12_costOf hS hc many μ hf (PE_i _ _ _ _))
def fX12_turns_b2 (many : Int) (v1 : Int) (μ : Mem) : Option ((Int × Mem) ⊕ (Mem)) :=
  if w32 v1 < w32 ((many - 1) - v1) then
    gd (0 ≤ w32 v1 ∧ w32 v1 < 5) <|
    lt (μ 90 (w32 v1).toNat) fun v4 =>
    gd (0 ≤ w32 ((many - 1) - v1) ∧ w32 ((many - 1) - v1) < 5) <|
    gd (0 ≤ w32 v1 ∧ w32 v1 < 5) <|
    lt (upd2 μ 90 ((w32 v1).toNat) (μ 90 (w32 ((many - 1) - v1)).toNat)) fun μ7 =>
    gd (0 ≤ w32 ((many - 1) - v1) ∧ w32 ((many - 1) - v1) < 5) <|
    lt (upd2 μ7 90 ((w32 ((many - 1) - v1)).toNat) v4) fun μ9 =>
    some (.inl ((v1 + 1), μ9))
  else
    some (.inr μ)
set_option maxRecDepth 4000 in
theorem tX12_turns_b2 (hS : Sd M K P L) (hc : CIn P 75 92) (many : Int) (v1 : Int) (μ : Mem)  {o : (Int × Mem) ⊕ (Mem)} (hf : fX12_turns_b2 many v1 μ = some o) (hr : (Sum.elim (fun s : Int × Mem => Ev l D cy g K yX12_turns cX12_turns 4 none (rmd 3 0 0) (MX D cy g K (rmd 3 0 0) Φ) 0 0 M x (L s.2) 2 [(0, vr g 75), (1, vi many), (2, vi s.1)] []) (fun e : Mem => Ev l D cy g K yX12_turns cX12_turns 4 none (rmd 3 0 0) (MX D cy g K (rmd 3 0 0) Φ) 0 0 M x (L e) 51 [(0, vr g 75), (1, vi many)] [])) o) : Ev l D cy g K yX12_turns cX12_turns 4 none (rmd 3 0 0) (MX D cy g K (rmd 3 0 0) Φ) 0 0 M x (L μ) 2 [(0, vr g 75), (1, vi many), (2, vi v1)] [] := by
  unfold fX12_turns_b2 at hf
  refine ev_iload_n dX12_turns_2 2 rfl ?_
  refine ev_iload_n dX12_turns_3 1 rfl ?_
  refine ev_iconst dX12_turns_4 ?_
  refine ev_isub dX12_turns_5 ?_
  refine ev_iload_n dX12_turns_6 2 rfl ?_
  refine ev_isub dX12_turns_7 ?_
  refine ev_icmp_ge 51 dX12_turns_8 (by decide) (fun h2 => ?_) (fun h2 => ?_)
  · rw [if_neg h2] at hf
    obtain rfl := Option.some.inj hf
    refine ev_sub [0, 1] rfl ?_
    exact hr
  · rw [if_pos h2] at hf
    refine ev_aload_n dX12_turns_11 0 rfl ?_
    refine ev_getK 23 dX12_turns_12 (hS.lt (hc 75 rfl)) rfl (hS.K1 (hc 75 rfl) rfl) ciX12 (by decide) rfl flX12_101 ?_
    refine ev_iload_n dX12_turns_15 2 rfl ?_
    obtain ⟨g3, hf⟩ := gd_elim hf
    refine ev_iald dX12_turns_16 (hS.lt (hc 90 rfl)) rfl (hS.mem _ (hc 90 rfl)) g3 ?_
    obtain ⟨v4, hv4, hf⟩ := lt_elim hf
    refine ev_rni hv4 ?_
    refine ev_istore_n (al2 := [(3, vi v4), (0, vr g 75), (1, vi many), (2, vi v1)]) dX12_turns_17 3 rfl (by decide) rfl ?_
    refine ev_aload_n dX12_turns_18 1 rfl ?_
    refine ev_getK 23 dX12_turns_19 (hS.lt (hc 75 rfl)) rfl (hS.K1 (hc 75 rfl) rfl) ciX12 (by decide) rfl flX12_101 ?_
    refine ev_iload_n dX12_turns_22 3 rfl ?_
    refine ev_aload_n dX12_turns_23 1 rfl ?_
    refine ev_getK 23 dX12_turns_24 (hS.lt (hc 75 rfl)) rfl (hS.K1 (hc 75 rfl) rfl) ciX12 (by decide) rfl flX12_101 ?_
    refine ev_iload_n dX12_turns_27 2 rfl ?_
    refine ev_iconst dX12_turns_28 ?_
    refine ev_isub dX12_turns_29 ?_
    refine ev_iload_n dX12_turns_30 3 rfl ?_
    refine ev_isub dX12_turns_31 ?_
    obtain ⟨g5, hf⟩ := gd_elim hf
    refine ev_iald dX12_turns_32 (hS.lt (hc 90 rfl)) rfl (hS.mem _ (hc 90 rfl)) g5 ?_
    obtain ⟨g6, hf⟩ := gd_elim hf
    obtain ⟨μ7, hμ7, hf⟩ := lt_elim hf
    refine ev_iast dX12_turns_33 (hS.lt (hc 90 rfl)) rfl g6 (hS.up (hc 90 rfl) hμ7) ?_
    refine ev_aload_n dX12_turns_34 1 rfl ?_
    refine ev_getK 23 dX12_turns_35 (hS.lt (hc 75 rfl)) rfl (hS.K1 (hc 75 rfl) rfl) ciX12 (by decide) rfl flX12_101 ?_
    refine ev_iload_n dX12_turns_38 2 rfl ?_
    refine ev_iconst dX12_turns_39 ?_
    refine ev_isub dX12_turns_40 ?_
    refine ev_iload_n dX12_turns_41 3 rfl ?_
    refine ev_isub dX12_turns_42 ?_
    refine ev_iload_n dX12_turns_43 0 rfl ?_
    obtain ⟨g8, hf⟩ := gd_elim hf
    obtain ⟨μ9, hμ9, hf⟩ := lt_elim hf
    refine ev_iast dX12_turns_44 (hS.lt (hc 90 rfl)) rfl g8 (hS.up (hc 90 rfl) hμ9) ?_
    refine ev_iinc (al2 := [(2, vi (v1 + 1)), (3, vi v4), (0, vr g 75), (1, vi many)]) dX12_turns_45 3 rfl (by decide) rfl ?_
    refine ev_goto 2 dX12_turns_48 (by decide) ?_
    obtain rfl := Option.some.inj hf
    refine ev_sub [2, 3, 0] rfl ?_
    exact hr
def fX12_turns_b53 (many : Int) (v11 : Int) (μ : Mem) : Option ((Int × Mem) ⊕ (Mem)) :=
  if w32 v11 < w32 many then
    gd (0 ≤ w32 v11 ∧ w32 v11 < 5) <|
    gd (0 ≤ w32 v11 ∧ w32 v11 < 5) <|
    (fX12_hasSide (μ 90 (w32 v11).toNat) μ).bind fun v15 =>
    if v15 = true then
      gd (0 ≤ w32 v11 ∧ w32 v11 < 5) <|
      gd (0 ≤ w32 (μ 90 (w32 v11).toNat) ∧ w32 (μ 90 (w32 v11).toNat) < 5) <|
      lt (if ((μ 91 (w32 (μ 90 (w32 v11).toNat)).toNat) != 0) = true then
          false
        else
          true) fun v21 =>
      gd (0 ≤ w32 (μ 90 (w32 v11).toNat) ∧ w32 (μ 90 (w32 v11).toNat) < 5) <|
      lt (upd2 μ 91 ((w32 (μ 90 (w32 v11).toNat)).toNat) (b2i v21)) fun μ24 =>
      some (.inl ((v11 + 1), μ24))
    else
      gd (0 ≤ w32 (μ 90 (w32 v11).toNat) ∧ w32 (μ 90 (w32 v11).toNat) < 5) <|
      lt (upd2 μ 91 ((w32 (μ 90 (w32 v11).toNat)).toNat) 0) fun μ18 =>
      some (.inl ((v11 + 1), μ18))
  else
    some (.inr μ)
set_option maxRecDepth 4000 in
theorem tX12_turns_b53 (hS : Sd M K P L) (hc : CIn P 75 92) (many : Int) (v11 : Int) (μ : Mem)  {o : (Int × Mem) ⊕ (Mem)} (hf : fX12_turns_b53 many v11 μ = some o) (hr : (Sum.elim (fun s : Int × Mem => Ev l D cy g K yX12_turns cX12_turns 4 none (rmd 3 0 0) (MX D cy g K (rmd 3 0 0) Φ) 0 0 M x (L s.2) 53 [(0, vr g 75), (1, vi many), (2, vi s.1)] []) (fun e : Mem => Ev l D cy g K yX12_turns cX12_turns 4 none (rmd 3 0 0) (MX D cy g K (rmd 3 0 0) Φ) 0 0 M x (L e) 107 [] [])) o) : Ev l D cy g K yX12_turns cX12_turns 4 none (rmd 3 0 0) (MX D cy g K (rmd 3 0 0) Φ) 0 0 M x (L μ) 53 [(0, vr g 75), (1, vi many), (2, vi v11)] [] := by
  unfold fX12_turns_b53 at hf
  refine ev_iload_n dX12_turns_53 2 rfl ?_
  refine ev_iload_n dX12_turns_54 1 rfl ?_
  refine ev_icmp_ge 107 dX12_turns_55 (by decide) (fun h12 => ?_) (fun h12 => ?_)
  · rw [if_neg h12] at hf
    obtain rfl := Option.some.inj hf
    refine ev_sub [] rfl ?_
    exact hr
  · rw [if_pos h12] at hf
    refine ev_aload_n dX12_turns_58 0 rfl ?_
    refine ev_getK 24 dX12_turns_59 (hS.lt (hc 75 rfl)) rfl (hS.K1 (hc 75 rfl) rfl) ciX12 (by decide) rfl flX12_104 ?_
    refine ev_aload_n dX12_turns_62 0 rfl ?_
    refine ev_getK 23 dX12_turns_63 (hS.lt (hc 75 rfl)) rfl (hS.K1 (hc 75 rfl) rfl) ciX12 (by decide) rfl flX12_101 ?_
    refine ev_iload_n dX12_turns_66 2 rfl ?_
    obtain ⟨g13, hf⟩ := gd_elim hf
    refine ev_iald dX12_turns_67 (hS.lt (hc 90 rfl)) rfl (hS.mem _ (hc 90 rfl)) g13 ?_
    refine ev_aload_n dX12_turns_68 0 rfl ?_
    refine ev_aload_n dX12_turns_69 0 rfl ?_
    refine ev_getK 23 dX12_turns_70 (hS.lt (hc 75 rfl)) rfl (hS.K1 (hc 75 rfl) rfl) ciX12 (by decide) rfl flX12_101 ?_
    refine ev_iload_n dX12_turns_73 2 rfl ?_
    obtain ⟨g14, hf⟩ := gd_elim hf
    refine ev_iald dX12_turns_74 (hS.lt (hc 90 rfl)) rfl (hS.mem _ (hc 90 rfl)) g14 ?_
    obtain ⟨v15, hv15, hf⟩ := Option.bind_eq_some_iff.mp hf
    refine cl_V1 (As := [vi (μ 90 (w32 v11).toNat)]) (st := [vi (μ 90 (w32 v11).toNat), vr g 91]) miX12_hasSide (tX12_hasSide hS (hc.w rfl rfl) (μ 90 (w32 v11).toNat) μ hv15) dX12_turns_75 lkX12_236 inX12_hasSide rfl (hS.lt (hc 75 rfl)) rfl ⟨rfl, rfl⟩ ⟨⟨Nat.le_of_ble_eq_true rfl, Nat.le_of_ble_eq_true rfl⟩, Nat.zero_le _, Nat.zero_le _⟩ (Nat.le_of_ble_eq_true rfl) ?_
    refine ev_ifb_eq 99 dX12_turns_78 (by decide) (fun h16 => ?_) (fun h16 => ?_)
    · rw [if_neg h16] at hf
      refine ev_iconst dX12_turns_99 ?_
      obtain ⟨g17, hf⟩ := gd_elim hf
      obtain ⟨μ18, hμ18, hf⟩ := lt_elim hf
      refine ev_zast (b := false) dX12_turns_100 (hS.lt (hc 91 rfl)) rfl g17 (hS.up (hc 91 rfl) hμ18) ?_
      refine ev_iinc (al2 := [(2, vi (v11 + 1)), (0, vr g 75), (1, vi many)]) dX12_turns_101 2 rfl (by decide) rfl ?_
      refine ev_goto 53 dX12_turns_104 (by decide) ?_
      obtain rfl := Option.some.inj hf
      refine ev_sub [1, 2, 0] rfl ?_
      exact hr
    · rw [if_pos h16] at hf
      refine ev_aload_n dX12_turns_81 0 rfl ?_
      refine ev_getK 24 dX12_turns_82 (hS.lt (hc 75 rfl)) rfl (hS.K1 (hc 75 rfl) rfl) ciX12 (by decide) rfl flX12_104 ?_
      refine ev_aload_n dX12_turns_85 0 rfl ?_
      refine ev_getK 23 dX12_turns_86 (hS.lt (hc 75 rfl)) rfl (hS.K1 (hc 75 rfl) rfl) ciX12 (by decide) rfl flX12_101 ?_
      refine ev_iload_n dX12_turns_89 2 rfl ?_
      obtain ⟨g19, hf⟩ := gd_elim hf
      refine ev_iald dX12_turns_90 (hS.lt (hc 90 rfl)) rfl (hS.mem _ (hc 90 rfl)) g19 ?_
      obtain ⟨g20, hf⟩ := gd_elim hf
      refine ev_zald dX12_turns_91 (hS.lt (hc 91 rfl)) rfl (hS.mem _ (hc 91 rfl)) g20 ?_
      obtain ⟨v21, hv21, hf⟩ := lt_elim hf
      have hJv21 : Ev l D cy g K yX12_turns cX12_turns 4 none (rmd 3 0 0) (MX D cy g K (rmd 3 0 0) Φ) 0 0 M x (L μ) 100 [(0, vr g 75), (1, vi many), (2, vi v11)] [vb v21, vi (μ 90 (w32 v11).toNat), vr g 91] := by
        obtain ⟨g23, hf⟩ := gd_elim hf
        obtain ⟨μ24, hμ24, hf⟩ := lt_elim hf
        refine ev_zast (b := v21) dX12_turns_100 (hS.lt (hc 91 rfl)) rfl g23 (hS.up (hc 91 rfl) hμ24) ?_
        refine ev_iinc (al2 := [(2, vi (v11 + 1)), (0, vr g 75), (1, vi many)]) dX12_turns_101 2 rfl (by decide) rfl ?_
        refine ev_goto 53 dX12_turns_104 (by decide) ?_
        obtain rfl := Option.some.inj hf
        refine ev_sub [1, 2, 0] rfl ?_
        exact hr
      refine ev_ifb_ne 99 dX12_turns_92 (by decide) (fun h22 => ?_) (fun h22 => ?_)
      · refine ev_iconst dX12_turns_99 ?_
        have e9 : v21 = false := hv21.trans ((if_pos h22))
        subst e9
        exact hJv21
      · refine ev_iconst dX12_turns_95 ?_
        refine ev_goto 100 dX12_turns_96 (by decide) ?_
        have e9 : v21 = true := hv21.trans ((if_neg h22))
        subst e9
        exact hJv21
def fX12_turns (many : Int) (μ : Mem) : Option (Mem) :=
  (loopN (fun s => fX12_turns_b2 many s.1 s.2) FU (0, μ)).bind fun q10 =>
  (loopN (fun s => fX12_turns_b53 many s.1 s.2) FU (0, q10)).bind fun q25 =>
  some (q25)
set_option maxRecDepth 4000 in
theorem eX12_turns (hS : Sd M K P L) (hc : CIn P 75 92) (many : Int) (μ : Mem)  {o : Mem} (hf : fX12_turns many μ = some o) (hr : (fun o : Mem => Φ none M x (L o)) o) : Ev l D cy g K yX12_turns cX12_turns 4 none (rmd 3 0 0) (MX D cy g K (rmd 3 0 0) Φ) 0 0 M x (L μ) 0 [(0, vr g 75), (1, vi many)] [] := by
  unfold fX12_turns at hf
  refine ev_iconst dX12_turns_0 ?_
  refine ev_istore_n (al2 := [(2, vi 0), (0, vr g 75), (1, vi many)]) dX12_turns_1 2 rfl (by decide) rfl ?_
  obtain ⟨q10, hq10, hf⟩ := Option.bind_eq_some_iff.mp hf
  refine ev_sub [1, 2, 0] rfl ?_
  refine loop_ev (H := (fun s : Int × Mem => Ev l D cy g K yX12_turns cX12_turns 4 none (rmd 3 0 0) (MX D cy g K (rmd 3 0 0) Φ) 0 0 M x (L s.2) 2 [(0, vr g 75), (1, vi many), (2, vi s.1)] [])) (Hx := (fun e : Mem => Ev l D cy g K yX12_turns cX12_turns 4 none (rmd 3 0 0) (MX D cy g K (rmd 3 0 0) Φ) 0 0 M x (L e) 51 [(0, vr g 75), (1, vi many)] [])) (fun s o hb hr => tX12_turns_b2 hS hc many s.1 s.2 hb hr) FU _ _ hq10 ?_
  show Ev l D cy g K yX12_turns cX12_turns 4 none (rmd 3 0 0) (MX D cy g K (rmd 3 0 0) Φ) 0 0 M x (L q10) 51 [(0, vr g 75), (1, vi many)] []
  refine ev_iconst dX12_turns_51 ?_
  refine ev_istore_n (al2 := [(2, vi 0), (0, vr g 75), (1, vi many)]) dX12_turns_52 2 rfl (by decide) rfl ?_
  obtain ⟨q25, hq25, hf⟩ := Option.bind_eq_some_iff.mp hf
  refine ev_sub [1, 2, 0] rfl ?_
  refine loop_ev (H := (fun s : Int × Mem => Ev l D cy g K yX12_turns cX12_turns 4 none (rmd 3 0 0) (MX D cy g K (rmd 3 0 0) Φ) 0 0 M x (L s.2) 53 [(0, vr g 75), (1, vi many), (2, vi s.1)] [])) (Hx := (fun e : Mem => Ev l D cy g K yX12_turns cX12_turns 4 none (rmd 3 0 0) (MX D cy g K (rmd 3 0 0) Φ) 0 0 M x (L e) 107 [] [])) (fun s o hb hr => tX12_turns_b53 hS hc many s.1 s.2 hb hr) FU _ _ hq25 ?_
  show Ev l D cy g K yX12_turns cX12_turns 4 none (rmd 3 0 0) (MX D cy g K (rmd 3 0 0) Φ) 0 0 M x (L q25) 107 [] []
  obtain rfl := Option.some.inj hf
  exact ev_vret dX12_turns_107 rfl ⟨Nat.zero_le _, Nat.zero_le _⟩ hr
theorem tX12_turns (hS : Sd M K P L) (hc : CIn P 75 92) (many : Int) (μ : Mem) {o : Mem} (hf : fX12_turns many μ = some o) : Cn l D cy g K K yX12_turns cX12_turns 4 none (rmd 3 0 0) [vr g 75, vi many] M x (L μ) (PE none M x (L o)) :=
 Cn.of (by decide) (Nat.le_of_ble_eq_true rfl) (eX12_turns hS hc many μ hf (PE_i _ _ _ _))
def fX12_isServed_j61 (v9 : Int) (μ : Mem) : Option ((Bool × Int) ⊕ (Bool)) :=
  some (.inl (true, (v9 + 1)))
set_option maxRecDepth 4000 in
theorem tX12_isServed_j61 (hS : Sd M K P L) (hc : CIn P 75 92) (v9 : Int) (μ : Mem)  {o : (Bool × Int) ⊕ (Bool)} (hf : fX12_isServed_j61 v9 μ = some o) (hr : (Sum.elim (fun s : Bool × Int => Ev l D cy g K yX12_isServed cX12_isServed 3 (some .boolean) (rmd 2 0 0) (MX D cy g K (rmd 2 0 0) Φ) 0 0 M x (L μ) 4 [(0, vr g 75), (1, vb s.1), (2, vi s.2)] []) (fun e : Bool => Ev l D cy g K yX12_isServed cX12_isServed 3 (some .boolean) (rmd 2 0 0) (MX D cy g K (rmd 2 0 0) Φ) 0 0 M x (L μ) 73 [(1, vb e)] [])) o) : Ev l D cy g K yX12_isServed cX12_isServed 3 (some .boolean) (rmd 2 0 0) (MX D cy g K (rmd 2 0 0) Φ) 0 0 M x (L μ) 61 [(0, vr g 75), (2, vi v9)] [] := by
  unfold fX12_isServed_j61 at hf
  refine ev_iconst dX12_isServed_61 ?_
  refine ev_goto 66 dX12_isServed_62 (by decide) ?_
  refine ev_istore_n (al2 := [(1, vi 1), (0, vr g 75), (2, vi v9)]) dX12_isServed_66 1 rfl (by decide) rfl ?_
  refine ev_iinc (al2 := [(2, vi (v9 + 1)), (1, vi 1), (0, vr g 75)]) dX12_isServed_67 2 rfl (by decide) rfl ?_
  refine ev_goto 4 dX12_isServed_70 (by decide) ?_
  obtain rfl := Option.some.inj hf
  refine ev_sub [2, 1, 0] rfl ?_
  exact hr
def fX12_isServed_b4 (v1 : Bool) (v2 : Int) (μ : Mem) : Option ((Bool × Int) ⊕ (Bool)) :=
  if w32 v2 < w32 (μ 81 0) then
    if v1 = true then
      gd (0 ≤ w32 v2 ∧ w32 v2 < 5) <|
      gd (0 ≤ w32 (μ 90 (w32 v2).toNat) ∧ w32 (μ 90 (w32 v2).toNat) < 5) <|
      if ((μ 91 (w32 (μ 90 (w32 v2).toNat)).toNat) != 0) = true then
        some (.inl (false, (v2 + 1)))
      else
        if w32 v2 = 0 then
          fX12_isServed_j61 v2 μ
        else
          gd (0 ≤ w32 (v2 - 1) ∧ w32 (v2 - 1) < 5) <|
          (fX12_cakeOf (μ 90 (w32 (v2 - 1)).toNat) 1 μ).bind fun v11 =>
          gd (0 ≤ w32 v2 ∧ w32 v2 < 5) <|
          (fX12_cakeOf (μ 90 (w32 v2).toNat) 1 μ).bind fun v13 =>
          lt (if w32 v11 < w32 v13 then
              true
            else
              false) fun v14 =>
          some (.inl (v14, (v2 + 1)))
    else
      some (.inl (false, (v2 + 1)))
  else
    some (.inr v1)
set_option maxRecDepth 4000 in
theorem tX12_isServed_b4 (hS : Sd M K P L) (hc : CIn P 75 92) (v1 : Bool) (v2 : Int) (μ : Mem)  {o : (Bool × Int) ⊕ (Bool)} (hf : fX12_isServed_b4 v1 v2 μ = some o) (hr : (Sum.elim (fun s : Bool × Int => Ev l D cy g K yX12_isServed cX12_isServed 3 (some .boolean) (rmd 2 0 0) (MX D cy g K (rmd 2 0 0) Φ) 0 0 M x (L μ) 4 [(0, vr g 75), (1, vb s.1), (2, vi s.2)] []) (fun e : Bool => Ev l D cy g K yX12_isServed cX12_isServed 3 (some .boolean) (rmd 2 0 0) (MX D cy g K (rmd 2 0 0) Φ) 0 0 M x (L μ) 73 [(1, vb e)] [])) o) : Ev l D cy g K yX12_isServed cX12_isServed 3 (some .boolean) (rmd 2 0 0) (MX D cy g K (rmd 2 0 0) Φ) 0 0 M x (L μ) 4 [(0, vr g 75), (1, vb v1), (2, vi v2)] [] := by
  unfold fX12_isServed_b4 at hf
  refine ev_iload_n dX12_isServed_4 2 rfl ?_
  refine ev_aload_n dX12_isServed_5 0 rfl ?_
  refine cl_V1 (As := []) (st := [vi v2]) miX12_cakes (tX12_cakes hS (hc.w rfl rfl) μ (o := (μ 81 0)) rfl) dX12_isServed_6 lkX12_209 inX12_cakes rfl (hS.lt (hc 75 rfl)) rfl ⟨rfl, rfl⟩ ⟨⟨Nat.le_of_ble_eq_true rfl, Nat.le_of_ble_eq_true rfl⟩, Nat.zero_le _, Nat.zero_le _⟩ (Nat.le_of_ble_eq_true rfl) ?_
  refine ev_icmp_ge 73 dX12_isServed_9 (by decide) (fun h3 => ?_) (fun h3 => ?_)
  · rw [if_neg h3] at hf
    obtain rfl := Option.some.inj hf
    refine ev_sub [1] rfl ?_
    exact hr
  · rw [if_pos h3] at hf
    refine ev_iload_n dX12_isServed_12 1 rfl ?_
    refine ev_ifb_eq 65 dX12_isServed_13 (by decide) (fun h4 => ?_) (fun h4 => ?_)
    · rw [if_neg h4] at hf
      refine ev_iconst dX12_isServed_65 ?_
      refine ev_istore_n (al2 := [(1, vi 0), (0, vr g 75), (2, vi v2)]) dX12_isServed_66 1 rfl (by decide) rfl ?_
      refine ev_iinc (al2 := [(2, vi (v2 + 1)), (1, vi 0), (0, vr g 75)]) dX12_isServed_67 2 rfl (by decide) rfl ?_
      refine ev_goto 4 dX12_isServed_70 (by decide) ?_
      obtain rfl := Option.some.inj hf
      refine ev_sub [2, 1, 0] rfl ?_
      exact hr
    · rw [if_pos h4] at hf
      refine ev_aload_n dX12_isServed_16 0 rfl ?_
      refine ev_getK 24 dX12_isServed_17 (hS.lt (hc 75 rfl)) rfl (hS.K1 (hc 75 rfl) rfl) ciX12 (by decide) rfl flX12_104 ?_
      refine ev_aload_n dX12_isServed_20 0 rfl ?_
      refine ev_getK 23 dX12_isServed_21 (hS.lt (hc 75 rfl)) rfl (hS.K1 (hc 75 rfl) rfl) ciX12 (by decide) rfl flX12_101 ?_
      refine ev_iload_n dX12_isServed_24 2 rfl ?_
      obtain ⟨g5, hf⟩ := gd_elim hf
      refine ev_iald dX12_isServed_25 (hS.lt (hc 90 rfl)) rfl (hS.mem _ (hc 90 rfl)) g5 ?_
      obtain ⟨g6, hf⟩ := gd_elim hf
      refine ev_zald dX12_isServed_26 (hS.lt (hc 91 rfl)) rfl (hS.mem _ (hc 91 rfl)) g6 ?_
      refine ev_ifb_ne 65 dX12_isServed_27 (by decide) (fun h7 => ?_) (fun h7 => ?_)
      · rw [if_pos h7] at hf
        refine ev_iconst dX12_isServed_65 ?_
        refine ev_istore_n (al2 := [(1, vi 0), (0, vr g 75), (2, vi v2)]) dX12_isServed_66 1 rfl (by decide) rfl ?_
        refine ev_iinc (al2 := [(2, vi (v2 + 1)), (1, vi 0), (0, vr g 75)]) dX12_isServed_67 2 rfl (by decide) rfl ?_
        refine ev_goto 4 dX12_isServed_70 (by decide) ?_
        obtain rfl := Option.some.inj hf
        refine ev_sub [2, 1, 0] rfl ?_
        exact hr
      · rw [if_neg h7] at hf
        refine ev_iload_n dX12_isServed_30 2 rfl ?_
        refine ev_if_eq 61 dX12_isServed_31 (by decide) (fun h8 => ?_) (fun h8 => ?_)
        · rw [if_pos h8] at hf
          refine ev_sub [0, 2] rfl ?_
          exact tX12_isServed_j61 hS hc v2 μ hf hr
        · rw [if_neg h8] at hf
          refine ev_aload_n dX12_isServed_34 0 rfl ?_
          refine ev_aload_n dX12_isServed_35 0 rfl ?_
          refine ev_getK 23 dX12_isServed_36 (hS.lt (hc 75 rfl)) rfl (hS.K1 (hc 75 rfl) rfl) ciX12 (by decide) rfl flX12_101 ?_
          refine ev_iload_n dX12_isServed_39 2 rfl ?_
          refine ev_iconst dX12_isServed_40 ?_
          refine ev_isub dX12_isServed_41 ?_
          obtain ⟨g10, hf⟩ := gd_elim hf
          refine ev_iald dX12_isServed_42 (hS.lt (hc 90 rfl)) rfl (hS.mem _ (hc 90 rfl)) g10 ?_
          refine ev_iconst dX12_isServed_43 ?_
          obtain ⟨v11, hv11, hf⟩ := Option.bind_eq_some_iff.mp hf
          refine cl_V1 (As := [vi (μ 90 (w32 (v2 - 1)).toNat), vi 1]) (st := []) miX12_cakeOf (tX12_cakeOf hS (hc.w rfl rfl) (μ 90 (w32 (v2 - 1)).toNat) 1 μ hv11) dX12_isServed_44 lkX12_239 inX12_cakeOf rfl (hS.lt (hc 75 rfl)) rfl ⟨rfl, rfl⟩ ⟨⟨Nat.le_of_ble_eq_true rfl, Nat.le_of_ble_eq_true rfl⟩, Nat.zero_le _, Nat.zero_le _⟩ (Nat.le_of_ble_eq_true rfl) ?_
          refine ev_aload_n dX12_isServed_47 0 rfl ?_
          refine ev_aload_n dX12_isServed_48 0 rfl ?_
          refine ev_getK 23 dX12_isServed_49 (hS.lt (hc 75 rfl)) rfl (hS.K1 (hc 75 rfl) rfl) ciX12 (by decide) rfl flX12_101 ?_
          refine ev_iload_n dX12_isServed_52 2 rfl ?_
          obtain ⟨g12, hf⟩ := gd_elim hf
          refine ev_iald dX12_isServed_53 (hS.lt (hc 90 rfl)) rfl (hS.mem _ (hc 90 rfl)) g12 ?_
          refine ev_iconst dX12_isServed_54 ?_
          obtain ⟨v13, hv13, hf⟩ := Option.bind_eq_some_iff.mp hf
          refine cl_V1 (As := [vi (μ 90 (w32 v2).toNat), vi 1]) (st := [vi v11]) miX12_cakeOf (tX12_cakeOf hS (hc.w rfl rfl) (μ 90 (w32 v2).toNat) 1 μ hv13) dX12_isServed_55 lkX12_239 inX12_cakeOf rfl (hS.lt (hc 75 rfl)) rfl ⟨rfl, rfl⟩ ⟨⟨Nat.le_of_ble_eq_true rfl, Nat.le_of_ble_eq_true rfl⟩, Nat.zero_le _, Nat.zero_le _⟩ (Nat.le_of_ble_eq_true rfl) ?_
          obtain ⟨v14, hv14, hf⟩ := lt_elim hf
          have hJv14 : Ev l D cy g K yX12_isServed cX12_isServed 3 (some .boolean) (rmd 2 0 0) (MX D cy g K (rmd 2 0 0) Φ) 0 0 M x (L μ) 66 [(0, vr g 75), (1, vb v1), (2, vi v2)] [vb v14] := by
            refine ev_istore_n (al2 := [(1, vb v14), (0, vr g 75), (2, vi v2)]) dX12_isServed_66 1 rfl (by decide) rfl ?_
            refine ev_iinc (al2 := [(2, vi (v2 + 1)), (1, vb v14), (0, vr g 75)]) dX12_isServed_67 2 rfl (by decide) rfl ?_
            refine ev_goto 4 dX12_isServed_70 (by decide) ?_
            obtain rfl := Option.some.inj hf
            refine ev_sub [2, 1, 0] rfl ?_
            exact hr
          refine ev_icmp_ge 65 dX12_isServed_58 (by decide) (fun h15 => ?_) (fun h15 => ?_)
          · refine ev_iconst dX12_isServed_65 ?_
            have e9 : v14 = false := hv14.trans ((if_neg h15))
            subst e9
            exact hJv14
          · refine ev_iconst dX12_isServed_61 ?_
            refine ev_goto 66 dX12_isServed_62 (by decide) ?_
            have e9 : v14 = true := hv14.trans ((if_pos h15))
            subst e9
            exact hJv14
def fX12_isServed  (μ : Mem) : Option (Bool) :=
  (loopN (fun s => fX12_isServed_b4 s.1 s.2 μ) FU (true, 0)).bind fun q16 =>
  some (q16)
set_option maxRecDepth 4000 in
theorem eX12_isServed (hS : Sd M K P L) (hc : CIn P 75 92)  (μ : Mem)  {o : Bool} (hf : fX12_isServed  μ = some o) (hr : (fun o : Bool => Φ (some (vb o)) M x (L μ)) o) : Ev l D cy g K yX12_isServed cX12_isServed 3 (some .boolean) (rmd 2 0 0) (MX D cy g K (rmd 2 0 0) Φ) 0 0 M x (L μ) 0 [(0, vr g 75)] [] := by
  unfold fX12_isServed at hf
  refine ev_iconst dX12_isServed_0 ?_
  refine ev_istore_n (al2 := [(1, vi 1), (0, vr g 75)]) dX12_isServed_1 1 rfl (by decide) rfl ?_
  refine ev_iconst dX12_isServed_2 ?_
  refine ev_istore_n (al2 := [(2, vi 0), (1, vi 1), (0, vr g 75)]) dX12_isServed_3 2 rfl (by decide) rfl ?_
  obtain ⟨q16, hq16, hf⟩ := Option.bind_eq_some_iff.mp hf
  refine ev_sub [2, 1, 0] rfl ?_
  refine loop_ev (H := (fun s : Bool × Int => Ev l D cy g K yX12_isServed cX12_isServed 3 (some .boolean) (rmd 2 0 0) (MX D cy g K (rmd 2 0 0) Φ) 0 0 M x (L μ) 4 [(0, vr g 75), (1, vb s.1), (2, vi s.2)] [])) (Hx := (fun e : Bool => Ev l D cy g K yX12_isServed cX12_isServed 3 (some .boolean) (rmd 2 0 0) (MX D cy g K (rmd 2 0 0) Φ) 0 0 M x (L μ) 73 [(1, vb e)] [])) (fun s o hb hr => tX12_isServed_b4 hS hc s.1 s.2 μ hb hr) FU _ _ hq16 ?_
  show Ev l D cy g K yX12_isServed cX12_isServed 3 (some .boolean) (rmd 2 0 0) (MX D cy g K (rmd 2 0 0) Φ) 0 0 M x (L μ) 73 [(1, vb q16)] []
  refine ev_iload_n dX12_isServed_73 0 rfl ?_
  obtain rfl := Option.some.inj hf
  exact ev_bret (b := q16) dX12_isServed_74 rfl ⟨Nat.zero_le _, Nat.zero_le _⟩ hr
theorem tX12_isServed (hS : Sd M K P L) (hc : CIn P 75 92) (μ : Mem) {o : Bool} (hf : fX12_isServed μ = some o) : Cn l D cy g K K yX12_isServed cX12_isServed 3 (some .boolean) (rmd 2 0 0) [vr g 75] M x (L μ) (PE (some (vb o)) M x (L μ)) :=
 Cn.of (by decide) (Nat.le_of_ble_eq_true rfl) (eX12_isServed hS hc μ hf (PE_i _ _ _ _))
def fX12_isWishedNow_j68 (v14 : Int) (w15 : Int) (w16 : Int) (μ : Mem) : Option ((Bool × Int) ⊕ (Bool)) :=
  lt (if w32 w16 = w32 w15 then
      true
    else
      false) fun v17 =>
  some (.inl (v17, (v14 + 1)))
set_option maxRecDepth 4000 in
theorem tX12_isWishedNow_j68 (hS : Sd M K P L) (hc : CIn P 75 92) (v14 : Int) (w15 : Int) (w16 : Int) (μ : Mem)  {o : (Bool × Int) ⊕ (Bool)} (hf : fX12_isWishedNow_j68 v14 w15 w16 μ = some o) (hr : (Sum.elim (fun s : Bool × Int => Ev l D cy g K yX12_isWishedNow cX12_isWishedNow 4 (some .boolean) (rmd 3 0 0) (MX D cy g K (rmd 3 0 0) Φ) 0 0 M x (L μ) 4 [(0, vr g 75), (1, vb s.1), (2, vi s.2)] []) (fun e : Bool => Ev l D cy g K yX12_isWishedNow cX12_isWishedNow 4 (some .boolean) (rmd 3 0 0) (MX D cy g K (rmd 3 0 0) Φ) 0 0 M x (L μ) 83 [(1, vb e)] [])) o) : Ev l D cy g K yX12_isWishedNow cX12_isWishedNow 4 (some .boolean) (rmd 3 0 0) (MX D cy g K (rmd 3 0 0) Φ) 0 0 M x (L μ) 68 [(0, vr g 75), (2, vi v14)] [vi w15, vi w16] := by
  unfold fX12_isWishedNow_j68 at hf
  obtain ⟨v17, hv17, hf⟩ := lt_elim hf
  have hJv17 : Ev l D cy g K yX12_isWishedNow cX12_isWishedNow 4 (some .boolean) (rmd 3 0 0) (MX D cy g K (rmd 3 0 0) Φ) 0 0 M x (L μ) 76 [(0, vr g 75), (2, vi v14)] [vb v17] := by
    refine ev_istore_n (al2 := [(1, vb v17), (0, vr g 75), (2, vi v14)]) dX12_isWishedNow_76 1 rfl (by decide) rfl ?_
    refine ev_iinc (al2 := [(2, vi (v14 + 1)), (1, vb v17), (0, vr g 75)]) dX12_isWishedNow_77 2 rfl (by decide) rfl ?_
    refine ev_goto 4 dX12_isWishedNow_80 (by decide) ?_
    obtain rfl := Option.some.inj hf
    refine ev_sub [2, 1, 0] rfl ?_
    exact hr
  refine ev_icmp_ne 75 dX12_isWishedNow_68 (by decide) (fun h18 => ?_) (fun h18 => ?_)
  · refine ev_iconst dX12_isWishedNow_75 ?_
    have e9 : v17 = false := hv17.trans ((if_neg h18))
    subst e9
    exact hJv17
  · refine ev_iconst dX12_isWishedNow_71 ?_
    refine ev_goto 76 dX12_isWishedNow_72 (by decide) ?_
    have e9 : v17 = true := hv17.trans ((if_pos h18))
    subst e9
    exact hJv17
def fX12_isWishedNow_j67 (v12 : Int) (w13 : Int) (μ : Mem) : Option ((Bool × Int) ⊕ (Bool)) :=
  fX12_isWishedNow_j68 v12 0 w13 μ
set_option maxRecDepth 4000 in
theorem tX12_isWishedNow_j67 (hS : Sd M K P L) (hc : CIn P 75 92) (v12 : Int) (w13 : Int) (μ : Mem)  {o : (Bool × Int) ⊕ (Bool)} (hf : fX12_isWishedNow_j67 v12 w13 μ = some o) (hr : (Sum.elim (fun s : Bool × Int => Ev l D cy g K yX12_isWishedNow cX12_isWishedNow 4 (some .boolean) (rmd 3 0 0) (MX D cy g K (rmd 3 0 0) Φ) 0 0 M x (L μ) 4 [(0, vr g 75), (1, vb s.1), (2, vi s.2)] []) (fun e : Bool => Ev l D cy g K yX12_isWishedNow cX12_isWishedNow 4 (some .boolean) (rmd 3 0 0) (MX D cy g K (rmd 3 0 0) Φ) 0 0 M x (L μ) 83 [(1, vb e)] [])) o) : Ev l D cy g K yX12_isWishedNow cX12_isWishedNow 4 (some .boolean) (rmd 3 0 0) (MX D cy g K (rmd 3 0 0) Φ) 0 0 M x (L μ) 67 [(0, vr g 75), (2, vi v12)] [vi w13] := by
  unfold fX12_isWishedNow_j67 at hf
  refine ev_iconst dX12_isWishedNow_67 ?_
  refine ev_sub [0, 1] rfl ?_
  exact tX12_isWishedNow_j68 hS hc v12 0 w13 μ hf hr
def fX12_isWishedNow_b4 (v1 : Bool) (v2 : Int) (μ : Mem) : Option ((Bool × Int) ⊕ (Bool)) :=
  if w32 v2 < w32 (μ 81 0) then
    gd (0 ≤ w32 (2 * v2) ∧ w32 (2 * v2) < 20) <|
    lt (μ 85 (w32 (2 * v2)).toNat) fun v5 =>
    if v1 = true then
      gd (0 ≤ w32 v2 ∧ w32 v2 < 5) <|
      if w32 (μ 90 (w32 v2).toNat) = w32 v5 then
        gd (0 ≤ w32 v5 ∧ w32 v5 < 5) <|
        (fX12_hasSide v5 μ).bind fun v10 =>
        if v10 = true then
          gd (0 ≤ w32 ((2 * v2) + 1) ∧ w32 ((2 * v2) + 1) < 20) <|
          lt (if w32 (μ 85 (w32 ((2 * v2) + 1)).toNat) = w32 1 then
              true
            else
              false) fun v20 =>
          lt (if w32 (b2i ((μ 91 (w32 v5).toNat) != 0)) = w32 (b2i v20) then
              true
            else
              false) fun v22 =>
          some (.inl (v22, (v2 + 1)))
        else
          fX12_isWishedNow_j67 v2 (b2i ((μ 91 (w32 v5).toNat) != 0)) μ
      else
        some (.inl (false, (v2 + 1)))
    else
      some (.inl (false, (v2 + 1)))
  else
    some (.inr v1)
set_option maxRecDepth 4000 in
theorem tX12_isWishedNow_b4 (hS : Sd M K P L) (hc : CIn P 75 92) (v1 : Bool) (v2 : Int) (μ : Mem)  {o : (Bool × Int) ⊕ (Bool)} (hf : fX12_isWishedNow_b4 v1 v2 μ = some o) (hr : (Sum.elim (fun s : Bool × Int => Ev l D cy g K yX12_isWishedNow cX12_isWishedNow 4 (some .boolean) (rmd 3 0 0) (MX D cy g K (rmd 3 0 0) Φ) 0 0 M x (L μ) 4 [(0, vr g 75), (1, vb s.1), (2, vi s.2)] []) (fun e : Bool => Ev l D cy g K yX12_isWishedNow cX12_isWishedNow 4 (some .boolean) (rmd 3 0 0) (MX D cy g K (rmd 3 0 0) Φ) 0 0 M x (L μ) 83 [(1, vb e)] [])) o) : Ev l D cy g K yX12_isWishedNow cX12_isWishedNow 4 (some .boolean) (rmd 3 0 0) (MX D cy g K (rmd 3 0 0) Φ) 0 0 M x (L μ) 4 [(0, vr g 75), (1, vb v1), (2, vi v2)] [] := by
  unfold fX12_isWishedNow_b4 at hf
  refine ev_iload_n dX12_isWishedNow_4 2 rfl ?_
  refine ev_aload_n dX12_isWishedNow_5 0 rfl ?_
  refine cl_V1 (As := []) (st := [vi v2]) miX12_cakes (tX12_cakes hS (hc.w rfl rfl) μ (o := (μ 81 0)) rfl) dX12_isWishedNow_6 lkX12_209 inX12_cakes rfl (hS.lt (hc 75 rfl)) rfl ⟨rfl, rfl⟩ ⟨⟨Nat.le_of_ble_eq_true rfl, Nat.le_of_ble_eq_true rfl⟩, Nat.zero_le _, Nat.zero_le _⟩ (Nat.le_of_ble_eq_true rfl) ?_
  refine ev_icmp_ge 83 dX12_isWishedNow_9 (by decide) (fun h3 => ?_) (fun h3 => ?_)
  · rw [if_neg h3] at hf
    obtain rfl := Option.some.inj hf
    refine ev_sub [1] rfl ?_
    exact hr
  · rw [if_pos h3] at hf
    refine ev_aload_n dX12_isWishedNow_12 0 rfl ?_
    refine ev_getK 15 dX12_isWishedNow_13 (hS.lt (hc 75 rfl)) rfl (hS.K1 (hc 75 rfl) rfl) ciX12 (by decide) rfl flX12_85 ?_
    refine ev_iconst dX12_isWishedNow_16 ?_
    refine ev_iload_n dX12_isWishedNow_17 2 rfl ?_
    refine ev_imul dX12_isWishedNow_18 ?_
    obtain ⟨g4, hf⟩ := gd_elim hf
    refine ev_iald dX12_isWishedNow_19 (hS.lt (hc 85 rfl)) rfl (hS.mem _ (hc 85 rfl)) g4 ?_
    obtain ⟨v5, hv5, hf⟩ := lt_elim hf
    refine ev_rni hv5 ?_
    refine ev_istore_n (al2 := [(3, vi v5), (0, vr g 75), (1, vb v1), (2, vi v2)]) dX12_isWishedNow_20 3 rfl (by decide) rfl ?_
    refine ev_iload_n dX12_isWishedNow_21 2 rfl ?_
    refine ev_ifb_eq 75 dX12_isWishedNow_22 (by decide) (fun h6 => ?_) (fun h6 => ?_)
    · rw [if_neg h6] at hf
      refine ev_iconst dX12_isWishedNow_75 ?_
      refine ev_istore_n (al2 := [(1, vi 0), (3, vi v5), (0, vr g 75), (2, vi v2)]) dX12_isWishedNow_76 1 rfl (by decide) rfl ?_
      refine ev_iinc (al2 := [(2, vi (v2 + 1)), (1, vi 0), (3, vi v5), (0, vr g 75)]) dX12_isWishedNow_77 3 rfl (by decide) rfl ?_
      refine ev_goto 4 dX12_isWishedNow_80 (by decide) ?_
      obtain rfl := Option.some.inj hf
      refine ev_sub [3, 1, 0] rfl ?_
      exact hr
    · rw [if_pos h6] at hf
      refine ev_aload_n dX12_isWishedNow_25 1 rfl ?_
      refine ev_getK 23 dX12_isWishedNow_26 (hS.lt (hc 75 rfl)) rfl (hS.K1 (hc 75 rfl) rfl) ciX12 (by decide) rfl flX12_101 ?_
      refine ev_iload_n dX12_isWishedNow_29 3 rfl ?_
      obtain ⟨g7, hf⟩ := gd_elim hf
      refine ev_iald dX12_isWishedNow_30 (hS.lt (hc 90 rfl)) rfl (hS.mem _ (hc 90 rfl)) g7 ?_
      refine ev_iload_n dX12_isWishedNow_31 0 rfl ?_
      refine ev_icmp_ne 75 dX12_isWishedNow_32 (by decide) (fun h8 => ?_) (fun h8 => ?_)
      · rw [if_neg h8] at hf
        refine ev_iconst dX12_isWishedNow_75 ?_
        refine ev_istore_n (al2 := [(1, vi 0), (3, vi v5), (0, vr g 75), (2, vi v2)]) dX12_isWishedNow_76 1 rfl (by decide) rfl ?_
        refine ev_iinc (al2 := [(2, vi (v2 + 1)), (1, vi 0), (3, vi v5), (0, vr g 75)]) dX12_isWishedNow_77 3 rfl (by decide) rfl ?_
        refine ev_goto 4 dX12_isWishedNow_80 (by decide) ?_
        obtain rfl := Option.some.inj hf
        refine ev_sub [3, 1, 0] rfl ?_
        exact hr
      · rw [if_pos h8] at hf
        refine ev_aload_n dX12_isWishedNow_35 1 rfl ?_
        refine ev_getK 24 dX12_isWishedNow_36 (hS.lt (hc 75 rfl)) rfl (hS.K1 (hc 75 rfl) rfl) ciX12 (by decide) rfl flX12_104 ?_
        refine ev_iload_n dX12_isWishedNow_39 0 rfl ?_
        obtain ⟨g9, hf⟩ := gd_elim hf
        refine ev_zald dX12_isWishedNow_40 (hS.lt (hc 91 rfl)) rfl (hS.mem _ (hc 91 rfl)) g9 ?_
        refine ev_aload_n dX12_isWishedNow_41 1 rfl ?_
        refine ev_iload_n dX12_isWishedNow_42 0 rfl ?_
        obtain ⟨v10, hv10, hf⟩ := Option.bind_eq_some_iff.mp hf
        refine cl_V1 (As := [vi v5]) (st := [vb ((μ 91 (w32 v5).toNat) != 0)]) miX12_hasSide (tX12_hasSide hS (hc.w rfl rfl) v5 μ hv10) dX12_isWishedNow_43 lkX12_236 inX12_hasSide rfl (hS.lt (hc 75 rfl)) rfl ⟨rfl, rfl⟩ ⟨⟨Nat.le_of_ble_eq_true rfl, Nat.le_of_ble_eq_true rfl⟩, Nat.zero_le _, Nat.zero_le _⟩ (Nat.le_of_ble_eq_true rfl) ?_
        refine ev_ifb_eq 67 dX12_isWishedNow_46 (by decide) (fun h11 => ?_) (fun h11 => ?_)
        · rw [if_neg h11] at hf
          refine ev_sub [1, 3] rfl ?_
          exact tX12_isWishedNow_j67 hS hc v2 (b2i ((μ 91 (w32 v5).toNat) != 0)) μ hf hr
        · rw [if_pos h11] at hf
          refine ev_aload_n dX12_isWishedNow_49 1 rfl ?_
          refine ev_getK 15 dX12_isWishedNow_50 (hS.lt (hc 75 rfl)) rfl (hS.K1 (hc 75 rfl) rfl) ciX12 (by decide) rfl flX12_85 ?_
          refine ev_iconst dX12_isWishedNow_53 ?_
          refine ev_iload_n dX12_isWishedNow_54 3 rfl ?_
          refine ev_imul dX12_isWishedNow_55 ?_
          refine ev_iconst dX12_isWishedNow_56 ?_
          refine ev_iadd dX12_isWishedNow_57 ?_
          obtain ⟨g19, hf⟩ := gd_elim hf
          refine ev_iald dX12_isWishedNow_58 (hS.lt (hc 85 rfl)) rfl (hS.mem _ (hc 85 rfl)) g19 ?_
          refine ev_iconst dX12_isWishedNow_59 ?_
          obtain ⟨v20, hv20, hf⟩ := lt_elim hf
          have hJv20 : Ev l D cy g K yX12_isWishedNow cX12_isWishedNow 4 (some .boolean) (rmd 3 0 0) (MX D cy g K (rmd 3 0 0) Φ) 0 0 M x (L μ) 68 [(3, vi v5), (0, vr g 75), (1, vb v1), (2, vi v2)] [vb v20, vb ((μ 91 (w32 v5).toNat) != 0)] := by
            obtain ⟨v22, hv22, hf⟩ := lt_elim hf
            have hJv22 : Ev l D cy g K yX12_isWishedNow cX12_isWishedNow 4 (some .boolean) (rmd 3 0 0) (MX D cy g K (rmd 3 0 0) Φ) 0 0 M x (L μ) 76 [(3, vi v5), (0, vr g 75), (1, vb v1), (2, vi v2)] [vb v22] := by
              refine ev_istore_n (al2 := [(1, vb v22), (3, vi v5), (0, vr g 75), (2, vi v2)]) dX12_isWishedNow_76 1 rfl (by decide) rfl ?_
              refine ev_iinc (al2 := [(2, vi (v2 + 1)), (1, vb v22), (3, vi v5), (0, vr g 75)]) dX12_isWishedNow_77 3 rfl (by decide) rfl ?_
              refine ev_goto 4 dX12_isWishedNow_80 (by decide) ?_
              obtain rfl := Option.some.inj hf
              refine ev_sub [3, 1, 0] rfl ?_
              exact hr
            refine ev_icmp_ne 75 dX12_isWishedNow_68 (by decide) (fun h23 => ?_) (fun h23 => ?_)
            · refine ev_iconst dX12_isWishedNow_75 ?_
              have e9 : v22 = false := hv22.trans ((if_neg h23))
              subst e9
              exact hJv22
            · refine ev_iconst dX12_isWishedNow_71 ?_
              refine ev_goto 76 dX12_isWishedNow_72 (by decide) ?_
              have e9 : v22 = true := hv22.trans ((if_pos h23))
              subst e9
              exact hJv22
          refine ev_icmp_ne 67 dX12_isWishedNow_60 (by decide) (fun h21 => ?_) (fun h21 => ?_)
          · refine ev_iconst dX12_isWishedNow_67 ?_
            have e9 : v20 = false := hv20.trans ((if_neg h21))
            subst e9
            exact hJv20
          · refine ev_iconst dX12_isWishedNow_63 ?_
            refine ev_goto 68 dX12_isWishedNow_64 (by decide) ?_
            have e9 : v20 = true := hv20.trans ((if_pos h21))
            subst e9
            exact hJv20
def fX12_isWishedNow  (μ : Mem) : Option (Bool) :=
  (loopN (fun s => fX12_isWishedNow_b4 s.1 s.2 μ) FU (true, 0)).bind fun q24 =>
  some (q24)
set_option maxRecDepth 4000 in
theorem eX12_isWishedNow (hS : Sd M K P L) (hc : CIn P 75 92)  (μ : Mem)  {o : Bool} (hf : fX12_isWishedNow  μ = some o) (hr : (fun o : Bool => Φ (some (vb o)) M x (L μ)) o) : Ev l D cy g K yX12_isWishedNow cX12_isWishedNow 4 (some .boolean) (rmd 3 0 0) (MX D cy g K (rmd 3 0 0) Φ) 0 0 M x (L μ) 0 [(0, vr g 75)] [] := by
  unfold fX12_isWishedNow at hf
  refine ev_iconst dX12_isWishedNow_0 ?_
  refine ev_istore_n (al2 := [(1, vi 1), (0, vr g 75)]) dX12_isWishedNow_1 1 rfl (by decide) rfl ?_
  refine ev_iconst dX12_isWishedNow_2 ?_
  refine ev_istore_n (al2 := [(2, vi 0), (1, vi 1), (0, vr g 75)]) dX12_isWishedNow_3 2 rfl (by decide) rfl ?_
  obtain ⟨q24, hq24, hf⟩ := Option.bind_eq_some_iff.mp hf
  refine ev_sub [2, 1, 0] rfl ?_
  refine loop_ev (H := (fun s : Bool × Int => Ev l D cy g K yX12_isWishedNow cX12_isWishedNow 4 (some .boolean) (rmd 3 0 0) (MX D cy g K (rmd 3 0 0) Φ) 0 0 M x (L μ) 4 [(0, vr g 75), (1, vb s.1), (2, vi s.2)] [])) (Hx := (fun e : Bool => Ev l D cy g K yX12_isWishedNow cX12_isWishedNow 4 (some .boolean) (rmd 3 0 0) (MX D cy g K (rmd 3 0 0) Φ) 0 0 M x (L μ) 83 [(1, vb e)] [])) (fun s o hb hr => tX12_isWishedNow_b4 hS hc s.1 s.2 μ hb hr) FU _ _ hq24 ?_
  show Ev l D cy g K yX12_isWishedNow cX12_isWishedNow 4 (some .boolean) (rmd 3 0 0) (MX D cy g K (rmd 3 0 0) Φ) 0 0 M x (L μ) 83 [(1, vb q24)] []
  refine ev_iload_n dX12_isWishedNow_83 0 rfl ?_
  obtain rfl := Option.some.inj hf
  exact ev_bret (b := q24) dX12_isWishedNow_84 rfl ⟨Nat.zero_le _, Nat.zero_le _⟩ hr
theorem tX12_isWishedNow (hS : Sd M K P L) (hc : CIn P 75 92) (μ : Mem) {o : Bool} (hf : fX12_isWishedNow μ = some o) : Cn l D cy g K K yX12_isWishedNow cX12_isWishedNow 4 (some .boolean) (rmd 3 0 0) [vr g 75] M x (L μ) (PE (some (vb o)) M x (L μ)) :=
 Cn.of (by decide) (Nat.le_of_ble_eq_true rfl) (eX12_isWishedNow hS hc μ hf (PE_i _ _ _ _))
def fX12_cake_b40 (c0 : Int) (what : Int) (v6 : Int) (μ : Mem) : Option ((Int × Mem) ⊕ (Int × Mem)) :=
  gd (0 ≤ w32 v6 ∧ w32 v6 < 5) <|
  if w32 (μ 90 (w32 v6).toNat) = w32 c0 then
    some (.inr (v6, μ))
  else
    some (.inl ((v6 + 1), μ))
set_option maxRecDepth 4000 in
theorem tX12_cake_b40 (hS : Sd M K P L) (hc : CIn P 75 92) (c0 : Int) (what : Int) (v6 : Int) (μ : Mem)  {o : (Int × Mem) ⊕ (Int × Mem)} (hf : fX12_cake_b40 c0 what v6 μ = some o) (hr : (Sum.elim (fun s : Int × Mem => Ev l D cy g K yX12_cake cX12_cake 4 (some .int) (rmd 5 0 0) (MX D cy g K (rmd 5 0 0) Φ) 0 0 M x (L s.2) 40 [(0, vr g 75), (1, vi c0), (2, vi what), (3, vi s.1)] []) (fun e : Int × Mem => Ev l D cy g K yX12_cake cX12_cake 4 (some .int) (rmd 5 0 0) (MX D cy g K (rmd 5 0 0) Φ) 0 0 M x (L e.2) 56 [(0, vr g 75), (1, vi c0), (2, vi what), (3, vi e.1)] [])) o) : Ev l D cy g K yX12_cake cX12_cake 4 (some .int) (rmd 5 0 0) (MX D cy g K (rmd 5 0 0) Φ) 0 0 M x (L μ) 40 [(0, vr g 75), (1, vi c0), (2, vi what), (3, vi v6)] [] := by
  unfold fX12_cake_b40 at hf
  refine ev_aload_n dX12_cake_40 0 rfl ?_
  refine ev_getK 23 dX12_cake_41 (hS.lt (hc 75 rfl)) rfl (hS.K1 (hc 75 rfl) rfl) ciX12 (by decide) rfl flX12_101 ?_
  refine ev_iload_n dX12_cake_44 3 rfl ?_
  obtain ⟨g7, hf⟩ := gd_elim hf
  refine ev_iald dX12_cake_45 (hS.lt (hc 90 rfl)) rfl (hS.mem _ (hc 90 rfl)) g7 ?_
  refine ev_iload_n dX12_cake_46 1 rfl ?_
  refine ev_icmp_eq 56 dX12_cake_47 (by decide) (fun h8 => ?_) (fun h8 => ?_)
  · rw [if_pos h8] at hf
    obtain rfl := Option.some.inj hf
    refine ev_sub [0, 1, 2, 3] rfl ?_
    exact hr
  · rw [if_neg h8] at hf
    refine ev_iinc (al2 := [(3, vi (v6 + 1)), (0, vr g 75), (1, vi c0), (2, vi what)]) dX12_cake_50 3 rfl (by decide) rfl ?_
    refine ev_goto 40 dX12_cake_53 (by decide) ?_
    obtain rfl := Option.some.inj hf
    refine ev_sub [1, 2, 3, 0] rfl ?_
    exact hr
def fX12_cake (c0 : Int) (what : Int) (μ : Mem) : Option (Int × Mem) :=
  lt (upd2 μ 75 0 0) fun μ1 =>
  if w32 c0 < 0 then
    some (((-1), μ1))
  else
    if w32 c0 < w32 (μ1 81 0) then
      if (fX12_within what 0 3) = true then
        (fX12_lays (μ1 88 0) μ1).bind fun μ5 =>
        (loopN (fun s => fX12_cake_b40 c0 what s.1 s.2) FU (0, μ5)).bind fun q9 =>
        if w32 what < w32 2 then
          (fX12_cakeOf c0 what q9.2).bind fun v15 =>
          some ((v15, q9.2))
        else
          if w32 what = w32 2 then
            some ((q9.1, q9.2))
          else
            gd (0 ≤ w32 c0 ∧ w32 c0 < 5) <|
            lt (if ((q9.2 91 (w32 c0).toNat) != 0) = true then
                1
              else
                0) fun v13 =>
            some ((v13, q9.2))
      else
        some (((-1), μ1))
    else
      some (((-1), μ1))
set_option maxRecDepth 4000 in
theorem eX12_cake (hS : Sd M K P L) (hc : CIn P 75 92) (c0 : Int) (what : Int) (μ : Mem)  {o : Int × Mem} (hf : fX12_cake c0 what μ = some o) (hr : (fun o : Int × Mem => Φ (some (vi o.1)) M x (L o.2)) o) : Ev l D cy g K yX12_cake cX12_cake 4 (some .int) (rmd 5 0 0) (MX D cy g K (rmd 5 0 0) Φ) 0 0 M x (L μ) 0 [(0, vr g 75), (1, vi c0), (2, vi what)] [] := by
  unfold fX12_cake at hf
  refine ev_aload_n dX12_cake_0 0 rfl ?_
  refine ev_iconst dX12_cake_1 ?_
  obtain ⟨μ1, hμ1, hf⟩ := lt_elim hf
  refine ev_putI 0 dX12_cake_2 (hS.lt (hc 75 rfl)) rfl ciX12 (by decide) (Or.inl rfl) rfl rfl flX12_1 (hS.up (hc 75 rfl) hμ1) ?_
  refine ev_iload_n dX12_cake_5 1 rfl ?_
  refine ev_if_lt 26 dX12_cake_6 (by decide) (fun h2 => ?_) (fun h2 => ?_)
  · rw [if_pos h2] at hf
    refine ev_iconst dX12_cake_26 ?_
    obtain rfl := Option.some.inj hf
    exact ev_iret dX12_cake_27 rfl ⟨Nat.zero_le _, Nat.zero_le _⟩ hr
  · rw [if_neg h2] at hf
    refine ev_iload_n dX12_cake_9 1 rfl ?_
    refine ev_aload_n dX12_cake_10 0 rfl ?_
    refine cl_V1 (As := []) (st := [vi c0]) miX12_cakes (tX12_cakes hS (hc.w rfl rfl) μ1 (o := (μ1 81 0)) rfl) dX12_cake_11 lkX12_209 inX12_cakes rfl (hS.lt (hc 75 rfl)) rfl ⟨rfl, rfl⟩ ⟨⟨Nat.le_of_ble_eq_true rfl, Nat.le_of_ble_eq_true rfl⟩, Nat.zero_le _, Nat.zero_le _⟩ (Nat.le_of_ble_eq_true rfl) ?_
    refine ev_icmp_ge 26 dX12_cake_14 (by decide) (fun h3 => ?_) (fun h3 => ?_)
    · rw [if_neg h3] at hf
      refine ev_iconst dX12_cake_26 ?_
      obtain rfl := Option.some.inj hf
      exact ev_iret dX12_cake_27 rfl ⟨Nat.zero_le _, Nat.zero_le _⟩ hr
    · rw [if_pos h3] at hf
      refine ev_iload_n dX12_cake_17 2 rfl ?_
      refine ev_iconst dX12_cake_18 ?_
      refine ev_iconst dX12_cake_19 ?_
      refine cl_S1 (As := [vi what, vi 0, vi 3]) (st := []) miX12_within (tX12_within what 0 3 (L μ1) (o := (fX12_within what 0 3)) rfl) dX12_cake_20 lkX12_270 stX12_within rfl ⟨⟨Nat.le_of_ble_eq_true rfl, Nat.le_of_ble_eq_true rfl⟩, Nat.zero_le _, Nat.zero_le _⟩ (Nat.le_of_ble_eq_true rfl) ?_
      refine ev_ifb_ne 28 dX12_cake_23 (by decide) (fun h4 => ?_) (fun h4 => ?_)
      · rw [if_pos h4] at hf
        refine ev_aload_n dX12_cake_28 0 rfl ?_
        refine ev_aload_n dX12_cake_29 0 rfl ?_
        refine ev_getK 19 dX12_cake_30 (hS.lt (hc 75 rfl)) rfl (hS.K1 (hc 75 rfl) rfl) ciX12 (by decide) rfl flX12_94 ?_
        refine ev_iconst dX12_cake_33 ?_
        refine ev_iald dX12_cake_34 (hS.lt (hc 88 rfl)) rfl (hS.mem _ (hc 88 rfl)) ⟨by decide, by decide⟩ ?_
        refine ev_rn (w := vi (μ1 88 0)) (by rw [show (w32 0).toNat = 0 from by decide]) ?_
        obtain ⟨μ5, hμ5, hf⟩ := Option.bind_eq_some_iff.mp hf
        refine cl_V0 (As := [vi (μ1 88 0)]) (st := []) miX12_lays (tX12_lays hS (hc.w rfl rfl) (μ1 88 0) μ1 hμ5) dX12_cake_35 lkX12_274 inX12_lays rfl (hS.lt (hc 75 rfl)) rfl ⟨rfl, rfl⟩ ⟨⟨Nat.le_of_ble_eq_true rfl, Nat.le_of_ble_eq_true rfl⟩, Nat.zero_le _, Nat.zero_le _⟩ (Nat.le_of_ble_eq_true rfl) ?_
        refine ev_iconst dX12_cake_38 ?_
        refine ev_istore_n (al2 := [(3, vi 0), (0, vr g 75), (1, vi c0), (2, vi what)]) dX12_cake_39 3 rfl (by decide) rfl ?_
        obtain ⟨q9, hq9, hf⟩ := Option.bind_eq_some_iff.mp hf
        refine ev_sub [1, 2, 3, 0] rfl ?_
        refine loop_ev (H := (fun s : Int × Mem => Ev l D cy g K yX12_cake cX12_cake 4 (some .int) (rmd 5 0 0) (MX D cy g K (rmd 5 0 0) Φ) 0 0 M x (L s.2) 40 [(0, vr g 75), (1, vi c0), (2, vi what), (3, vi s.1)] [])) (Hx := (fun e : Int × Mem => Ev l D cy g K yX12_cake cX12_cake 4 (some .int) (rmd 5 0 0) (MX D cy g K (rmd 5 0 0) Φ) 0 0 M x (L e.2) 56 [(0, vr g 75), (1, vi c0), (2, vi what), (3, vi e.1)] [])) (fun s o hb hr => tX12_cake_b40 hS hc c0 what s.1 s.2 hb hr) FU _ _ hq9 ?_
        show Ev l D cy g K yX12_cake cX12_cake 4 (some .int) (rmd 5 0 0) (MX D cy g K (rmd 5 0 0) Φ) 0 0 M x (L q9.2) 56 [(0, vr g 75), (1, vi c0), (2, vi what), (3, vi q9.1)] []
        refine ev_iload_n dX12_cake_56 2 rfl ?_
        refine ev_iconst dX12_cake_57 ?_
        refine ev_icmp_ge 70 dX12_cake_58 (by decide) (fun h10 => ?_) (fun h10 => ?_)
        · rw [if_neg h10] at hf
          refine ev_iload_n dX12_cake_70 2 rfl ?_
          refine ev_iconst dX12_cake_71 ?_
          refine ev_icmp_ne 79 dX12_cake_72 (by decide) (fun h11 => ?_) (fun h11 => ?_)
          · rw [if_neg h11] at hf
            refine ev_aload_n dX12_cake_79 0 rfl ?_
            refine ev_getK 24 dX12_cake_80 (hS.lt (hc 75 rfl)) rfl (hS.K1 (hc 75 rfl) rfl) ciX12 (by decide) rfl flX12_104 ?_
            refine ev_iload_n dX12_cake_83 1 rfl ?_
            obtain ⟨g12, hf⟩ := gd_elim hf
            refine ev_zald dX12_cake_84 (hS.lt (hc 91 rfl)) rfl (hS.mem _ (hc 91 rfl)) g12 ?_
            obtain ⟨v13, hv13, hf⟩ := lt_elim hf
            have hJv13 : Ev l D cy g K yX12_cake cX12_cake 4 (some .int) (rmd 5 0 0) (MX D cy g K (rmd 5 0 0) Φ) 0 0 M x (L q9.2) 93 [(0, vr g 75), (1, vi c0), (2, vi what), (3, vi q9.1)] [vi v13] := by
              obtain rfl := Option.some.inj hf
              exact ev_iret dX12_cake_93 rfl ⟨Nat.zero_le _, Nat.zero_le _⟩ hr
            refine ev_ifb_eq 92 dX12_cake_85 (by decide) (fun h14 => ?_) (fun h14 => ?_)
            · refine ev_iconst dX12_cake_92 ?_
              have e9 : v13 = 0 := hv13.trans ((if_neg h14))
              subst e9
              exact hJv13
            · refine ev_iconst dX12_cake_88 ?_
              refine ev_goto 93 dX12_cake_89 (by decide) ?_
              have e9 : v13 = 1 := hv13.trans ((if_pos h14))
              subst e9
              exact hJv13
          · rw [if_pos h11] at hf
            refine ev_iload_n dX12_cake_75 3 rfl ?_
            refine ev_goto 93 dX12_cake_76 (by decide) ?_
            obtain rfl := Option.some.inj hf
            exact ev_iret dX12_cake_93 rfl ⟨Nat.zero_le _, Nat.zero_le _⟩ hr
        · rw [if_pos h10] at hf
          refine ev_aload_n dX12_cake_61 0 rfl ?_
          refine ev_iload_n dX12_cake_62 1 rfl ?_
          refine ev_iload_n dX12_cake_63 2 rfl ?_
          obtain ⟨v15, hv15, hf⟩ := Option.bind_eq_some_iff.mp hf
          refine cl_V1 (As := [vi c0, vi what]) (st := []) miX12_cakeOf (tX12_cakeOf hS (hc.w rfl rfl) c0 what q9.2 hv15) dX12_cake_64 lkX12_239 inX12_cakeOf rfl (hS.lt (hc 75 rfl)) rfl ⟨rfl, rfl⟩ ⟨⟨Nat.le_of_ble_eq_true rfl, Nat.le_of_ble_eq_true rfl⟩, Nat.zero_le _, Nat.zero_le _⟩ (Nat.le_of_ble_eq_true rfl) ?_
          refine ev_goto 93 dX12_cake_67 (by decide) ?_
          obtain rfl := Option.some.inj hf
          exact ev_iret dX12_cake_93 rfl ⟨Nat.zero_le _, Nat.zero_le _⟩ hr
      · rw [if_neg h4] at hf
        refine ev_iconst dX12_cake_26 ?_
        obtain rfl := Option.some.inj hf
        exact ev_iret dX12_cake_27 rfl ⟨Nat.zero_le _, Nat.zero_le _⟩ hr
theorem tX12_cake (hS : Sd M K P L) (hc : CIn P 75 92) (c0 : Int) (what : Int) (μ : Mem) {o : Int × Mem} (hf : fX12_cake c0 what μ = some o) : Cn l D cy g K K yX12_cake cX12_cake 4 (some .int) (rmd 5 0 0) [vr g 75, vi c0, vi what] M x (L μ) (PE (some (vi o.1)) M x (L o.2)) :=
 Cn.of (by decide) (Nat.le_of_ble_eq_true rfl) (eX12_cake hS hc c0 what μ hf (PE_i _ _ _ _))
def fX12_there (place : Int) (μ : Mem) : Option (Int × Mem) :=
  lt (upd2 μ 75 0 0) fun μ1 =>
  (fX12_lays (μ1 88 0) μ1).bind fun μ2 =>
  lt (fX12_within place 0 ((μ2 81 0) - 1)) fun v3 =>
  if v3 = true then
    gd (0 ≤ w32 place ∧ w32 place < 5) <|
    some (((μ2 90 (w32 place).toNat), μ2))
  else
    some (((-1), μ2))
set_option maxRecDepth 4000 in
theorem eX12_there (hS : Sd M K P L) (hc : CIn P 75 92) (place : Int) (μ : Mem)  {o : Int × Mem} (hf : fX12_there place μ = some o) (hr : (fun o : Int × Mem => Φ (some (vi o.1)) M x (L o.2)) o) : Ev l D cy g K yX12_there cX12_there 2 (some .int) (rmd 5 0 0) (MX D cy g K (rmd 5 0 0) Φ) 0 0 M x (L μ) 0 [(0, vr g 75), (1, vi place)] [] := by
  unfold fX12_there at hf
  refine ev_aload_n dX12_there_0 0 rfl ?_
  refine ev_iconst dX12_there_1 ?_
  obtain ⟨μ1, hμ1, hf⟩ := lt_elim hf
  refine ev_putI 0 dX12_there_2 (hS.lt (hc 75 rfl)) rfl ciX12 (by decide) (Or.inl rfl) rfl rfl flX12_1 (hS.up (hc 75 rfl) hμ1) ?_
  refine ev_aload_n dX12_there_5 0 rfl ?_
  refine ev_aload_n dX12_there_6 0 rfl ?_
  refine ev_getK 19 dX12_there_7 (hS.lt (hc 75 rfl)) rfl (hS.K1 (hc 75 rfl) rfl) ciX12 (by decide) rfl flX12_94 ?_
  refine ev_iconst dX12_there_10 ?_
  refine ev_iald dX12_there_11 (hS.lt (hc 88 rfl)) rfl (hS.mem _ (hc 88 rfl)) ⟨by decide, by decide⟩ ?_
  refine ev_rn (w := vi (μ1 88 0)) (by rw [show (w32 0).toNat = 0 from by decide]) ?_
  obtain ⟨μ2, hμ2, hf⟩ := Option.bind_eq_some_iff.mp hf
  refine cl_V0 (As := [vi (μ1 88 0)]) (st := []) miX12_lays (tX12_lays hS (hc.w rfl rfl) (μ1 88 0) μ1 hμ2) dX12_there_12 lkX12_274 inX12_lays rfl (hS.lt (hc 75 rfl)) rfl ⟨rfl, rfl⟩ ⟨⟨Nat.le_of_ble_eq_true rfl, Nat.le_of_ble_eq_true rfl⟩, Nat.zero_le _, Nat.zero_le _⟩ (Nat.le_of_ble_eq_true rfl) ?_
  refine ev_iload_n dX12_there_15 1 rfl ?_
  refine ev_iconst dX12_there_16 ?_
  refine ev_aload_n dX12_there_17 0 rfl ?_
  refine cl_V1 (As := []) (st := [vi 0, vi place]) miX12_cakes (tX12_cakes hS (hc.w rfl rfl) μ2 (o := (μ2 81 0)) rfl) dX12_there_18 lkX12_209 inX12_cakes rfl (hS.lt (hc 75 rfl)) rfl ⟨rfl, rfl⟩ ⟨⟨Nat.le_of_ble_eq_true rfl, Nat.le_of_ble_eq_true rfl⟩, Nat.zero_le _, Nat.zero_le _⟩ (Nat.le_of_ble_eq_true rfl) ?_
  refine ev_iconst dX12_there_21 ?_
  refine ev_isub dX12_there_22 ?_
  obtain ⟨v3, hv3, hf⟩ := lt_elim hf
  refine cl_S1 (As := [vi place, vi 0, vi ((μ2 81 0) - 1)]) (st := []) miX12_within (tX12_within place 0 ((μ2 81 0) - 1) (L μ2) hv3.symm) dX12_there_23 lkX12_270 stX12_within rfl ⟨⟨Nat.le_of_ble_eq_true rfl, Nat.le_of_ble_eq_true rfl⟩, Nat.zero_le _, Nat.zero_le _⟩ (Nat.le_of_ble_eq_true rfl) ?_
  refine ev_ifb_eq 38 dX12_there_26 (by decide) (fun h4 => ?_) (fun h4 => ?_)
  · rw [if_neg h4] at hf
    refine ev_iconst dX12_there_38 ?_
    obtain rfl := Option.some.inj hf
    exact ev_iret dX12_there_39 rfl ⟨Nat.zero_le _, Nat.zero_le _⟩ hr
  · rw [if_pos h4] at hf
    refine ev_aload_n dX12_there_29 0 rfl ?_
    refine ev_getK 23 dX12_there_30 (hS.lt (hc 75 rfl)) rfl (hS.K1 (hc 75 rfl) rfl) ciX12 (by decide) rfl flX12_101 ?_
    refine ev_iload_n dX12_there_33 1 rfl ?_
    obtain ⟨g5, hf⟩ := gd_elim hf
    refine ev_iald dX12_there_34 (hS.lt (hc 90 rfl)) rfl (hS.mem _ (hc 90 rfl)) g5 ?_
    refine ev_goto 39 dX12_there_35 (by decide) ?_
    obtain rfl := Option.some.inj hf
    exact ev_iret dX12_there_39 rfl ⟨Nat.zero_le _, Nat.zero_le _⟩ hr
theorem tX12_there (hS : Sd M K P L) (hc : CIn P 75 92) (place : Int) (μ : Mem) {o : Int × Mem} (hf : fX12_there place μ = some o) : Cn l D cy g K K yX12_there cX12_there 2 (some .int) (rmd 5 0 0) [vr g 75, vi place] M x (L μ) (PE (some (vi o.1)) M x (L o.2)) :=
 Cn.of (by decide) (Nat.le_of_ble_eq_true rfl) (eX12_there hS hc place μ hf (PE_i _ _ _ _))
def fX12_turn (many : Int) (μ : Mem) : Option (Int × Mem) :=
  lt (upd2 μ 75 0 0) fun μ1 =>
  (fX12_lays (μ1 88 0) μ1).bind fun μ2 =>
  lt (fX12_within many 1 (μ2 81 0)) fun v3 =>
  if v3 = true then
    (fX12_mayTurn many μ2).bind fun q5 =>
    if q5.1 = true then
      (fX12_keeps q5.2).bind fun μ7 =>
      (fX12_costOf many μ7).bind fun q8 =>
      (fX12_turns many q8.2).bind fun μ9 =>
      (fX12_numberNow μ9).bind fun v10 =>
      lt (upd2 μ9 88 0 v10) fun μ11 =>
      lt (upd2 μ11 88 1 ((μ11 88 1) + 1)) fun μ12 =>
      lt (upd2 μ12 88 2 ((μ12 88 2) + q8.1)) fun μ13 =>
      some ((q8.1, μ13))
    else
      some (((-1), q5.2))
  else
    some (((-1), μ2))
set_option maxRecDepth 4000 in
theorem eX12_turn (hS : Sd M K P L) (hc : CIn P 75 92) (many : Int) (μ : Mem)  {o : Int × Mem} (hf : fX12_turn many μ = some o) (hr : (fun o : Int × Mem => Φ (some (vi o.1)) M x (L o.2)) o) : Ev l D cy g K yX12_turn cX12_turn 3 (some .int) (rmd 5 0 0) (MX D cy g K (rmd 5 0 0) Φ) 0 0 M x (L μ) 0 [(0, vr g 75), (1, vi many)] [] := by
  unfold fX12_turn at hf
  refine ev_aload_n dX12_turn_0 0 rfl ?_
  refine ev_iconst dX12_turn_1 ?_
  obtain ⟨μ1, hμ1, hf⟩ := lt_elim hf
  refine ev_putI 0 dX12_turn_2 (hS.lt (hc 75 rfl)) rfl ciX12 (by decide) (Or.inl rfl) rfl rfl flX12_1 (hS.up (hc 75 rfl) hμ1) ?_
  refine ev_aload_n dX12_turn_5 0 rfl ?_
  refine ev_aload_n dX12_turn_6 0 rfl ?_
  refine ev_getK 19 dX12_turn_7 (hS.lt (hc 75 rfl)) rfl (hS.K1 (hc 75 rfl) rfl) ciX12 (by decide) rfl flX12_94 ?_
  refine ev_iconst dX12_turn_10 ?_
  refine ev_iald dX12_turn_11 (hS.lt (hc 88 rfl)) rfl (hS.mem _ (hc 88 rfl)) ⟨by decide, by decide⟩ ?_
  refine ev_rn (w := vi (μ1 88 0)) (by rw [show (w32 0).toNat = 0 from by decide]) ?_
  obtain ⟨μ2, hμ2, hf⟩ := Option.bind_eq_some_iff.mp hf
  refine cl_V0 (As := [vi (μ1 88 0)]) (st := []) miX12_lays (tX12_lays hS (hc.w rfl rfl) (μ1 88 0) μ1 hμ2) dX12_turn_12 lkX12_274 inX12_lays rfl (hS.lt (hc 75 rfl)) rfl ⟨rfl, rfl⟩ ⟨⟨Nat.le_of_ble_eq_true rfl, Nat.le_of_ble_eq_true rfl⟩, Nat.zero_le _, Nat.zero_le _⟩ (Nat.le_of_ble_eq_true rfl) ?_
  refine ev_iload_n dX12_turn_15 1 rfl ?_
  refine ev_iconst dX12_turn_16 ?_
  refine ev_aload_n dX12_turn_17 0 rfl ?_
  refine cl_V1 (As := []) (st := [vi 1, vi many]) miX12_cakes (tX12_cakes hS (hc.w rfl rfl) μ2 (o := (μ2 81 0)) rfl) dX12_turn_18 lkX12_209 inX12_cakes rfl (hS.lt (hc 75 rfl)) rfl ⟨rfl, rfl⟩ ⟨⟨Nat.le_of_ble_eq_true rfl, Nat.le_of_ble_eq_true rfl⟩, Nat.zero_le _, Nat.zero_le _⟩ (Nat.le_of_ble_eq_true rfl) ?_
  obtain ⟨v3, hv3, hf⟩ := lt_elim hf
  refine cl_S1 (As := [vi many, vi 1, vi (μ2 81 0)]) (st := []) miX12_within (tX12_within many 1 (μ2 81 0) (L μ2) hv3.symm) dX12_turn_21 lkX12_270 stX12_within rfl ⟨⟨Nat.le_of_ble_eq_true rfl, Nat.le_of_ble_eq_true rfl⟩, Nat.zero_le _, Nat.zero_le _⟩ (Nat.le_of_ble_eq_true rfl) ?_
  refine ev_ifb_eq 35 dX12_turn_24 (by decide) (fun h4 => ?_) (fun h4 => ?_)
  · rw [if_neg h4] at hf
    refine ev_iconst dX12_turn_35 ?_
    obtain rfl := Option.some.inj hf
    exact ev_iret dX12_turn_36 rfl ⟨Nat.zero_le _, Nat.zero_le _⟩ hr
  · rw [if_pos h4] at hf
    refine ev_aload_n dX12_turn_27 0 rfl ?_
    refine ev_iload_n dX12_turn_28 1 rfl ?_
    obtain ⟨q5, hq5, hf⟩ := Option.bind_eq_some_iff.mp hf
    refine cl_V1 (As := [vi many]) (st := []) miX12_mayTurn (tX12_mayTurn hS (hc.w rfl rfl) many μ2 hq5) dX12_turn_29 lkX12_277 inX12_mayTurn rfl (hS.lt (hc 75 rfl)) rfl ⟨rfl, rfl⟩ ⟨⟨Nat.le_of_ble_eq_true rfl, Nat.le_of_ble_eq_true rfl⟩, Nat.zero_le _, Nat.zero_le _⟩ (Nat.le_of_ble_eq_true rfl) ?_
    refine ev_ifb_ne 37 dX12_turn_32 (by decide) (fun h6 => ?_) (fun h6 => ?_)
    · rw [if_pos h6] at hf
      refine ev_aload_n dX12_turn_37 0 rfl ?_
      obtain ⟨μ7, hμ7, hf⟩ := Option.bind_eq_some_iff.mp hf
      refine cl_V0 (As := []) (st := []) miX12_keeps (tX12_keeps hS (hc.w rfl rfl) q5.2 hμ7) dX12_turn_38 lkX12_280 inX12_keeps rfl (hS.lt (hc 75 rfl)) rfl ⟨rfl, rfl⟩ ⟨⟨Nat.le_of_ble_eq_true rfl, Nat.le_of_ble_eq_true rfl⟩, Nat.zero_le _, Nat.zero_le _⟩ (Nat.le_of_ble_eq_true rfl) ?_
      refine ev_aload_n dX12_turn_41 0 rfl ?_
      refine ev_iload_n dX12_turn_42 1 rfl ?_
      obtain ⟨q8, hq8, hf⟩ := Option.bind_eq_some_iff.mp hf
      refine cl_V1 (As := [vi many]) (st := []) miX12_costOf (tX12_costOf hS (hc.w rfl rfl) many μ7 hq8) dX12_turn_43 lkX12_283 inX12_costOf rfl (hS.lt (hc 75 rfl)) rfl ⟨rfl, rfl⟩ ⟨⟨Nat.le_of_ble_eq_true rfl, Nat.le_of_ble_eq_true rfl⟩, Nat.zero_le _, Nat.zero_le _⟩ (Nat.le_of_ble_eq_true rfl) ?_
      refine ev_istore_n (al2 := [(2, vi q8.1), (0, vr g 75), (1, vi many)]) dX12_turn_46 2 rfl (by decide) rfl ?_
      refine ev_aload_n dX12_turn_47 1 rfl ?_
      refine ev_iload_n dX12_turn_48 2 rfl ?_
      obtain ⟨μ9, hμ9, hf⟩ := Option.bind_eq_some_iff.mp hf
      refine cl_V0 (As := [vi many]) (st := []) miX12_turns (tX12_turns hS (hc.w rfl rfl) many q8.2 hμ9) dX12_turn_49 lkX12_286 inX12_turns rfl (hS.lt (hc 75 rfl)) rfl ⟨rfl, rfl⟩ ⟨⟨Nat.le_of_ble_eq_true rfl, Nat.le_of_ble_eq_true rfl⟩, Nat.zero_le _, Nat.zero_le _⟩ (Nat.le_of_ble_eq_true rfl) ?_
      refine ev_aload_n dX12_turn_52 1 rfl ?_
      refine ev_getK 19 dX12_turn_53 (hS.lt (hc 75 rfl)) rfl (hS.K1 (hc 75 rfl) rfl) ciX12 (by decide) rfl flX12_94 ?_
      refine ev_iconst dX12_turn_56 ?_
      refine ev_aload_n dX12_turn_57 1 rfl ?_
      obtain ⟨v10, hv10, hf⟩ := Option.bind_eq_some_iff.mp hf
      refine cl_V1 (As := []) (st := [vi 0, vr g 88]) miX12_numberNow (tX12_numberNow hS (hc.w rfl rfl) μ9 hv10) dX12_turn_58 lkX12_242 inX12_numberNow rfl (hS.lt (hc 75 rfl)) rfl ⟨rfl, rfl⟩ ⟨⟨Nat.le_of_ble_eq_true rfl, Nat.le_of_ble_eq_true rfl⟩, Nat.zero_le _, Nat.zero_le _⟩ (Nat.le_of_ble_eq_true rfl) ?_
      obtain ⟨μ11, hμ11, hf⟩ := lt_elim hf
      refine ev_iast (N2 := L μ11) dX12_turn_61 (hS.lt (hc 88 rfl)) rfl ⟨by decide, by decide⟩ (by rw [show (w32 0).toNat = 0 from by decide]; exact hS.up (hc 88 rfl) hμ11) ?_
      refine ev_aload_n dX12_turn_62 1 rfl ?_
      refine ev_getK 19 dX12_turn_63 (hS.lt (hc 75 rfl)) rfl (hS.K1 (hc 75 rfl) rfl) ciX12 (by decide) rfl flX12_94 ?_
      refine ev_iconst dX12_turn_66 ?_
      refine ev_dup2 dX12_turn_67 rfl rfl ?_
      refine ev_iald dX12_turn_68 (hS.lt (hc 88 rfl)) rfl (hS.mem _ (hc 88 rfl)) ⟨by decide, by decide⟩ ?_
      refine ev_rn (w := vi (μ11 88 1)) (by rw [show (w32 1).toNat = 1 from by decide]) ?_
      refine ev_iconst dX12_turn_69 ?_
      refine ev_iadd dX12_turn_70 ?_
      obtain ⟨μ12, hμ12, hf⟩ := lt_elim hf
      refine ev_iast (N2 := L μ12) dX12_turn_71 (hS.lt (hc 88 rfl)) rfl ⟨by decide, by decide⟩ (by rw [show (w32 1).toNat = 1 from by decide]; exact hS.up (hc 88 rfl) hμ12) ?_
      refine ev_aload_n dX12_turn_72 1 rfl ?_
      refine ev_getK 19 dX12_turn_73 (hS.lt (hc 75 rfl)) rfl (hS.K1 (hc 75 rfl) rfl) ciX12 (by decide) rfl flX12_94 ?_
      refine ev_iconst dX12_turn_76 ?_
      refine ev_dup2 dX12_turn_77 rfl rfl ?_
      refine ev_iald dX12_turn_78 (hS.lt (hc 88 rfl)) rfl (hS.mem _ (hc 88 rfl)) ⟨by decide, by decide⟩ ?_
      refine ev_rn (w := vi (μ12 88 2)) (by rw [show (w32 2).toNat = 2 from by decide]) ?_
      refine ev_iload_n dX12_turn_79 0 rfl ?_
      refine ev_iadd dX12_turn_80 ?_
      obtain ⟨μ13, hμ13, hf⟩ := lt_elim hf
      refine ev_iast (N2 := L μ13) dX12_turn_81 (hS.lt (hc 88 rfl)) rfl ⟨by decide, by decide⟩ (by rw [show (w32 2).toNat = 2 from by decide]; exact hS.up (hc 88 rfl) hμ13) ?_
      refine ev_iload_n dX12_turn_82 0 rfl ?_
      obtain rfl := Option.some.inj hf
      exact ev_iret dX12_turn_83 rfl ⟨Nat.zero_le _, Nat.zero_le _⟩ hr
    · rw [if_neg h6] at hf
      refine ev_iconst dX12_turn_35 ?_
      obtain rfl := Option.some.inj hf
      exact ev_iret dX12_turn_36 rfl ⟨Nat.zero_le _, Nat.zero_le _⟩ hr
theorem tX12_turn (hS : Sd M K P L) (hc : CIn P 75 92) (many : Int) (μ : Mem) {o : Int × Mem} (hf : fX12_turn many μ = some o) : Cn l D cy g K K yX12_turn cX12_turn 3 (some .int) (rmd 5 0 0) [vr g 75, vi many] M x (L μ) (PE (some (vi o.1)) M x (L o.2)) :=
 Cn.of (by decide) (Nat.le_of_ble_eq_true rfl) (eX12_turn hS hc many μ hf (PE_i _ _ _ _))
def fX12_undo  (μ : Mem) : Option (Bool × Mem) :=
  lt (upd2 μ 75 0 0) fun μ1 =>
  if w32 (μ1 75 20) = 0 then
    some ((false, μ1))
  else
    lt (upd2 μ1 75 20 ((μ1 75 20) - 1)) fun μ3 =>
    (fX12_copies (28 * (5 + (μ3 75 20))) 0 3 μ3).bind fun μ4 =>
    some ((true, μ4))
set_option maxRecDepth 4000 in
theorem eX12_undo (hS : Sd M K P L) (hc : CIn P 75 89)  (μ : Mem)  {o : Bool × Mem} (hf : fX12_undo  μ = some o) (hr : (fun o : Bool × Mem => Φ (some (vb o.1)) M x (L o.2)) o) : Ev l D cy g K yX12_undo cX12_undo 1 (some .boolean) (rmd 2 0 0) (MX D cy g K (rmd 2 0 0) Φ) 0 0 M x (L μ) 0 [(0, vr g 75)] [] := by
  unfold fX12_undo at hf
  refine ev_aload_n dX12_undo_0 0 rfl ?_
  refine ev_iconst dX12_undo_1 ?_
  obtain ⟨μ1, hμ1, hf⟩ := lt_elim hf
  refine ev_putI 0 dX12_undo_2 (hS.lt (hc 75 rfl)) rfl ciX12 (by decide) (Or.inl rfl) rfl rfl flX12_1 (hS.up (hc 75 rfl) hμ1) ?_
  refine ev_aload_n dX12_undo_5 0 rfl ?_
  refine ev_getI 20 dX12_undo_6 (hS.lt (hc 75 rfl)) rfl (hS.mem _ (hc 75 rfl)) ciX12 (by decide) rfl flX12_248 ?_
  refine ev_if_ne 14 dX12_undo_9 (by decide) (fun h2 => ?_) (fun h2 => ?_)
  · rw [if_neg h2] at hf
    refine ev_aload_n dX12_undo_14 0 rfl ?_
    refine ev_dup dX12_undo_15 rfl ?_
    refine ev_getI 20 dX12_undo_16 (hS.lt (hc 75 rfl)) rfl (hS.mem _ (hc 75 rfl)) ciX12 (by decide) rfl flX12_248 ?_
    refine ev_iconst dX12_undo_19 ?_
    refine ev_isub dX12_undo_20 ?_
    obtain ⟨μ3, hμ3, hf⟩ := lt_elim hf
    refine ev_putI 20 dX12_undo_21 (hS.lt (hc 75 rfl)) rfl ciX12 (by decide) (Or.inl rfl) rfl rfl flX12_248 (hS.up (hc 75 rfl) hμ3) ?_
    refine ev_aload_n dX12_undo_24 0 rfl ?_
    refine ev_bipush dX12_undo_25 (by decide) ?_
    refine ev_iconst dX12_undo_27 ?_
    refine ev_aload_n dX12_undo_28 0 rfl ?_
    refine ev_getI 20 dX12_undo_29 (hS.lt (hc 75 rfl)) rfl (hS.mem _ (hc 75 rfl)) ciX12 (by decide) rfl flX12_248 ?_
    refine ev_iadd dX12_undo_32 ?_
    refine ev_imul dX12_undo_33 ?_
    refine ev_iconst dX12_undo_34 ?_
    refine ev_iconst dX12_undo_35 ?_
    obtain ⟨μ4, hμ4, hf⟩ := Option.bind_eq_some_iff.mp hf
    refine cl_V0 (As := [vi (28 * (5 + (μ3 75 20))), vi 0, vi 3]) (st := []) miX12_copies (tX12_copies hS (hc.w rfl rfl) (28 * (5 + (μ3 75 20))) 0 3 μ3 hμ4) dX12_undo_36 lkX12_254 inX12_copies rfl (hS.lt (hc 75 rfl)) rfl ⟨rfl, rfl⟩ ⟨⟨Nat.le_of_ble_eq_true rfl, Nat.le_of_ble_eq_true rfl⟩, Nat.zero_le _, Nat.zero_le _⟩ (Nat.le_of_ble_eq_true rfl) ?_
    refine ev_iconst dX12_undo_39 ?_
    obtain rfl := Option.some.inj hf
    exact ev_bret (b := true) dX12_undo_40 rfl ⟨Nat.zero_le _, Nat.zero_le _⟩ hr
  · rw [if_pos h2] at hf
    refine ev_iconst dX12_undo_12 ?_
    obtain rfl := Option.some.inj hf
    exact ev_bret (b := false) dX12_undo_13 rfl ⟨Nat.zero_le _, Nat.zero_le _⟩ hr
theorem tX12_undo (hS : Sd M K P L) (hc : CIn P 75 89) (μ : Mem) {o : Bool × Mem} (hf : fX12_undo μ = some o) : Cn l D cy g K K yX12_undo cX12_undo 1 (some .boolean) (rmd 2 0 0) [vr g 75] M x (L μ) (PE (some (vb o.1)) M x (L o.2)) :=
 Cn.of (by decide) (Nat.le_of_ble_eq_true rfl) (eX12_undo hS hc μ hf (PE_i _ _ _ _))
def fX12_can (many : Int) (μ : Mem) : Option (Bool × Mem) :=
  lt (upd2 μ 75 0 0) fun μ1 =>
  (fX12_lays (μ1 88 0) μ1).bind fun μ2 =>
  lt (fX12_within many 1 (μ2 81 0)) fun v3 =>
  if v3 = true then
    (fX12_mayTurn many μ2).bind fun q5 =>
    lt (if q5.1 = true then
        true
      else
        false) fun v6 =>
    some ((v6, q5.2))
  else
    some ((false, μ2))
set_option maxRecDepth 4000 in
theorem eX12_can (hS : Sd M K P L) (hc : CIn P 75 92) (many : Int) (μ : Mem)  {o : Bool × Mem} (hf : fX12_can many μ = some o) (hr : (fun o : Bool × Mem => Φ (some (vb o.1)) M x (L o.2)) o) : Ev l D cy g K yX12_can cX12_can 2 (some .boolean) (rmd 5 0 0) (MX D cy g K (rmd 5 0 0) Φ) 0 0 M x (L μ) 0 [(0, vr g 75), (1, vi many)] [] := by
  unfold fX12_can at hf
  refine ev_aload_n dX12_can_0 0 rfl ?_
  refine ev_iconst dX12_can_1 ?_
  obtain ⟨μ1, hμ1, hf⟩ := lt_elim hf
  refine ev_putI 0 dX12_can_2 (hS.lt (hc 75 rfl)) rfl ciX12 (by decide) (Or.inl rfl) rfl rfl flX12_1 (hS.up (hc 75 rfl) hμ1) ?_
  refine ev_aload_n dX12_can_5 0 rfl ?_
  refine ev_aload_n dX12_can_6 0 rfl ?_
  refine ev_getK 19 dX12_can_7 (hS.lt (hc 75 rfl)) rfl (hS.K1 (hc 75 rfl) rfl) ciX12 (by decide) rfl flX12_94 ?_
  refine ev_iconst dX12_can_10 ?_
  refine ev_iald dX12_can_11 (hS.lt (hc 88 rfl)) rfl (hS.mem _ (hc 88 rfl)) ⟨by decide, by decide⟩ ?_
  refine ev_rn (w := vi (μ1 88 0)) (by rw [show (w32 0).toNat = 0 from by decide]) ?_
  obtain ⟨μ2, hμ2, hf⟩ := Option.bind_eq_some_iff.mp hf
  refine cl_V0 (As := [vi (μ1 88 0)]) (st := []) miX12_lays (tX12_lays hS (hc.w rfl rfl) (μ1 88 0) μ1 hμ2) dX12_can_12 lkX12_274 inX12_lays rfl (hS.lt (hc 75 rfl)) rfl ⟨rfl, rfl⟩ ⟨⟨Nat.le_of_ble_eq_true rfl, Nat.le_of_ble_eq_true rfl⟩, Nat.zero_le _, Nat.zero_le _⟩ (Nat.le_of_ble_eq_true rfl) ?_
  refine ev_iload_n dX12_can_15 1 rfl ?_
  refine ev_iconst dX12_can_16 ?_
  refine ev_aload_n dX12_can_17 0 rfl ?_
  refine cl_V1 (As := []) (st := [vi 1, vi many]) miX12_cakes (tX12_cakes hS (hc.w rfl rfl) μ2 (o := (μ2 81 0)) rfl) dX12_can_18 lkX12_209 inX12_cakes rfl (hS.lt (hc 75 rfl)) rfl ⟨rfl, rfl⟩ ⟨⟨Nat.le_of_ble_eq_true rfl, Nat.le_of_ble_eq_true rfl⟩, Nat.zero_le _, Nat.zero_le _⟩ (Nat.le_of_ble_eq_true rfl) ?_
  obtain ⟨v3, hv3, hf⟩ := lt_elim hf
  refine cl_S1 (As := [vi many, vi 1, vi (μ2 81 0)]) (st := []) miX12_within (tX12_within many 1 (μ2 81 0) (L μ2) hv3.symm) dX12_can_21 lkX12_270 stX12_within rfl ⟨⟨Nat.le_of_ble_eq_true rfl, Nat.le_of_ble_eq_true rfl⟩, Nat.zero_le _, Nat.zero_le _⟩ (Nat.le_of_ble_eq_true rfl) ?_
  refine ev_ifb_eq 39 dX12_can_24 (by decide) (fun h4 => ?_) (fun h4 => ?_)
  · rw [if_neg h4] at hf
    refine ev_iconst dX12_can_39 ?_
    obtain rfl := Option.some.inj hf
    exact ev_bret (b := false) dX12_can_40 rfl ⟨Nat.zero_le _, Nat.zero_le _⟩ hr
  · rw [if_pos h4] at hf
    refine ev_aload_n dX12_can_27 0 rfl ?_
    refine ev_iload_n dX12_can_28 1 rfl ?_
    obtain ⟨q5, hq5, hf⟩ := Option.bind_eq_some_iff.mp hf
    refine cl_V1 (As := [vi many]) (st := []) miX12_mayTurn (tX12_mayTurn hS (hc.w rfl rfl) many μ2 hq5) dX12_can_29 lkX12_277 inX12_mayTurn rfl (hS.lt (hc 75 rfl)) rfl ⟨rfl, rfl⟩ ⟨⟨Nat.le_of_ble_eq_true rfl, Nat.le_of_ble_eq_true rfl⟩, Nat.zero_le _, Nat.zero_le _⟩ (Nat.le_of_ble_eq_true rfl) ?_
    obtain ⟨v6, hv6, hf⟩ := lt_elim hf
    have hJv6 : Ev l D cy g K yX12_can cX12_can 2 (some .boolean) (rmd 5 0 0) (MX D cy g K (rmd 5 0 0) Φ) 0 0 M x (L q5.2) 40 [(0, vr g 75), (1, vi many)] [vb v6] := by
      obtain rfl := Option.some.inj hf
      exact ev_bret (b := v6) dX12_can_40 rfl ⟨Nat.zero_le _, Nat.zero_le _⟩ hr
    refine ev_ifb_eq 39 dX12_can_32 (by decide) (fun h7 => ?_) (fun h7 => ?_)
    · refine ev_iconst dX12_can_39 ?_
      have e9 : v6 = false := hv6.trans ((if_neg h7))
      subst e9
      exact hJv6
    · refine ev_iconst dX12_can_35 ?_
      refine ev_goto 40 dX12_can_36 (by decide) ?_
      have e9 : v6 = true := hv6.trans ((if_pos h7))
      subst e9
      exact hJv6
theorem tX12_can (hS : Sd M K P L) (hc : CIn P 75 92) (many : Int) (μ : Mem) {o : Bool × Mem} (hf : fX12_can many μ = some o) : Cn l D cy g K K yX12_can cX12_can 2 (some .boolean) (rmd 5 0 0) [vr g 75, vi many] M x (L μ) (PE (some (vb o.1)) M x (L o.2)) :=
 Cn.of (by decide) (Nat.le_of_ble_eq_true rfl) (eX12_can hS hc many μ hf (PE_i _ _ _ _))
def fX12_cost (many : Int) (μ : Mem) : Option (Int × Mem) :=
  lt (upd2 μ 75 0 0) fun μ1 =>
  (fX12_lays (μ1 88 0) μ1).bind fun μ2 =>
  lt (fX12_within many 1 (μ2 81 0)) fun v3 =>
  if v3 = true then
    (fX12_costOf many μ2).bind fun q5 =>
    some ((q5.1, q5.2))
  else
    some (((-1), μ2))
set_option maxRecDepth 4000 in
theorem eX12_cost (hS : Sd M K P L) (hc : CIn P 75 92) (many : Int) (μ : Mem)  {o : Int × Mem} (hf : fX12_cost many μ = some o) (hr : (fun o : Int × Mem => Φ (some (vi o.1)) M x (L o.2)) o) : Ev l D cy g K yX12_cost cX12_cost 2 (some .int) (rmd 5 0 0) (MX D cy g K (rmd 5 0 0) Φ) 0 0 M x (L μ) 0 [(0, vr g 75), (1, vi many)] [] := by
  unfold fX12_cost at hf
  refine ev_aload_n dX12_cost_0 0 rfl ?_
  refine ev_iconst dX12_cost_1 ?_
  obtain ⟨μ1, hμ1, hf⟩ := lt_elim hf
  refine ev_putI 0 dX12_cost_2 (hS.lt (hc 75 rfl)) rfl ciX12 (by decide) (Or.inl rfl) rfl rfl flX12_1 (hS.up (hc 75 rfl) hμ1) ?_
  refine ev_aload_n dX12_cost_5 0 rfl ?_
  refine ev_aload_n dX12_cost_6 0 rfl ?_
  refine ev_getK 19 dX12_cost_7 (hS.lt (hc 75 rfl)) rfl (hS.K1 (hc 75 rfl) rfl) ciX12 (by decide) rfl flX12_94 ?_
  refine ev_iconst dX12_cost_10 ?_
  refine ev_iald dX12_cost_11 (hS.lt (hc 88 rfl)) rfl (hS.mem _ (hc 88 rfl)) ⟨by decide, by decide⟩ ?_
  refine ev_rn (w := vi (μ1 88 0)) (by rw [show (w32 0).toNat = 0 from by decide]) ?_
  obtain ⟨μ2, hμ2, hf⟩ := Option.bind_eq_some_iff.mp hf
  refine cl_V0 (As := [vi (μ1 88 0)]) (st := []) miX12_lays (tX12_lays hS (hc.w rfl rfl) (μ1 88 0) μ1 hμ2) dX12_cost_12 lkX12_274 inX12_lays rfl (hS.lt (hc 75 rfl)) rfl ⟨rfl, rfl⟩ ⟨⟨Nat.le_of_ble_eq_true rfl, Nat.le_of_ble_eq_true rfl⟩, Nat.zero_le _, Nat.zero_le _⟩ (Nat.le_of_ble_eq_true rfl) ?_
  refine ev_iload_n dX12_cost_15 1 rfl ?_
  refine ev_iconst dX12_cost_16 ?_
  refine ev_aload_n dX12_cost_17 0 rfl ?_
  refine cl_V1 (As := []) (st := [vi 1, vi many]) miX12_cakes (tX12_cakes hS (hc.w rfl rfl) μ2 (o := (μ2 81 0)) rfl) dX12_cost_18 lkX12_209 inX12_cakes rfl (hS.lt (hc 75 rfl)) rfl ⟨rfl, rfl⟩ ⟨⟨Nat.le_of_ble_eq_true rfl, Nat.le_of_ble_eq_true rfl⟩, Nat.zero_le _, Nat.zero_le _⟩ (Nat.le_of_ble_eq_true rfl) ?_
  obtain ⟨v3, hv3, hf⟩ := lt_elim hf
  refine cl_S1 (As := [vi many, vi 1, vi (μ2 81 0)]) (st := []) miX12_within (tX12_within many 1 (μ2 81 0) (L μ2) hv3.symm) dX12_cost_21 lkX12_270 stX12_within rfl ⟨⟨Nat.le_of_ble_eq_true rfl, Nat.le_of_ble_eq_true rfl⟩, Nat.zero_le _, Nat.zero_le _⟩ (Nat.le_of_ble_eq_true rfl) ?_
  refine ev_ifb_eq 35 dX12_cost_24 (by decide) (fun h4 => ?_) (fun h4 => ?_)
  · rw [if_neg h4] at hf
    refine ev_iconst dX12_cost_35 ?_
    obtain rfl := Option.some.inj hf
    exact ev_iret dX12_cost_36 rfl ⟨Nat.zero_le _, Nat.zero_le _⟩ hr
  · rw [if_pos h4] at hf
    refine ev_aload_n dX12_cost_27 0 rfl ?_
    refine ev_iload_n dX12_cost_28 1 rfl ?_
    obtain ⟨q5, hq5, hf⟩ := Option.bind_eq_some_iff.mp hf
    refine cl_V1 (As := [vi many]) (st := []) miX12_costOf (tX12_costOf hS (hc.w rfl rfl) many μ2 hq5) dX12_cost_29 lkX12_283 inX12_costOf rfl (hS.lt (hc 75 rfl)) rfl ⟨rfl, rfl⟩ ⟨⟨Nat.le_of_ble_eq_true rfl, Nat.le_of_ble_eq_true rfl⟩, Nat.zero_le _, Nat.zero_le _⟩ (Nat.le_of_ble_eq_true rfl) ?_
    refine ev_goto 36 dX12_cost_32 (by decide) ?_
    obtain rfl := Option.some.inj hf
    exact ev_iret dX12_cost_36 rfl ⟨Nat.zero_le _, Nat.zero_le _⟩ hr
theorem tX12_cost (hS : Sd M K P L) (hc : CIn P 75 92) (many : Int) (μ : Mem) {o : Int × Mem} (hf : fX12_cost many μ = some o) : Cn l D cy g K K yX12_cost cX12_cost 2 (some .int) (rmd 5 0 0) [vr g 75, vi many] M x (L μ) (PE (some (vi o.1)) M x (L o.2)) :=
 Cn.of (by decide) (Nat.le_of_ble_eq_true rfl) (eX12_cost hS hc many μ hf (PE_i _ _ _ _))
def fX12_served  (μ : Mem) : Option (Bool × Mem) :=
  lt (upd2 μ 75 0 0) fun μ1 =>
  (fX12_lays (μ1 88 0) μ1).bind fun μ2 =>
  (fX12_isServed μ2).bind fun v3 =>
  some ((v3, μ2))
set_option maxRecDepth 4000 in
theorem eX12_served (hS : Sd M K P L) (hc : CIn P 75 92)  (μ : Mem)  {o : Bool × Mem} (hf : fX12_served  μ = some o) (hr : (fun o : Bool × Mem => Φ (some (vb o.1)) M x (L o.2)) o) : Ev l D cy g K yX12_served cX12_served 1 (some .boolean) (rmd 5 0 0) (MX D cy g K (rmd 5 0 0) Φ) 0 0 M x (L μ) 0 [(0, vr g 75)] [] := by
  unfold fX12_served at hf
  refine ev_aload_n dX12_served_0 0 rfl ?_
  refine ev_iconst dX12_served_1 ?_
  obtain ⟨μ1, hμ1, hf⟩ := lt_elim hf
  refine ev_putI 0 dX12_served_2 (hS.lt (hc 75 rfl)) rfl ciX12 (by decide) (Or.inl rfl) rfl rfl flX12_1 (hS.up (hc 75 rfl) hμ1) ?_
  refine ev_aload_n dX12_served_5 0 rfl ?_
  refine ev_aload_n dX12_served_6 0 rfl ?_
  refine ev_getK 19 dX12_served_7 (hS.lt (hc 75 rfl)) rfl (hS.K1 (hc 75 rfl) rfl) ciX12 (by decide) rfl flX12_94 ?_
  refine ev_iconst dX12_served_10 ?_
  refine ev_iald dX12_served_11 (hS.lt (hc 88 rfl)) rfl (hS.mem _ (hc 88 rfl)) ⟨by decide, by decide⟩ ?_
  refine ev_rn (w := vi (μ1 88 0)) (by rw [show (w32 0).toNat = 0 from by decide]) ?_
  obtain ⟨μ2, hμ2, hf⟩ := Option.bind_eq_some_iff.mp hf
  refine cl_V0 (As := [vi (μ1 88 0)]) (st := []) miX12_lays (tX12_lays hS (hc.w rfl rfl) (μ1 88 0) μ1 hμ2) dX12_served_12 lkX12_274 inX12_lays rfl (hS.lt (hc 75 rfl)) rfl ⟨rfl, rfl⟩ ⟨⟨Nat.le_of_ble_eq_true rfl, Nat.le_of_ble_eq_true rfl⟩, Nat.zero_le _, Nat.zero_le _⟩ (Nat.le_of_ble_eq_true rfl) ?_
  refine ev_aload_n dX12_served_15 0 rfl ?_
  obtain ⟨v3, hv3, hf⟩ := Option.bind_eq_some_iff.mp hf
  refine cl_V1 (As := []) (st := []) miX12_isServed (tX12_isServed hS (hc.w rfl rfl) μ2 hv3) dX12_served_16 lkX12_289 inX12_isServed rfl (hS.lt (hc 75 rfl)) rfl ⟨rfl, rfl⟩ ⟨⟨Nat.le_of_ble_eq_true rfl, Nat.le_of_ble_eq_true rfl⟩, Nat.zero_le _, Nat.zero_le _⟩ (Nat.le_of_ble_eq_true rfl) ?_
  obtain rfl := Option.some.inj hf
  exact ev_bret (b := v3) dX12_served_19 rfl ⟨Nat.zero_le _, Nat.zero_le _⟩ hr
theorem tX12_served (hS : Sd M K P L) (hc : CIn P 75 92) (μ : Mem) {o : Bool × Mem} (hf : fX12_served μ = some o) : Cn l D cy g K K yX12_served cX12_served 1 (some .boolean) (rmd 5 0 0) [vr g 75] M x (L μ) (PE (some (vb o.1)) M x (L o.2)) :=
 Cn.of (by decide) (Nat.le_of_ble_eq_true rfl) (eX12_served hS hc μ hf (PE_i _ _ _ _))
def fX12_judged_j97 (what : Int) (v15 : Int) (v16 : Int) (v17 : Int) (v18 : Int) (μ : Mem) : Option ((Int × Int × Int × Int × Mem) ⊕ (Int × Int × Int × Mem)) :=
  (fX12_isServed μ).bind fun v19 =>
  lt (if v19 = true then
      if w32 v16 < 0 then
        v18
      else
        v16
    else
      v16) fun v20 =>
  some (.inl (v15, v20, v17, (v18 + 1), μ))
set_option maxRecDepth 4000 in
theorem tX12_judged_j97 (hS : Sd M K P L) (hc : CIn P 75 92) (what : Int) (v15 : Int) (v16 : Int) (v17 : Int) (v18 : Int) (μ : Mem)  {o : (Int × Int × Int × Int × Mem) ⊕ (Int × Int × Int × Mem)} (hf : fX12_judged_j97 what v15 v16 v17 v18 μ = some o) (hr : (Sum.elim (fun s : Int × Int × Int × Int × Mem => Ev l D cy g K yX12_judged cX12_judged 7 (some .int) (rmd 5 0 0) (MX D cy g K (rmd 5 0 0) Φ) 0 0 M x (L s.2.2.2.2) 35 [(0, vr g 75), (1, vi what), (2, vi s.1), (3, vi s.2.1), (4, vi s.2.2.1), (5, vi s.2.2.2.1)] []) (fun e : Int × Int × Int × Mem => Ev l D cy g K yX12_judged cX12_judged 7 (some .int) (rmd 5 0 0) (MX D cy g K (rmd 5 0 0) Φ) 0 0 M x (L e.2.2.2) 121 [(1, vi what), (2, vi e.1), (3, vi e.2.1), (4, vi e.2.2.1)] [])) o) : Ev l D cy g K yX12_judged cX12_judged 7 (some .int) (rmd 5 0 0) (MX D cy g K (rmd 5 0 0) Φ) 0 0 M x (L μ) 97 [(0, vr g 75), (1, vi what), (2, vi v15), (3, vi v16), (4, vi v17), (5, vi v18)] [] := by
  unfold fX12_judged_j97 at hf
  refine ev_aload_n dX12_judged_97 0 rfl ?_
  obtain ⟨v19, hv19, hf⟩ := Option.bind_eq_some_iff.mp hf
  refine cl_V1 (As := []) (st := []) miX12_isServed (tX12_isServed hS (hc.w rfl rfl) μ hv19) dX12_judged_98 lkX12_289 inX12_isServed rfl (hS.lt (hc 75 rfl)) rfl ⟨rfl, rfl⟩ ⟨⟨Nat.le_of_ble_eq_true rfl, Nat.le_of_ble_eq_true rfl⟩, Nat.zero_le _, Nat.zero_le _⟩ (Nat.le_of_ble_eq_true rfl) ?_
  obtain ⟨v20, hv20, hf⟩ := lt_elim hf
  have hJv20 : Ev l D cy g K yX12_judged cX12_judged 7 (some .int) (rmd 5 0 0) (MX D cy g K (rmd 5 0 0) Φ) 0 0 M x (L μ) 114 [(0, vr g 75), (1, vi what), (2, vi v15), (3, vi v16), (4, vi v17), (5, vi v18)] [vi v20] := by
    refine ev_istore_n (al2 := [(3, vi v20), (0, vr g 75), (1, vi what), (2, vi v15), (4, vi v17), (5, vi v18)]) dX12_judged_114 3 rfl (by decide) rfl ?_
    refine ev_iinc (al2 := [(5, vi (v18 + 1)), (3, vi v20), (0, vr g 75), (1, vi what), (2, vi v15), (4, vi v17)]) dX12_judged_115 5 rfl (by decide) rfl ?_
    refine ev_goto 35 dX12_judged_118 (by decide) ?_
    obtain rfl := Option.some.inj hf
    refine ev_sub [2, 3, 4, 1, 5, 0] rfl ?_
    exact hr
  refine ev_ifb_eq 113 dX12_judged_101 (by decide) (fun h21 => ?_) (fun h21 => ?_)
  · refine ev_iload_n dX12_judged_113 3 rfl ?_
    have e9 : v20 = v16 := hv20.trans ((if_neg h21))
    subst e9
    exact hJv20
  · refine ev_iload_n dX12_judged_104 3 rfl ?_
    refine ev_if_ge 113 dX12_judged_105 (by decide) (fun h22 => ?_) (fun h22 => ?_)
    · refine ev_iload_n dX12_judged_113 3 rfl ?_
      have e9 : v20 = v16 := hv20.trans (((if_pos h21)).trans (if_neg h22))
      subst e9
      exact hJv20
    · refine ev_iload dX12_judged_108 5 rfl ?_
      refine ev_goto 114 dX12_judged_110 (by decide) ?_
      have e9 : v20 = v18 := hv20.trans (((if_pos h21)).trans (if_pos h22))
      subst e9
      exact hJv20
def fX12_judged_b35 (what : Int) (v4 : Int) (v5 : Int) (v6 : Int) (v7 : Int) (μ : Mem) : Option ((Int × Int × Int × Int × Mem) ⊕ (Int × Int × Int × Mem)) :=
  if w32 v7 < w32 (μ 84 0) then
    gd (0 ≤ w32 (1 + v7) ∧ w32 (1 + v7) < 82) <|
    lt (μ 84 (w32 (1 + v7)).toNat) fun v10 =>
    (fX12_mayTurn v10 μ).bind fun q11 =>
    if q11.1 = true then
      (fX12_costOf v10 q11.2).bind fun q23 =>
      lt (v6 + q23.1) fun v24 =>
      (fX12_turns v10 q23.2).bind fun μ25 =>
      fX12_judged_j97 what v4 v5 v24 v7 μ25
    else
      lt (if w32 v4 < 0 then
          v7
        else
          v4) fun v13 =>
      fX12_judged_j97 what v13 v5 v6 v7 q11.2
  else
    some (.inr (v4, v5, v6, μ))
set_option maxRecDepth 4000 in
theorem tX12_judged_b35 (hS : Sd M K P L) (hc : CIn P 75 92) (what : Int) (v4 : Int) (v5 : Int) (v6 : Int) (v7 : Int) (μ : Mem)  {o : (Int × Int × Int × Int × Mem) ⊕ (Int × Int × Int × Mem)} (hf : fX12_judged_b35 what v4 v5 v6 v7 μ = some o) (hr : (Sum.elim (fun s : Int × Int × Int × Int × Mem => Ev l D cy g K yX12_judged cX12_judged 7 (some .int) (rmd 5 0 0) (MX D cy g K (rmd 5 0 0) Φ) 0 0 M x (L s.2.2.2.2) 35 [(0, vr g 75), (1, vi what), (2, vi s.1), (3, vi s.2.1), (4, vi s.2.2.1), (5, vi s.2.2.2.1)] []) (fun e : Int × Int × Int × Mem => Ev l D cy g K yX12_judged cX12_judged 7 (some .int) (rmd 5 0 0) (MX D cy g K (rmd 5 0 0) Φ) 0 0 M x (L e.2.2.2) 121 [(1, vi what), (2, vi e.1), (3, vi e.2.1), (4, vi e.2.2.1)] [])) o) : Ev l D cy g K yX12_judged cX12_judged 7 (some .int) (rmd 5 0 0) (MX D cy g K (rmd 5 0 0) Φ) 0 0 M x (L μ) 35 [(0, vr g 75), (1, vi what), (2, vi v4), (3, vi v5), (4, vi v6), (5, vi v7)] [] := by
  unfold fX12_judged_b35 at hf
  refine ev_iload dX12_judged_35 5 rfl ?_
  refine ev_aload_n dX12_judged_37 0 rfl ?_
  refine ev_getK 14 dX12_judged_38 (hS.lt (hc 75 rfl)) rfl (hS.K1 (hc 75 rfl) rfl) ciX12 (by decide) rfl flX12_82 ?_
  refine ev_iconst dX12_judged_41 ?_
  refine ev_iald dX12_judged_42 (hS.lt (hc 84 rfl)) rfl (hS.mem _ (hc 84 rfl)) ⟨by decide, by decide⟩ ?_
  refine ev_rn (w := vi (μ 84 0)) (by rw [show (w32 0).toNat = 0 from by decide]) ?_
  refine ev_icmp_ge 121 dX12_judged_43 (by decide) (fun h8 => ?_) (fun h8 => ?_)
  · rw [if_neg h8] at hf
    obtain rfl := Option.some.inj hf
    refine ev_sub [1, 2, 3, 4] rfl ?_
    exact hr
  · rw [if_pos h8] at hf
    refine ev_aload_n dX12_judged_46 0 rfl ?_
    refine ev_getK 14 dX12_judged_47 (hS.lt (hc 75 rfl)) rfl (hS.K1 (hc 75 rfl) rfl) ciX12 (by decide) rfl flX12_82 ?_
    refine ev_iconst dX12_judged_50 ?_
    refine ev_iload dX12_judged_51 5 rfl ?_
    refine ev_iadd dX12_judged_53 ?_
    obtain ⟨g9, hf⟩ := gd_elim hf
    refine ev_iald dX12_judged_54 (hS.lt (hc 84 rfl)) rfl (hS.mem _ (hc 84 rfl)) g9 ?_
    obtain ⟨v10, hv10, hf⟩ := lt_elim hf
    refine ev_rni hv10 ?_
    refine ev_istore (al2 := [(6, vi v10), (0, vr g 75), (1, vi what), (2, vi v4), (3, vi v5), (4, vi v6), (5, vi v7)]) dX12_judged_55 (by decide) rfl ?_
    refine ev_aload_n dX12_judged_57 1 rfl ?_
    refine ev_iload dX12_judged_58 0 rfl ?_
    obtain ⟨q11, hq11, hf⟩ := Option.bind_eq_some_iff.mp hf
    refine cl_V1 (As := [vi v10]) (st := []) miX12_mayTurn (tX12_mayTurn hS (hc.w rfl rfl) v10 μ hq11) dX12_judged_60 lkX12_277 inX12_mayTurn rfl (hS.lt (hc 75 rfl)) rfl ⟨rfl, rfl⟩ ⟨⟨Nat.le_of_ble_eq_true rfl, Nat.le_of_ble_eq_true rfl⟩, Nat.zero_le _, Nat.zero_le _⟩ (Nat.le_of_ble_eq_true rfl) ?_
    refine ev_ifb_eq 86 dX12_judged_63 (by decide) (fun h12 => ?_) (fun h12 => ?_)
    · rw [if_neg h12] at hf
      refine ev_iload_n dX12_judged_86 3 rfl ?_
      obtain ⟨v13, hv13, hf⟩ := lt_elim hf
      have hJv13 : Ev l D cy g K yX12_judged cX12_judged 7 (some .int) (rmd 5 0 0) (MX D cy g K (rmd 5 0 0) Φ) 0 0 M x (L q11.2) 96 [(6, vi v10), (0, vr g 75), (1, vi what), (2, vi v4), (3, vi v5), (4, vi v6), (5, vi v7)] [vi v13] := by
        refine ev_istore_n (al2 := [(2, vi v13), (6, vi v10), (0, vr g 75), (1, vi what), (3, vi v5), (4, vi v6), (5, vi v7)]) dX12_judged_96 2 rfl (by decide) rfl ?_
        refine ev_sub [2, 3, 0, 4, 5, 6] rfl ?_
        exact tX12_judged_j97 hS hc what v13 v5 v6 v7 q11.2 hf hr
      refine ev_if_ge 95 dX12_judged_87 (by decide) (fun h14 => ?_) (fun h14 => ?_)
      · refine ev_iload_n dX12_judged_95 3 rfl ?_
        have e9 : v13 = v4 := hv13.trans ((if_neg h14))
        subst e9
        exact hJv13
      · refine ev_iload dX12_judged_90 6 rfl ?_
        refine ev_goto 96 dX12_judged_92 (by decide) ?_
        have e9 : v13 = v7 := hv13.trans ((if_pos h14))
        subst e9
        exact hJv13
    · rw [if_pos h12] at hf
      refine ev_iload dX12_judged_66 5 rfl ?_
      refine ev_aload_n dX12_judged_68 1 rfl ?_
      refine ev_iload dX12_judged_69 0 rfl ?_
      obtain ⟨q23, hq23, hf⟩ := Option.bind_eq_some_iff.mp hf
      refine cl_V1 (As := [vi v10]) (st := [vi v6]) miX12_costOf (tX12_costOf hS (hc.w rfl rfl) v10 q11.2 hq23) dX12_judged_71 lkX12_283 inX12_costOf rfl (hS.lt (hc 75 rfl)) rfl ⟨rfl, rfl⟩ ⟨⟨Nat.le_of_ble_eq_true rfl, Nat.le_of_ble_eq_true rfl⟩, Nat.zero_le _, Nat.zero_le _⟩ (Nat.le_of_ble_eq_true rfl) ?_
      refine ev_iadd dX12_judged_74 ?_
      obtain ⟨v24, hv24, hf⟩ := lt_elim hf
      refine ev_rni hv24 ?_
      refine ev_istore (al2 := [(4, vi v24), (6, vi v10), (0, vr g 75), (1, vi what), (2, vi v4), (3, vi v5), (5, vi v7)]) dX12_judged_75 (by decide) rfl ?_
      refine ev_aload_n dX12_judged_77 2 rfl ?_
      refine ev_iload dX12_judged_78 1 rfl ?_
      obtain ⟨μ25, hμ25, hf⟩ := Option.bind_eq_some_iff.mp hf
      refine cl_V0 (As := [vi v10]) (st := []) miX12_turns (tX12_turns hS (hc.w rfl rfl) v10 q23.2 hμ25) dX12_judged_80 lkX12_286 inX12_turns rfl (hS.lt (hc 75 rfl)) rfl ⟨rfl, rfl⟩ ⟨⟨Nat.le_of_ble_eq_true rfl, Nat.le_of_ble_eq_true rfl⟩, Nat.zero_le _, Nat.zero_le _⟩ (Nat.le_of_ble_eq_true rfl) ?_
      refine ev_goto 97 dX12_judged_83 (by decide) ?_
      refine ev_sub [2, 3, 4, 5, 0, 6] rfl ?_
      exact tX12_judged_j97 hS hc what v4 v5 v24 v7 μ25 hf hr
def fX12_judged (what : Int) (μ : Mem) : Option (Int × Mem) :=
  lt (upd2 μ 75 0 0) fun μ1 =>
  if (fX12_within what 0 2) = true then
    (fX12_lays (μ1 75 22) μ1).bind fun μ3 =>
    (loopN (fun s => fX12_judged_b35 what s.1 s.2.1 s.2.2.1 s.2.2.2.1 s.2.2.2.2) FU ((-1), (-1), 0, 0, μ3)).bind fun q30 =>
    lt (if w32 what = 0 then
        q30.1
      else
        if w32 what = w32 1 then
          q30.2.1
        else
          q30.2.2.1) fun v31 =>
    some ((v31, q30.2.2.2))
  else
    some (((-2), μ1))
set_option maxRecDepth 4000 in
theorem eX12_judged (hS : Sd M K P L) (hc : CIn P 75 92) (what : Int) (μ : Mem)  {o : Int × Mem} (hf : fX12_judged what μ = some o) (hr : (fun o : Int × Mem => Φ (some (vi o.1)) M x (L o.2)) o) : Ev l D cy g K yX12_judged cX12_judged 7 (some .int) (rmd 5 0 0) (MX D cy g K (rmd 5 0 0) Φ) 0 0 M x (L μ) 0 [(0, vr g 75), (1, vi what)] [] := by
  unfold fX12_judged at hf
  refine ev_aload_n dX12_judged_0 0 rfl ?_
  refine ev_iconst dX12_judged_1 ?_
  obtain ⟨μ1, hμ1, hf⟩ := lt_elim hf
  refine ev_putI 0 dX12_judged_2 (hS.lt (hc 75 rfl)) rfl ciX12 (by decide) (Or.inl rfl) rfl rfl flX12_1 (hS.up (hc 75 rfl) hμ1) ?_
  refine ev_iload_n dX12_judged_5 1 rfl ?_
  refine ev_iconst dX12_judged_6 ?_
  refine ev_iconst dX12_judged_7 ?_
  refine cl_S1 (As := [vi what, vi 0, vi 2]) (st := []) miX12_within (tX12_within what 0 2 (L μ1) (o := (fX12_within what 0 2)) rfl) dX12_judged_8 lkX12_270 stX12_within rfl ⟨⟨Nat.le_of_ble_eq_true rfl, Nat.le_of_ble_eq_true rfl⟩, Nat.zero_le _, Nat.zero_le _⟩ (Nat.le_of_ble_eq_true rfl) ?_
  refine ev_ifb_ne 17 dX12_judged_11 (by decide) (fun h2 => ?_) (fun h2 => ?_)
  · rw [if_pos h2] at hf
    refine ev_aload_n dX12_judged_17 0 rfl ?_
    refine ev_aload_n dX12_judged_18 0 rfl ?_
    refine ev_getI 22 dX12_judged_19 (hS.lt (hc 75 rfl)) rfl (hS.mem _ (hc 75 rfl)) ciX12 (by decide) rfl flX12_245 ?_
    obtain ⟨μ3, hμ3, hf⟩ := Option.bind_eq_some_iff.mp hf
    refine cl_V0 (As := [vi (μ1 75 22)]) (st := []) miX12_lays (tX12_lays hS (hc.w rfl rfl) (μ1 75 22) μ1 hμ3) dX12_judged_22 lkX12_274 inX12_lays rfl (hS.lt (hc 75 rfl)) rfl ⟨rfl, rfl⟩ ⟨⟨Nat.le_of_ble_eq_true rfl, Nat.le_of_ble_eq_true rfl⟩, Nat.zero_le _, Nat.zero_le _⟩ (Nat.le_of_ble_eq_true rfl) ?_
    refine ev_iconst dX12_judged_25 ?_
    refine ev_istore_n (al2 := [(2, vi (-1)), (0, vr g 75), (1, vi what)]) dX12_judged_26 2 rfl (by decide) rfl ?_
    refine ev_iconst dX12_judged_27 ?_
    refine ev_istore_n (al2 := [(3, vi (-1)), (2, vi (-1)), (0, vr g 75), (1, vi what)]) dX12_judged_28 3 rfl (by decide) rfl ?_
    refine ev_iconst dX12_judged_29 ?_
    refine ev_istore (al2 := [(4, vi 0), (3, vi (-1)), (2, vi (-1)), (0, vr g 75), (1, vi what)]) dX12_judged_30 (by decide) rfl ?_
    refine ev_iconst dX12_judged_32 ?_
    refine ev_istore (al2 := [(5, vi 0), (4, vi 0), (3, vi (-1)), (2, vi (-1)), (0, vr g 75), (1, vi what)]) dX12_judged_33 (by decide) rfl ?_
    obtain ⟨q30, hq30, hf⟩ := Option.bind_eq_some_iff.mp hf
    refine ev_sub [4, 5, 3, 2, 1, 0] rfl ?_
    refine loop_ev (H := (fun s : Int × Int × Int × Int × Mem => Ev l D cy g K yX12_judged cX12_judged 7 (some .int) (rmd 5 0 0) (MX D cy g K (rmd 5 0 0) Φ) 0 0 M x (L s.2.2.2.2) 35 [(0, vr g 75), (1, vi what), (2, vi s.1), (3, vi s.2.1), (4, vi s.2.2.1), (5, vi s.2.2.2.1)] [])) (Hx := (fun e : Int × Int × Int × Mem => Ev l D cy g K yX12_judged cX12_judged 7 (some .int) (rmd 5 0 0) (MX D cy g K (rmd 5 0 0) Φ) 0 0 M x (L e.2.2.2) 121 [(1, vi what), (2, vi e.1), (3, vi e.2.1), (4, vi e.2.2.1)] [])) (fun s o hb hr => tX12_judged_b35 hS hc what s.1 s.2.1 s.2.2.1 s.2.2.2.1 s.2.2.2.2 hb hr) FU _ _ hq30 ?_
    show Ev l D cy g K yX12_judged cX12_judged 7 (some .int) (rmd 5 0 0) (MX D cy g K (rmd 5 0 0) Φ) 0 0 M x (L q30.2.2.2) 121 [(1, vi what), (2, vi q30.1), (3, vi q30.2.1), (4, vi q30.2.2.1)] []
    refine ev_iload_n dX12_judged_121 0 rfl ?_
    obtain ⟨v31, hv31, hf⟩ := lt_elim hf
    have hJv31 : Ev l D cy g K yX12_judged cX12_judged 7 (some .int) (rmd 5 0 0) (MX D cy g K (rmd 5 0 0) Φ) 0 0 M x (L q30.2.2.2) 140 [(1, vi what), (2, vi q30.1), (3, vi q30.2.1), (4, vi q30.2.2.1)] [vi v31] := by
      obtain rfl := Option.some.inj hf
      exact ev_iret dX12_judged_140 rfl ⟨Nat.zero_le _, Nat.zero_le _⟩ hr
    refine ev_if_ne 129 dX12_judged_122 (by decide) (fun h32 => ?_) (fun h32 => ?_)
    · refine ev_iload_n dX12_judged_129 0 rfl ?_
      refine ev_iconst dX12_judged_130 ?_
      refine ev_icmp_ne 138 dX12_judged_131 (by decide) (fun h33 => ?_) (fun h33 => ?_)
      · refine ev_iload dX12_judged_138 3 rfl ?_
        have e9 : v31 = q30.2.2.1 := hv31.trans (((if_neg h32)).trans (if_neg h33))
        subst e9
        exact hJv31
      · refine ev_iload_n dX12_judged_134 2 rfl ?_
        refine ev_goto 140 dX12_judged_135 (by decide) ?_
        have e9 : v31 = q30.2.1 := hv31.trans (((if_neg h32)).trans (if_pos h33))
        subst e9
        exact hJv31
    · refine ev_iload_n dX12_judged_125 1 rfl ?_
      refine ev_goto 140 dX12_judged_126 (by decide) ?_
      have e9 : v31 = q30.1 := hv31.trans ((if_pos h32))
      subst e9
      exact hJv31
  · rw [if_neg h2] at hf
    refine ev_bipush dX12_judged_14 (by decide) ?_
    obtain rfl := Option.some.inj hf
    exact ev_iret dX12_judged_16 rfl ⟨Nat.zero_le _, Nat.zero_le _⟩ hr
theorem tX12_judged (hS : Sd M K P L) (hc : CIn P 75 92) (what : Int) (μ : Mem) {o : Int × Mem} (hf : fX12_judged what μ = some o) : Cn l D cy g K K yX12_judged cX12_judged 7 (some .int) (rmd 5 0 0) [vr g 75, vi what] M x (L μ) (PE (some (vi o.1)) M x (L o.2)) :=
 Cn.of (by decide) (Nat.le_of_ble_eq_true rfl) (eX12_judged hS hc what μ hf (PE_i _ _ _ _))
def fX12_leadsFrom_b2 (s0 : Int) (but : Int) (v1 : Int) (μ : Mem) : Option ((Int × Mem) ⊕ (Mem)) :=
  if w32 v1 ≤ w32 (μ 81 0) then
    gd (0 ≤ w32 v1 ∧ w32 v1 < 6) <|
    lt (upd2 μ 93 ((w32 v1).toNat) (-1)) fun μ4 =>
    (fX12_lays s0 μ4).bind fun μ5 =>
    (fX12_costOf v1 μ5).bind fun q6 =>
    gd (0 ≤ w32 v1 ∧ w32 v1 < 6) <|
    lt (upd2 q6.2 94 ((w32 v1).toNat) q6.1) fun μ8 =>
    if w32 v1 = w32 but then
      some (.inl ((v1 + 1), μ8))
    else
      (fX12_mayTurn v1 μ8).bind fun q10 =>
      if q10.1 = true then
        (fX12_turns v1 q10.2).bind fun μ12 =>
        (fX12_numberNow μ12).bind fun v13 =>
        gd (0 ≤ w32 v1 ∧ w32 v1 < 6) <|
        lt (upd2 μ12 93 ((w32 v1).toNat) v13) fun μ15 =>
        some (.inl ((v1 + 1), μ15))
      else
        some (.inl ((v1 + 1), q10.2))
  else
    some (.inr μ)
set_option maxRecDepth 4000 in
theorem tX12_leadsFrom_b2 (hS : Sd M K P L) (hc : CIn P 75 95) (s0 : Int) (but : Int) (v1 : Int) (μ : Mem)  {o : (Int × Mem) ⊕ (Mem)} (hf : fX12_leadsFrom_b2 s0 but v1 μ = some o) (hr : (Sum.elim (fun s : Int × Mem => Ev l D cy g K yX12_leadsFrom cX12_leadsFrom 4 none (rmd 5 0 0) (MX D cy g K (rmd 5 0 0) Φ) 0 0 M x (L s.2) 2 [(0, vr g 75), (1, vi s0), (2, vi but), (3, vi s.1)] []) (fun e : Mem => Ev l D cy g K yX12_leadsFrom cX12_leadsFrom 4 none (rmd 5 0 0) (MX D cy g K (rmd 5 0 0) Φ) 0 0 M x (L e) 67 [] [])) o) : Ev l D cy g K yX12_leadsFrom cX12_leadsFrom 4 none (rmd 5 0 0) (MX D cy g K (rmd 5 0 0) Φ) 0 0 M x (L μ) 2 [(0, vr g 75), (1, vi s0), (2, vi but), (3, vi v1)] [] := by
  unfold fX12_leadsFrom_b2 at hf
  refine ev_iload_n dX12_leadsFrom_2 3 rfl ?_
  refine ev_aload_n dX12_leadsFrom_3 0 rfl ?_
  refine cl_V1 (As := []) (st := [vi v1]) miX12_cakes (tX12_cakes hS (hc.w rfl rfl) μ (o := (μ 81 0)) rfl) dX12_leadsFrom_4 lkX12_209 inX12_cakes rfl (hS.lt (hc 75 rfl)) rfl ⟨rfl, rfl⟩ ⟨⟨Nat.le_of_ble_eq_true rfl, Nat.le_of_ble_eq_true rfl⟩, Nat.zero_le _, Nat.zero_le _⟩ (Nat.le_of_ble_eq_true rfl) ?_
  refine ev_icmp_gt 67 dX12_leadsFrom_7 (by decide) (fun h2 => ?_) (fun h2 => ?_)
  · rw [if_neg h2] at hf
    obtain rfl := Option.some.inj hf
    refine ev_sub [] rfl ?_
    exact hr
  · rw [if_pos h2] at hf
    refine ev_aload_n dX12_leadsFrom_10 0 rfl ?_
    refine ev_getK 27 dX12_leadsFrom_11 (hS.lt (hc 75 rfl)) rfl (hS.K1 (hc 75 rfl) rfl) ciX12 (by decide) rfl flX12_110 ?_
    refine ev_iload_n dX12_leadsFrom_14 3 rfl ?_
    refine ev_iconst dX12_leadsFrom_15 ?_
    obtain ⟨g3, hf⟩ := gd_elim hf
    obtain ⟨μ4, hμ4, hf⟩ := lt_elim hf
    refine ev_iast dX12_leadsFrom_16 (hS.lt (hc 93 rfl)) rfl g3 (hS.up (hc 93 rfl) hμ4) ?_
    refine ev_aload_n dX12_leadsFrom_17 0 rfl ?_
    refine ev_iload_n dX12_leadsFrom_18 1 rfl ?_
    obtain ⟨μ5, hμ5, hf⟩ := Option.bind_eq_some_iff.mp hf
    refine cl_V0 (As := [vi s0]) (st := []) miX12_lays (tX12_lays hS (hc.w rfl rfl) s0 μ4 hμ5) dX12_leadsFrom_19 lkX12_274 inX12_lays rfl (hS.lt (hc 75 rfl)) rfl ⟨rfl, rfl⟩ ⟨⟨Nat.le_of_ble_eq_true rfl, Nat.le_of_ble_eq_true rfl⟩, Nat.zero_le _, Nat.zero_le _⟩ (Nat.le_of_ble_eq_true rfl) ?_
    refine ev_aload_n dX12_leadsFrom_22 0 rfl ?_
    refine ev_getK 28 dX12_leadsFrom_23 (hS.lt (hc 75 rfl)) rfl (hS.K1 (hc 75 rfl) rfl) ciX12 (by decide) rfl flX12_113 ?_
    refine ev_iload_n dX12_leadsFrom_26 3 rfl ?_
    refine ev_aload_n dX12_leadsFrom_27 0 rfl ?_
    refine ev_iload_n dX12_leadsFrom_28 3 rfl ?_
    obtain ⟨q6, hq6, hf⟩ := Option.bind_eq_some_iff.mp hf
    refine cl_V1 (As := [vi v1]) (st := [vi v1, vr g 94]) miX12_costOf (tX12_costOf hS (hc.w rfl rfl) v1 μ5 hq6) dX12_leadsFrom_29 lkX12_283 inX12_costOf rfl (hS.lt (hc 75 rfl)) rfl ⟨rfl, rfl⟩ ⟨⟨Nat.le_of_ble_eq_true rfl, Nat.le_of_ble_eq_true rfl⟩, Nat.zero_le _, Nat.zero_le _⟩ (Nat.le_of_ble_eq_true rfl) ?_
    obtain ⟨g7, hf⟩ := gd_elim hf
    obtain ⟨μ8, hμ8, hf⟩ := lt_elim hf
    refine ev_iast dX12_leadsFrom_32 (hS.lt (hc 94 rfl)) rfl g7 (hS.up (hc 94 rfl) hμ8) ?_
    refine ev_iload_n dX12_leadsFrom_33 3 rfl ?_
    refine ev_iload_n dX12_leadsFrom_34 2 rfl ?_
    refine ev_icmp_eq 61 dX12_leadsFrom_35 (by decide) (fun h9 => ?_) (fun h9 => ?_)
    · rw [if_pos h9] at hf
      refine ev_iinc (al2 := [(3, vi (v1 + 1)), (0, vr g 75), (1, vi s0), (2, vi but)]) dX12_leadsFrom_61 3 rfl (by decide) rfl ?_
      refine ev_goto 2 dX12_leadsFrom_64 (by decide) ?_
      obtain rfl := Option.some.inj hf
      refine ev_sub [1, 2, 3, 0] rfl ?_
      exact hr
    · rw [if_neg h9] at hf
      refine ev_aload_n dX12_leadsFrom_38 0 rfl ?_
      refine ev_iload_n dX12_leadsFrom_39 3 rfl ?_
      obtain ⟨q10, hq10, hf⟩ := Option.bind_eq_some_iff.mp hf
      refine cl_V1 (As := [vi v1]) (st := []) miX12_mayTurn (tX12_mayTurn hS (hc.w rfl rfl) v1 μ8 hq10) dX12_leadsFrom_40 lkX12_277 inX12_mayTurn rfl (hS.lt (hc 75 rfl)) rfl ⟨rfl, rfl⟩ ⟨⟨Nat.le_of_ble_eq_true rfl, Nat.le_of_ble_eq_true rfl⟩, Nat.zero_le _, Nat.zero_le _⟩ (Nat.le_of_ble_eq_true rfl) ?_
      refine ev_ifb_eq 61 dX12_leadsFrom_43 (by decide) (fun h11 => ?_) (fun h11 => ?_)
      · rw [if_neg h11] at hf
        refine ev_iinc (al2 := [(3, vi (v1 + 1)), (0, vr g 75), (1, vi s0), (2, vi but)]) dX12_leadsFrom_61 3 rfl (by decide) rfl ?_
        refine ev_goto 2 dX12_leadsFrom_64 (by decide) ?_
        obtain rfl := Option.some.inj hf
        refine ev_sub [1, 2, 3, 0] rfl ?_
        exact hr
      · rw [if_pos h11] at hf
        refine ev_aload_n dX12_leadsFrom_46 0 rfl ?_
        refine ev_iload_n dX12_leadsFrom_47 3 rfl ?_
        obtain ⟨μ12, hμ12, hf⟩ := Option.bind_eq_some_iff.mp hf
        refine cl_V0 (As := [vi v1]) (st := []) miX12_turns (tX12_turns hS (hc.w rfl rfl) v1 q10.2 hμ12) dX12_leadsFrom_48 lkX12_286 inX12_turns rfl (hS.lt (hc 75 rfl)) rfl ⟨rfl, rfl⟩ ⟨⟨Nat.le_of_ble_eq_true rfl, Nat.le_of_ble_eq_true rfl⟩, Nat.zero_le _, Nat.zero_le _⟩ (Nat.le_of_ble_eq_true rfl) ?_
        refine ev_aload_n dX12_leadsFrom_51 0 rfl ?_
        refine ev_getK 27 dX12_leadsFrom_52 (hS.lt (hc 75 rfl)) rfl (hS.K1 (hc 75 rfl) rfl) ciX12 (by decide) rfl flX12_110 ?_
        refine ev_iload_n dX12_leadsFrom_55 3 rfl ?_
        refine ev_aload_n dX12_leadsFrom_56 0 rfl ?_
        obtain ⟨v13, hv13, hf⟩ := Option.bind_eq_some_iff.mp hf
        refine cl_V1 (As := []) (st := [vi v1, vr g 93]) miX12_numberNow (tX12_numberNow hS (hc.w rfl rfl) μ12 hv13) dX12_leadsFrom_57 lkX12_242 inX12_numberNow rfl (hS.lt (hc 75 rfl)) rfl ⟨rfl, rfl⟩ ⟨⟨Nat.le_of_ble_eq_true rfl, Nat.le_of_ble_eq_true rfl⟩, Nat.zero_le _, Nat.zero_le _⟩ (Nat.le_of_ble_eq_true rfl) ?_
        obtain ⟨g14, hf⟩ := gd_elim hf
        obtain ⟨μ15, hμ15, hf⟩ := lt_elim hf
        refine ev_iast dX12_leadsFrom_60 (hS.lt (hc 93 rfl)) rfl g14 (hS.up (hc 93 rfl) hμ15) ?_
        refine ev_iinc (al2 := [(3, vi (v1 + 1)), (0, vr g 75), (1, vi s0), (2, vi but)]) dX12_leadsFrom_61 3 rfl (by decide) rfl ?_
        refine ev_goto 2 dX12_leadsFrom_64 (by decide) ?_
        obtain rfl := Option.some.inj hf
        refine ev_sub [1, 2, 3, 0] rfl ?_
        exact hr
def fX12_leadsFrom (s0 : Int) (but : Int) (μ : Mem) : Option (Mem) :=
  (loopN (fun s => fX12_leadsFrom_b2 s0 but s.1 s.2) FU (1, μ)).bind fun q16 =>
  some (q16)
set_option maxRecDepth 4000 in
theorem eX12_leadsFrom (hS : Sd M K P L) (hc : CIn P 75 95) (s0 : Int) (but : Int) (μ : Mem)  {o : Mem} (hf : fX12_leadsFrom s0 but μ = some o) (hr : (fun o : Mem => Φ none M x (L o)) o) : Ev l D cy g K yX12_leadsFrom cX12_leadsFrom 4 none (rmd 5 0 0) (MX D cy g K (rmd 5 0 0) Φ) 0 0 M x (L μ) 0 [(0, vr g 75), (1, vi s0), (2, vi but)] [] := by
  unfold fX12_leadsFrom at hf
  refine ev_iconst dX12_leadsFrom_0 ?_
  refine ev_istore_n (al2 := [(3, vi 1), (0, vr g 75), (1, vi s0), (2, vi but)]) dX12_leadsFrom_1 3 rfl (by decide) rfl ?_
  obtain ⟨q16, hq16, hf⟩ := Option.bind_eq_some_iff.mp hf
  refine ev_sub [1, 2, 3, 0] rfl ?_
  refine loop_ev (H := (fun s : Int × Mem => Ev l D cy g K yX12_leadsFrom cX12_leadsFrom 4 none (rmd 5 0 0) (MX D cy g K (rmd 5 0 0) Φ) 0 0 M x (L s.2) 2 [(0, vr g 75), (1, vi s0), (2, vi but), (3, vi s.1)] [])) (Hx := (fun e : Mem => Ev l D cy g K yX12_leadsFrom cX12_leadsFrom 4 none (rmd 5 0 0) (MX D cy g K (rmd 5 0 0) Φ) 0 0 M x (L e) 67 [] [])) (fun s o hb hr => tX12_leadsFrom_b2 hS hc s0 but s.1 s.2 hb hr) FU _ _ hq16 ?_
  show Ev l D cy g K yX12_leadsFrom cX12_leadsFrom 4 none (rmd 5 0 0) (MX D cy g K (rmd 5 0 0) Φ) 0 0 M x (L q16) 67 [] []
  obtain rfl := Option.some.inj hf
  exact ev_vret dX12_leadsFrom_67 rfl ⟨Nat.zero_le _, Nat.zero_le _⟩ hr
theorem tX12_leadsFrom (hS : Sd M K P L) (hc : CIn P 75 95) (s0 : Int) (but : Int) (μ : Mem) {o : Mem} (hf : fX12_leadsFrom s0 but μ = some o) : Cn l D cy g K K yX12_leadsFrom cX12_leadsFrom 4 none (rmd 5 0 0) [vr g 75, vi s0, vi but] M x (L μ) (PE none M x (L o)) :=
 Cn.of (by decide) (Nat.le_of_ble_eq_true rfl) (eX12_leadsFrom hS hc s0 but μ hf (PE_i _ _ _ _))
def fX12_partOf (s0 : Int) (μ : Mem) : Option (Int) :=
  gd (0 ≤ w32 s0 ∧ w32 s0 < 3840) <|
  some ((l_2i (l_rem (μ 92 (w32 s0).toNat) 4096)))
set_option maxRecDepth 4000 in
theorem eX12_partOf (hS : Sd M K P L) (hc : CIn P 75 93) (s0 : Int) (μ : Mem)  {o : Int} (hf : fX12_partOf s0 μ = some o) (hr : (fun o : Int => Φ (some (vi o)) M x (L μ)) o) : Ev l D cy g K yX12_partOf cX12_partOf 2 (some .int) (rmd 1 0 0) (MX D cy g K (rmd 1 0 0) Φ) 0 0 M x (L μ) 0 [(0, vr g 75), (1, vi s0)] [] := by
  unfold fX12_partOf at hf
  refine ev_aload_n dX12_partOf_0 0 rfl ?_
  refine ev_getK 25 dX12_partOf_1 (hS.lt (hc 75 rfl)) rfl (hS.K1 (hc 75 rfl) rfl) ciX12 (by decide) rfl flX12_107 ?_
  refine ev_iload_n dX12_partOf_4 1 rfl ?_
  obtain ⟨g1, hf⟩ := gd_elim hf
  refine ev_lald dX12_partOf_5 (hS.lt (hc 92 rfl)) rfl (hS.mem _ (hc 92 rfl)) g1 ?_
  refine ev_ldc2 4096 dX12_partOf_6 klX12_292 (by decide) ?_
  refine ev_lrem dX12_partOf_9 (by decide) ?_
  refine ev_l2i dX12_partOf_10 ?_
  obtain rfl := Option.some.inj hf
  exact ev_iret dX12_partOf_11 rfl ⟨Nat.zero_le _, Nat.zero_le _⟩ hr
theorem tX12_partOf (hS : Sd M K P L) (hc : CIn P 75 93) (s0 : Int) (μ : Mem) {o : Int} (hf : fX12_partOf s0 μ = some o) : Cn l D cy g K K yX12_partOf cX12_partOf 2 (some .int) (rmd 1 0 0) [vr g 75, vi s0] M x (L μ) (PE (some (vi o)) M x (L μ)) :=
 Cn.of (by decide) (Nat.le_of_ble_eq_true rfl) (eX12_partOf hS hc s0 μ hf (PE_i _ _ _ _))
def fX12_waysOn_j32 (s0 : Int) (n0 : Int) (ways : Int) (v5 : Bool) (μ : Mem) : Option (Bool × Mem) :=
  gd (0 ≤ w32 s0 ∧ w32 s0 < 3840) <|
  lt (ways + (l_div (μ 92 (w32 s0).toNat) 4096)) fun v7 =>
  lt (if w64 v7 ≤ w64 2000000000 then
      v7
    else
      2000000000) fun v8 =>
  gd (0 ≤ w32 s0 ∧ w32 s0 < 3840) <|
  lt (upd2 μ 92 ((w32 s0).toNat) ((w32 n0) + (4096 * v8))) fun μ11 =>
  some ((v5, μ11))
set_option maxRecDepth 4000 in
theorem tX12_waysOn_j32 (hS : Sd M K P L) (hc : CIn P 75 93) (s0 : Int) (n0 : Int) (ways : Int) (v5 : Bool) (μ : Mem)  {o : Bool × Mem} (hf : fX12_waysOn_j32 s0 n0 ways v5 μ = some o) (hr : (fun o : Bool × Mem => Φ (some (vb o.1)) M x (L o.2)) o) : Ev l D cy g K yX12_waysOn cX12_waysOn 8 (some .boolean) (rmd 2 0 0) (MX D cy g K (rmd 2 0 0) Φ) 0 0 M x (L μ) 32 [(0, vr g 75), (1, vi s0), (2, vi n0), (3, vl ways), (5, vb v5)] [] := by
  unfold fX12_waysOn_j32 at hf
  refine ev_lload_n dX12_waysOn_32 3 rfl ?_
  refine ev_aload_n dX12_waysOn_33 0 rfl ?_
  refine ev_getK 25 dX12_waysOn_34 (hS.lt (hc 75 rfl)) rfl (hS.K1 (hc 75 rfl) rfl) ciX12 (by decide) rfl flX12_107 ?_
  refine ev_iload_n dX12_waysOn_37 1 rfl ?_
  obtain ⟨g6, hf⟩ := gd_elim hf
  refine ev_lald dX12_waysOn_38 (hS.lt (hc 92 rfl)) rfl (hS.mem _ (hc 92 rfl)) g6 ?_
  refine ev_ldc2 4096 dX12_waysOn_39 klX12_292 (by decide) ?_
  refine ev_ldiv dX12_waysOn_42 (by decide) ?_
  refine ev_ladd dX12_waysOn_43 ?_
  obtain ⟨v7, hv7, hf⟩ := lt_elim hf
  refine ev_rnl hv7 ?_
  refine ev_lstore (al2 := [(6, vl v7), (0, vr g 75), (1, vi s0), (2, vi n0), (3, vl ways), (5, vb v5)]) dX12_waysOn_44 (by decide) rfl ?_
  refine ev_aload_n dX12_waysOn_46 1 rfl ?_
  refine ev_getK 25 dX12_waysOn_47 (hS.lt (hc 75 rfl)) rfl (hS.K1 (hc 75 rfl) rfl) ciX12 (by decide) rfl flX12_107 ?_
  refine ev_iload_n dX12_waysOn_50 2 rfl ?_
  refine ev_iload_n dX12_waysOn_51 3 rfl ?_
  refine ev_i2l dX12_waysOn_52 ?_
  refine ev_ldc2 4096 dX12_waysOn_53 klX12_292 (by decide) ?_
  refine ev_lload dX12_waysOn_56 0 rfl ?_
  refine ev_ldc2 2000000000 dX12_waysOn_58 klX12_309 (by decide) ?_
  obtain ⟨v8, hv8, hf⟩ := lt_elim hf
  have hJv8 : Ev l D cy g K yX12_waysOn cX12_waysOn 8 (some .boolean) (rmd 2 0 0) (MX D cy g K (rmd 2 0 0) Φ) 0 0 M x (L μ) 73 [(6, vl v7), (0, vr g 75), (1, vi s0), (2, vi n0), (3, vl ways), (5, vb v5)] [vl v8, vl 4096, vl (w32 n0), vi s0, vr g 92] := by
    refine ev_lmul dX12_waysOn_73 ?_
    refine ev_ladd dX12_waysOn_74 ?_
    obtain ⟨g10, hf⟩ := gd_elim hf
    obtain ⟨μ11, hμ11, hf⟩ := lt_elim hf
    refine ev_last dX12_waysOn_75 (hS.lt (hc 92 rfl)) rfl g10 (hS.up (hc 92 rfl) hμ11) ?_
    refine ev_iload dX12_waysOn_76 5 rfl ?_
    obtain rfl := Option.some.inj hf
    exact ev_bret (b := v5) dX12_waysOn_78 rfl ⟨Nat.zero_le _, Nat.zero_le _⟩ hr
  refine ev_lcmp_le 71 dX12_waysOn_61 dX12_waysOn_62 (by decide) (fun h9 => ?_) (fun h9 => ?_)
  · refine ev_lload dX12_waysOn_71 0 rfl ?_
    have e9 : v8 = v7 := hv8.trans ((if_pos h9))
    subst e9
    exact hJv8
  · refine ev_ldc2 2000000000 dX12_waysOn_65 klX12_309 (by decide) ?_
    refine ev_goto 73 dX12_waysOn_68 (by decide) ?_
    have e9 : v8 = 2000000000 := hv8.trans ((if_neg h9))
    subst e9
    exact hJv8
def fX12_waysOn (s0 : Int) (n0 : Int) (ways : Int) (μ : Mem) : Option (Bool × Mem) :=
  gd (0 ≤ w32 s0 ∧ w32 s0 < 3840) <|
  lt (if w64 (μ 92 (w32 s0).toNat) = w64 0 then
      true
    else
      false) fun v2 =>
  if v2 = true then
    fX12_waysOn_j32 s0 n0 ways v2 μ
  else
    (fX12_partOf s0 μ).bind fun v12 =>
    if w32 v12 = w32 n0 then
      fX12_waysOn_j32 s0 n0 ways v2 μ
    else
      some ((v2, μ))
set_option maxRecDepth 4000 in
theorem eX12_waysOn (hS : Sd M K P L) (hc : CIn P 75 93) (s0 : Int) (n0 : Int) (ways : Int) (μ : Mem)  {o : Bool × Mem} (hf : fX12_waysOn s0 n0 ways μ = some o) (hr : (fun o : Bool × Mem => Φ (some (vb o.1)) M x (L o.2)) o) : Ev l D cy g K yX12_waysOn cX12_waysOn 8 (some .boolean) (rmd 2 0 0) (MX D cy g K (rmd 2 0 0) Φ) 0 0 M x (L μ) 0 [(0, vr g 75), (1, vi s0), (2, vi n0), (3, vl ways)] [] := by
  unfold fX12_waysOn at hf
  refine ev_aload_n dX12_waysOn_0 0 rfl ?_
  refine ev_getK 25 dX12_waysOn_1 (hS.lt (hc 75 rfl)) rfl (hS.K1 (hc 75 rfl) rfl) ciX12 (by decide) rfl flX12_107 ?_
  refine ev_iload_n dX12_waysOn_4 1 rfl ?_
  obtain ⟨g1, hf⟩ := gd_elim hf
  refine ev_lald dX12_waysOn_5 (hS.lt (hc 92 rfl)) rfl (hS.mem _ (hc 92 rfl)) g1 ?_
  refine ev_lconst 0 dX12_waysOn_6 rfl ?_
  obtain ⟨v2, hv2, hf⟩ := lt_elim hf
  have hJv2 : Ev l D cy g K yX12_waysOn cX12_waysOn 8 (some .boolean) (rmd 2 0 0) (MX D cy g K (rmd 2 0 0) Φ) 0 0 M x (L μ) 16 [(0, vr g 75), (1, vi s0), (2, vi n0), (3, vl ways)] [vb v2] := by
    refine ev_istore (al2 := [(5, vb v2), (0, vr g 75), (1, vi s0), (2, vi n0), (3, vl ways)]) dX12_waysOn_16 (by decide) rfl ?_
    refine ev_iload dX12_waysOn_18 0 rfl ?_
    refine ev_ifb_ne 32 dX12_waysOn_20 (by decide) (fun h4 => ?_) (fun h4 => ?_)
    · rw [if_pos h4] at hf
      refine ev_sub [1, 2, 3, 4, 0] rfl ?_
      exact tX12_waysOn_j32 hS hc s0 n0 ways v2 μ hf hr
    · rw [if_neg h4] at hf
      refine ev_aload_n dX12_waysOn_23 1 rfl ?_
      refine ev_iload_n dX12_waysOn_24 2 rfl ?_
      obtain ⟨v12, hv12, hf⟩ := Option.bind_eq_some_iff.mp hf
      refine cl_V1 (As := [vi s0]) (st := []) miX12_partOf (tX12_partOf hS (hc.w rfl rfl) s0 μ hv12) dX12_waysOn_25 lkX12_302 inX12_partOf rfl (hS.lt (hc 75 rfl)) rfl ⟨rfl, rfl⟩ ⟨⟨Nat.le_of_ble_eq_true rfl, Nat.le_of_ble_eq_true rfl⟩, Nat.zero_le _, Nat.zero_le _⟩ (Nat.le_of_ble_eq_true rfl) ?_
      refine ev_iload_n dX12_waysOn_28 3 rfl ?_
      refine ev_icmp_ne 76 dX12_waysOn_29 (by decide) (fun h13 => ?_) (fun h13 => ?_)
      · rw [if_neg h13] at hf
        refine ev_iload dX12_waysOn_76 0 rfl ?_
        obtain rfl := Option.some.inj hf
        exact ev_bret (b := v2) dX12_waysOn_78 rfl ⟨Nat.zero_le _, Nat.zero_le _⟩ hr
      · rw [if_pos h13] at hf
        refine ev_sub [1, 2, 3, 4, 0] rfl ?_
        exact tX12_waysOn_j32 hS hc s0 n0 ways v2 μ hf hr
  refine ev_lcmp_ne 15 dX12_waysOn_7 dX12_waysOn_8 (by decide) (fun h3 => ?_) (fun h3 => ?_)
  · refine ev_iconst dX12_waysOn_15 ?_
    have e9 : v2 = false := hv2.trans ((if_neg h3))
    subst e9
    exact hJv2
  · refine ev_iconst dX12_waysOn_11 ?_
    refine ev_goto 16 dX12_waysOn_12 (by decide) ?_
    have e9 : v2 = true := hv2.trans ((if_pos h3))
    subst e9
    exact hJv2
theorem tX12_waysOn (hS : Sd M K P L) (hc : CIn P 75 93) (s0 : Int) (n0 : Int) (ways : Int) (μ : Mem) {o : Bool × Mem} (hf : fX12_waysOn s0 n0 ways μ = some o) : Cn l D cy g K K yX12_waysOn cX12_waysOn 8 (some .boolean) (rmd 2 0 0) [vr g 75, vi s0, vi n0, vl ways] M x (L μ) (PE (some (vb o.1)) M x (L o.2)) :=
 Cn.of (by decide) (Nat.le_of_ble_eq_true rfl) (eX12_waysOn hS hc s0 n0 ways μ hf (PE_i _ _ _ _))
def fX12_fewest_b2 (toWish : Bool) (but : Int) (v1 : Int) (μ : Mem) : Option ((Int × Mem) ⊕ (Mem)) :=
  (fX12_stacks μ).bind fun v2 =>
  if w32 v1 < w32 v2 then
    (fX12_lays v1 μ).bind fun μ4 =>
    if toWish = true then
      (fX12_isWishedNow μ4).bind fun v11 =>
      lt (if v11 = true then
          4097
        else
          0) fun v12 =>
      gd (0 ≤ w32 v1 ∧ w32 v1 < 3840) <|
      lt (upd2 μ4 92 ((w32 v1).toNat) v12) fun μ15 =>
      some (.inl ((v1 + 1), μ15))
    else
      (fX12_isServed μ4).bind fun v6 =>
      lt (if v6 = true then
          4097
        else
          0) fun v7 =>
      gd (0 ≤ w32 v1 ∧ w32 v1 < 3840) <|
      lt (upd2 μ4 92 ((w32 v1).toNat) v7) fun μ10 =>
      some (.inl ((v1 + 1), μ10))
  else
    some (.inr μ)
set_option maxRecDepth 4000 in
theorem tX12_fewest_b2 (hS : Sd M K P L) (hc : CIn P 75 93) (toWish : Bool) (but : Int) (v1 : Int) (μ : Mem)  {o : (Int × Mem) ⊕ (Mem)} (hf : fX12_fewest_b2 toWish but v1 μ = some o) (hr : (Sum.elim (fun s : Int × Mem => Ev l D cy g K yX12_fewest cX12_fewest 7 none (rmd 5 0 0) (MX D cy g K (rmd 5 0 0) Φ) 0 0 M x (L s.2) 2 [(0, vr g 75), (1, vb toWish), (2, vi but), (3, vi s.1)] []) (fun e : Mem => Ev l D cy g K yX12_fewest cX12_fewest 7 none (rmd 5 0 0) (MX D cy g K (rmd 5 0 0) Φ) 0 0 M x (L e) 55 [(0, vr g 75), (2, vi but)] [])) o) : Ev l D cy g K yX12_fewest cX12_fewest 7 none (rmd 5 0 0) (MX D cy g K (rmd 5 0 0) Φ) 0 0 M x (L μ) 2 [(0, vr g 75), (1, vb toWish), (2, vi but), (3, vi v1)] [] := by
  unfold fX12_fewest_b2 at hf
  refine ev_iload_n dX12_fewest_2 3 rfl ?_
  refine ev_aload_n dX12_fewest_3 0 rfl ?_
  obtain ⟨v2, hv2, hf⟩ := Option.bind_eq_some_iff.mp hf
  refine cl_V1 (As := []) (st := [vi v1]) miX12_stacks (tX12_stacks hS (hc.w rfl rfl) μ hv2) dX12_fewest_4 lkX12_294 inX12_stacks rfl (hS.lt (hc 75 rfl)) rfl ⟨rfl, rfl⟩ ⟨⟨Nat.le_of_ble_eq_true rfl, Nat.le_of_ble_eq_true rfl⟩, Nat.zero_le _, Nat.zero_le _⟩ (Nat.le_of_ble_eq_true rfl) ?_
  refine ev_icmp_ge 55 dX12_fewest_7 (by decide) (fun h3 => ?_) (fun h3 => ?_)
  · rw [if_neg h3] at hf
    obtain rfl := Option.some.inj hf
    refine ev_sub [0, 2] rfl ?_
    exact hr
  · rw [if_pos h3] at hf
    refine ev_aload_n dX12_fewest_10 0 rfl ?_
    refine ev_iload_n dX12_fewest_11 3 rfl ?_
    obtain ⟨μ4, hμ4, hf⟩ := Option.bind_eq_some_iff.mp hf
    refine cl_V0 (As := [vi v1]) (st := []) miX12_lays (tX12_lays hS (hc.w rfl rfl) v1 μ hμ4) dX12_fewest_12 lkX12_274 inX12_lays rfl (hS.lt (hc 75 rfl)) rfl ⟨rfl, rfl⟩ ⟨⟨Nat.le_of_ble_eq_true rfl, Nat.le_of_ble_eq_true rfl⟩, Nat.zero_le _, Nat.zero_le _⟩ (Nat.le_of_ble_eq_true rfl) ?_
    refine ev_aload_n dX12_fewest_15 0 rfl ?_
    refine ev_getK 25 dX12_fewest_16 (hS.lt (hc 75 rfl)) rfl (hS.K1 (hc 75 rfl) rfl) ciX12 (by decide) rfl flX12_107 ?_
    refine ev_iload_n dX12_fewest_19 3 rfl ?_
    refine ev_iload_n dX12_fewest_20 1 rfl ?_
    refine ev_ifb_eq 34 dX12_fewest_21 (by decide) (fun h5 => ?_) (fun h5 => ?_)
    · rw [if_neg h5] at hf
      refine ev_aload_n dX12_fewest_34 0 rfl ?_
      obtain ⟨v6, hv6, hf⟩ := Option.bind_eq_some_iff.mp hf
      refine cl_V1 (As := []) (st := [vi v1, vr g 92]) miX12_isServed (tX12_isServed hS (hc.w rfl rfl) μ4 hv6) dX12_fewest_35 lkX12_289 inX12_isServed rfl (hS.lt (hc 75 rfl)) rfl ⟨rfl, rfl⟩ ⟨⟨Nat.le_of_ble_eq_true rfl, Nat.le_of_ble_eq_true rfl⟩, Nat.zero_le _, Nat.zero_le _⟩ (Nat.le_of_ble_eq_true rfl) ?_
      obtain ⟨v7, hv7, hf⟩ := lt_elim hf
      have hJv7 : Ev l D cy g K yX12_fewest cX12_fewest 7 none (rmd 5 0 0) (MX D cy g K (rmd 5 0 0) Φ) 0 0 M x (L μ4) 48 [(0, vr g 75), (1, vb toWish), (2, vi but), (3, vi v1)] [vl v7, vi v1, vr g 92] := by
        obtain ⟨g9, hf⟩ := gd_elim hf
        obtain ⟨μ10, hμ10, hf⟩ := lt_elim hf
        refine ev_last dX12_fewest_48 (hS.lt (hc 92 rfl)) rfl g9 (hS.up (hc 92 rfl) hμ10) ?_
        refine ev_iinc (al2 := [(3, vi (v1 + 1)), (0, vr g 75), (1, vb toWish), (2, vi but)]) dX12_fewest_49 3 rfl (by decide) rfl ?_
        refine ev_goto 2 dX12_fewest_52 (by decide) ?_
        obtain rfl := Option.some.inj hf
        refine ev_sub [1, 2, 3, 0] rfl ?_
        exact hr
      refine ev_ifb_eq 47 dX12_fewest_38 (by decide) (fun h8 => ?_) (fun h8 => ?_)
      · refine ev_lconst 0 dX12_fewest_47 rfl ?_
        have e9 : v7 = 0 := hv7.trans ((if_neg h8))
        subst e9
        exact hJv7
      · refine ev_ldc2 4097 dX12_fewest_41 klX12_300 (by decide) ?_
        refine ev_goto 48 dX12_fewest_44 (by decide) ?_
        have e9 : v7 = 4097 := hv7.trans ((if_pos h8))
        subst e9
        exact hJv7
    · rw [if_pos h5] at hf
      refine ev_aload_n dX12_fewest_24 0 rfl ?_
      obtain ⟨v11, hv11, hf⟩ := Option.bind_eq_some_iff.mp hf
      refine cl_V1 (As := []) (st := [vi v1, vr g 92]) miX12_isWishedNow (tX12_isWishedNow hS (hc.w rfl rfl) μ4 hv11) dX12_fewest_25 lkX12_297 inX12_isWishedNow rfl (hS.lt (hc 75 rfl)) rfl ⟨rfl, rfl⟩ ⟨⟨Nat.le_of_ble_eq_true rfl, Nat.le_of_ble_eq_true rfl⟩, Nat.zero_le _, Nat.zero_le _⟩ (Nat.le_of_ble_eq_true rfl) ?_
      obtain ⟨v12, hv12, hf⟩ := lt_elim hf
      have hJv12 : Ev l D cy g K yX12_fewest cX12_fewest 7 none (rmd 5 0 0) (MX D cy g K (rmd 5 0 0) Φ) 0 0 M x (L μ4) 48 [(0, vr g 75), (1, vb toWish), (2, vi but), (3, vi v1)] [vl v12, vi v1, vr g 92] := by
        obtain ⟨g14, hf⟩ := gd_elim hf
        obtain ⟨μ15, hμ15, hf⟩ := lt_elim hf
        refine ev_last dX12_fewest_48 (hS.lt (hc 92 rfl)) rfl g14 (hS.up (hc 92 rfl) hμ15) ?_
        refine ev_iinc (al2 := [(3, vi (v1 + 1)), (0, vr g 75), (1, vb toWish), (2, vi but)]) dX12_fewest_49 3 rfl (by decide) rfl ?_
        refine ev_goto 2 dX12_fewest_52 (by decide) ?_
        obtain rfl := Option.some.inj hf
        refine ev_sub [1, 2, 3, 0] rfl ?_
        exact hr
      refine ev_ifb_eq 47 dX12_fewest_28 (by decide) (fun h13 => ?_) (fun h13 => ?_)
      · refine ev_lconst 0 dX12_fewest_47 rfl ?_
        have e9 : v12 = 0 := hv12.trans ((if_neg h13))
        subst e9
        exact hJv12
      · refine ev_goto 41 dX12_fewest_31 (by decide) ?_
        refine ev_ldc2 4097 dX12_fewest_41 klX12_300 (by decide) ?_
        refine ev_goto 48 dX12_fewest_44 (by decide) ?_
        have e9 : v12 = 4097 := hv12.trans ((if_pos h13))
        subst e9
        exact hJv12
def fX12_fewest_b81 (toWish : Bool) (but : Int) (v18 : Int) (v21 : Int) (v24 : Bool) (v25 : Int) (μ : Mem) : Option ((Bool × Int × Mem) ⊕ (Bool × Mem)) :=
  if w32 v25 ≤ w32 (μ 81 0) then
    (fX12_partOf v21 μ).bind fun v27 =>
    if w32 v27 = w32 (v18 - 1) then
      (fX12_lays v21 μ).bind fun μ29 =>
      (fX12_turns v25 μ29).bind fun μ30 =>
      if w32 v25 = w32 but then
        some (.inl (v24, (v25 + 1), μ30))
      else
        (fX12_mayTurn v25 μ30).bind fun q32 =>
        if q32.1 = true then
          (fX12_numberNow q32.2).bind fun v34 =>
          gd (0 ≤ w32 v21 ∧ w32 v21 < 3840) <|
          (fX12_waysOn v34 v18 (l_div (q32.2 92 (w32 v21).toNat) 4096) q32.2).bind fun q36 =>
          lt (if q36.1 = true then
              true
            else
              if v24 = true then
                true
              else
                false) fun v37 =>
          some (.inl (v37, (v25 + 1), q36.2))
        else
          some (.inl (v24, (v25 + 1), q32.2))
    else
      some (.inr (v24, μ))
  else
    some (.inr (v24, μ))
set_option maxRecDepth 4000 in
theorem tX12_fewest_b81 (hS : Sd M K P L) (hc : CIn P 75 93) (toWish : Bool) (but : Int) (v18 : Int) (v21 : Int) (v24 : Bool) (v25 : Int) (μ : Mem)  {o : (Bool × Int × Mem) ⊕ (Bool × Mem)} (hf : fX12_fewest_b81 toWish but v18 v21 v24 v25 μ = some o) (hr : (Sum.elim (fun s : Bool × Int × Mem => Ev l D cy g K yX12_fewest cX12_fewest 7 none (rmd 5 0 0) (MX D cy g K (rmd 5 0 0) Φ) 0 0 M x (L s.2.2) 81 [(0, vr g 75), (2, vi but), (3, vb s.1), (4, vi v18), (5, vi v21), (6, vi s.2.1)] []) (fun e : Bool × Mem => Ev l D cy g K yX12_fewest cX12_fewest 7 none (rmd 5 0 0) (MX D cy g K (rmd 5 0 0) Φ) 0 0 M x (L e.2) 170 [(0, vr g 75), (2, vi but), (3, vb e.1), (4, vi v18), (5, vi v21)] [])) o) : Ev l D cy g K yX12_fewest cX12_fewest 7 none (rmd 5 0 0) (MX D cy g K (rmd 5 0 0) Φ) 0 0 M x (L μ) 81 [(0, vr g 75), (2, vi but), (3, vb v24), (4, vi v18), (5, vi v21), (6, vi v25)] [] := by
  unfold fX12_fewest_b81 at hf
  refine ev_iload dX12_fewest_81 5 rfl ?_
  refine ev_aload_n dX12_fewest_83 0 rfl ?_
  refine cl_V1 (As := []) (st := [vi v25]) miX12_cakes (tX12_cakes hS (hc.w rfl rfl) μ (o := (μ 81 0)) rfl) dX12_fewest_84 lkX12_209 inX12_cakes rfl (hS.lt (hc 75 rfl)) rfl ⟨rfl, rfl⟩ ⟨⟨Nat.le_of_ble_eq_true rfl, Nat.le_of_ble_eq_true rfl⟩, Nat.zero_le _, Nat.zero_le _⟩ (Nat.le_of_ble_eq_true rfl) ?_
  refine ev_icmp_gt 170 dX12_fewest_87 (by decide) (fun h26 => ?_) (fun h26 => ?_)
  · rw [if_neg h26] at hf
    obtain rfl := Option.some.inj hf
    refine ev_sub [0, 1, 2, 3, 4] rfl ?_
    exact hr
  · rw [if_pos h26] at hf
    refine ev_aload_n dX12_fewest_90 0 rfl ?_
    refine ev_iload dX12_fewest_91 4 rfl ?_
    obtain ⟨v27, hv27, hf⟩ := Option.bind_eq_some_iff.mp hf
    refine cl_V1 (As := [vi v21]) (st := []) miX12_partOf (tX12_partOf hS (hc.w rfl rfl) v21 μ hv27) dX12_fewest_93 lkX12_302 inX12_partOf rfl (hS.lt (hc 75 rfl)) rfl ⟨rfl, rfl⟩ ⟨⟨Nat.le_of_ble_eq_true rfl, Nat.le_of_ble_eq_true rfl⟩, Nat.zero_le _, Nat.zero_le _⟩ (Nat.le_of_ble_eq_true rfl) ?_
    refine ev_iload dX12_fewest_96 3 rfl ?_
    refine ev_iconst dX12_fewest_98 ?_
    refine ev_isub dX12_fewest_99 ?_
    refine ev_icmp_ne 170 dX12_fewest_100 (by decide) (fun h28 => ?_) (fun h28 => ?_)
    · rw [if_neg h28] at hf
      obtain rfl := Option.some.inj hf
      refine ev_sub [0, 1, 2, 3, 4] rfl ?_
      exact hr
    · rw [if_pos h28] at hf
      refine ev_aload_n dX12_fewest_103 0 rfl ?_
      refine ev_iload dX12_fewest_104 4 rfl ?_
      obtain ⟨μ29, hμ29, hf⟩ := Option.bind_eq_some_iff.mp hf
      refine cl_V0 (As := [vi v21]) (st := []) miX12_lays (tX12_lays hS (hc.w rfl rfl) v21 μ hμ29) dX12_fewest_106 lkX12_274 inX12_lays rfl (hS.lt (hc 75 rfl)) rfl ⟨rfl, rfl⟩ ⟨⟨Nat.le_of_ble_eq_true rfl, Nat.le_of_ble_eq_true rfl⟩, Nat.zero_le _, Nat.zero_le _⟩ (Nat.le_of_ble_eq_true rfl) ?_
      refine ev_aload_n dX12_fewest_109 0 rfl ?_
      refine ev_iload dX12_fewest_110 5 rfl ?_
      obtain ⟨μ30, hμ30, hf⟩ := Option.bind_eq_some_iff.mp hf
      refine cl_V0 (As := [vi v25]) (st := []) miX12_turns (tX12_turns hS (hc.w rfl rfl) v25 μ29 hμ30) dX12_fewest_112 lkX12_286 inX12_turns rfl (hS.lt (hc 75 rfl)) rfl ⟨rfl, rfl⟩ ⟨⟨Nat.le_of_ble_eq_true rfl, Nat.le_of_ble_eq_true rfl⟩, Nat.zero_le _, Nat.zero_le _⟩ (Nat.le_of_ble_eq_true rfl) ?_
      refine ev_iload dX12_fewest_115 5 rfl ?_
      refine ev_iload_n dX12_fewest_117 1 rfl ?_
      refine ev_icmp_eq 164 dX12_fewest_118 (by decide) (fun h31 => ?_) (fun h31 => ?_)
      · rw [if_pos h31] at hf
        refine ev_iinc (al2 := [(6, vi (v25 + 1)), (0, vr g 75), (2, vi but), (3, vb v24), (4, vi v18), (5, vi v21)]) dX12_fewest_164 5 rfl (by decide) rfl ?_
        refine ev_goto 81 dX12_fewest_167 (by decide) ?_
        obtain rfl := Option.some.inj hf
        refine ev_sub [1, 2, 3, 4, 5, 0] rfl ?_
        exact hr
      · rw [if_neg h31] at hf
        refine ev_aload_n dX12_fewest_121 0 rfl ?_
        refine ev_iload dX12_fewest_122 5 rfl ?_
        obtain ⟨q32, hq32, hf⟩ := Option.bind_eq_some_iff.mp hf
        refine cl_V1 (As := [vi v25]) (st := []) miX12_mayTurn (tX12_mayTurn hS (hc.w rfl rfl) v25 μ30 hq32) dX12_fewest_124 lkX12_277 inX12_mayTurn rfl (hS.lt (hc 75 rfl)) rfl ⟨rfl, rfl⟩ ⟨⟨Nat.le_of_ble_eq_true rfl, Nat.le_of_ble_eq_true rfl⟩, Nat.zero_le _, Nat.zero_le _⟩ (Nat.le_of_ble_eq_true rfl) ?_
        refine ev_ifb_eq 164 dX12_fewest_127 (by decide) (fun h33 => ?_) (fun h33 => ?_)
        · rw [if_neg h33] at hf
          refine ev_iinc (al2 := [(6, vi (v25 + 1)), (0, vr g 75), (2, vi but), (3, vb v24), (4, vi v18), (5, vi v21)]) dX12_fewest_164 5 rfl (by decide) rfl ?_
          refine ev_goto 81 dX12_fewest_167 (by decide) ?_
          obtain rfl := Option.some.inj hf
          refine ev_sub [1, 2, 3, 4, 5, 0] rfl ?_
          exact hr
        · rw [if_pos h33] at hf
          refine ev_aload_n dX12_fewest_130 0 rfl ?_
          refine ev_aload_n dX12_fewest_131 0 rfl ?_
          obtain ⟨v34, hv34, hf⟩ := Option.bind_eq_some_iff.mp hf
          refine cl_V1 (As := []) (st := [vr g 75]) miX12_numberNow (tX12_numberNow hS (hc.w rfl rfl) q32.2 hv34) dX12_fewest_132 lkX12_242 inX12_numberNow rfl (hS.lt (hc 75 rfl)) rfl ⟨rfl, rfl⟩ ⟨⟨Nat.le_of_ble_eq_true rfl, Nat.le_of_ble_eq_true rfl⟩, Nat.zero_le _, Nat.zero_le _⟩ (Nat.le_of_ble_eq_true rfl) ?_
          refine ev_iload dX12_fewest_135 3 rfl ?_
          refine ev_aload_n dX12_fewest_137 0 rfl ?_
          refine ev_getK 25 dX12_fewest_138 (hS.lt (hc 75 rfl)) rfl (hS.K1 (hc 75 rfl) rfl) ciX12 (by decide) rfl flX12_107 ?_
          refine ev_iload dX12_fewest_141 4 rfl ?_
          obtain ⟨g35, hf⟩ := gd_elim hf
          refine ev_lald dX12_fewest_143 (hS.lt (hc 92 rfl)) rfl (hS.mem _ (hc 92 rfl)) g35 ?_
          refine ev_ldc2 4096 dX12_fewest_144 klX12_292 (by decide) ?_
          refine ev_ldiv dX12_fewest_147 (by decide) ?_
          obtain ⟨q36, hq36, hf⟩ := Option.bind_eq_some_iff.mp hf
          refine cl_V1 (As := [vi v34, vi v18, vl (l_div (q32.2 92 (w32 v21).toNat) 4096)]) (st := []) miX12_waysOn (tX12_waysOn hS (hc.w rfl rfl) v34 v18 (l_div (q32.2 92 (w32 v21).toNat) 4096) q32.2 hq36) dX12_fewest_148 lkX12_305 inX12_waysOn rfl (hS.lt (hc 75 rfl)) rfl ⟨rfl, rfl⟩ ⟨⟨Nat.le_of_ble_eq_true rfl, Nat.le_of_ble_eq_true rfl⟩, Nat.zero_le _, Nat.zero_le _⟩ (Nat.le_of_ble_eq_true rfl) ?_
          obtain ⟨v37, hv37, hf⟩ := lt_elim hf
          have hJv37 : Ev l D cy g K yX12_fewest cX12_fewest 7 none (rmd 5 0 0) (MX D cy g K (rmd 5 0 0) Φ) 0 0 M x (L q36.2) 163 [(0, vr g 75), (2, vi but), (3, vb v24), (4, vi v18), (5, vi v21), (6, vi v25)] [vb v37] := by
            refine ev_istore_n (al2 := [(3, vb v37), (0, vr g 75), (2, vi but), (4, vi v18), (5, vi v21), (6, vi v25)]) dX12_fewest_163 3 rfl (by decide) rfl ?_
            refine ev_iinc (al2 := [(6, vi (v25 + 1)), (3, vb v37), (0, vr g 75), (2, vi but), (4, vi v18), (5, vi v21)]) dX12_fewest_164 5 rfl (by decide) rfl ?_
            refine ev_goto 81 dX12_fewest_167 (by decide) ?_
            obtain rfl := Option.some.inj hf
            refine ev_sub [2, 3, 1, 4, 5, 0] rfl ?_
            exact hr
          refine ev_ifb_ne 158 dX12_fewest_151 (by decide) (fun h38 => ?_) (fun h38 => ?_)
          · refine ev_iconst dX12_fewest_158 ?_
            refine ev_goto 163 dX12_fewest_159 (by decide) ?_
            have e9 : v37 = true := hv37.trans ((if_pos h38))
            subst e9
            exact hJv37
          · refine ev_iload_n dX12_fewest_154 2 rfl ?_
            refine ev_ifb_eq 162 dX12_fewest_155 (by decide) (fun h39 => ?_) (fun h39 => ?_)
            · refine ev_iconst dX12_fewest_162 ?_
              have e9 : v37 = false := hv37.trans (((if_neg h38)).trans (if_neg h39))
              subst e9
              exact hJv37
            · refine ev_iconst dX12_fewest_158 ?_
              refine ev_goto 163 dX12_fewest_159 (by decide) ?_
              have e9 : v37 = true := hv37.trans (((if_neg h38)).trans (if_pos h39))
              subst e9
              exact hJv37
def fX12_fewest_b69 (toWish : Bool) (but : Int) (v18 : Int) (v20 : Bool) (v21 : Int) (μ : Mem) : Option ((Bool × Int × Mem) ⊕ (Bool × Mem)) :=
  (fX12_stacks μ).bind fun v22 =>
  if w32 v21 < w32 v22 then
    (loopN (fun s => fX12_fewest_b81 toWish but v18 v21 s.1 s.2.1 s.2.2) FU (v20, 1, μ)).bind fun q40 =>
    some (.inl (q40.1, (v21 + 1), q40.2))
  else
    some (.inr (v20, μ))
set_option maxRecDepth 4000 in
theorem tX12_fewest_b69 (hS : Sd M K P L) (hc : CIn P 75 93) (toWish : Bool) (but : Int) (v18 : Int) (v20 : Bool) (v21 : Int) (μ : Mem)  {o : (Bool × Int × Mem) ⊕ (Bool × Mem)} (hf : fX12_fewest_b69 toWish but v18 v20 v21 μ = some o) (hr : (Sum.elim (fun s : Bool × Int × Mem => Ev l D cy g K yX12_fewest cX12_fewest 7 none (rmd 5 0 0) (MX D cy g K (rmd 5 0 0) Φ) 0 0 M x (L s.2.2) 69 [(0, vr g 75), (2, vi but), (3, vb s.1), (4, vi v18), (5, vi s.2.1)] []) (fun e : Bool × Mem => Ev l D cy g K yX12_fewest cX12_fewest 7 none (rmd 5 0 0) (MX D cy g K (rmd 5 0 0) Φ) 0 0 M x (L e.2) 176 [(0, vr g 75), (2, vi but), (3, vb e.1), (4, vi v18)] [])) o) : Ev l D cy g K yX12_fewest cX12_fewest 7 none (rmd 5 0 0) (MX D cy g K (rmd 5 0 0) Φ) 0 0 M x (L μ) 69 [(0, vr g 75), (2, vi but), (3, vb v20), (4, vi v18), (5, vi v21)] [] := by
  unfold fX12_fewest_b69 at hf
  refine ev_iload dX12_fewest_69 4 rfl ?_
  refine ev_aload_n dX12_fewest_71 0 rfl ?_
  obtain ⟨v22, hv22, hf⟩ := Option.bind_eq_some_iff.mp hf
  refine cl_V1 (As := []) (st := [vi v21]) miX12_stacks (tX12_stacks hS (hc.w rfl rfl) μ hv22) dX12_fewest_72 lkX12_294 inX12_stacks rfl (hS.lt (hc 75 rfl)) rfl ⟨rfl, rfl⟩ ⟨⟨Nat.le_of_ble_eq_true rfl, Nat.le_of_ble_eq_true rfl⟩, Nat.zero_le _, Nat.zero_le _⟩ (Nat.le_of_ble_eq_true rfl) ?_
  refine ev_icmp_ge 176 dX12_fewest_75 (by decide) (fun h23 => ?_) (fun h23 => ?_)
  · rw [if_neg h23] at hf
    obtain rfl := Option.some.inj hf
    refine ev_sub [0, 1, 2, 3] rfl ?_
    exact hr
  · rw [if_pos h23] at hf
    refine ev_iconst dX12_fewest_78 ?_
    refine ev_istore (al2 := [(6, vi 1), (0, vr g 75), (2, vi but), (3, vb v20), (4, vi v18), (5, vi v21)]) dX12_fewest_79 (by decide) rfl ?_
    obtain ⟨q40, hq40, hf⟩ := Option.bind_eq_some_iff.mp hf
    refine ev_sub [1, 2, 3, 4, 5, 0] rfl ?_
    refine loop_ev (H := (fun s : Bool × Int × Mem => Ev l D cy g K yX12_fewest cX12_fewest 7 none (rmd 5 0 0) (MX D cy g K (rmd 5 0 0) Φ) 0 0 M x (L s.2.2) 81 [(0, vr g 75), (2, vi but), (3, vb s.1), (4, vi v18), (5, vi v21), (6, vi s.2.1)] [])) (Hx := (fun e : Bool × Mem => Ev l D cy g K yX12_fewest cX12_fewest 7 none (rmd 5 0 0) (MX D cy g K (rmd 5 0 0) Φ) 0 0 M x (L e.2) 170 [(0, vr g 75), (2, vi but), (3, vb e.1), (4, vi v18), (5, vi v21)] [])) (fun s o hb hr => tX12_fewest_b81 hS hc toWish but v18 v21 s.1 s.2.1 s.2.2 hb hr) FU _ _ hq40 ?_
    show Ev l D cy g K yX12_fewest cX12_fewest 7 none (rmd 5 0 0) (MX D cy g K (rmd 5 0 0) Φ) 0 0 M x (L q40.2) 170 [(0, vr g 75), (2, vi but), (3, vb q40.1), (4, vi v18), (5, vi v21)] []
    refine ev_iinc (al2 := [(5, vi (v21 + 1)), (0, vr g 75), (2, vi but), (3, vb q40.1), (4, vi v18)]) dX12_fewest_170 4 rfl (by decide) rfl ?_
    refine ev_goto 69 dX12_fewest_173 (by decide) ?_
    obtain rfl := Option.some.inj hf
    refine ev_sub [1, 2, 3, 4, 0] rfl ?_
    exact hr
def fX12_fewest_b60 (toWish : Bool) (but : Int) (v17 : Bool) (v18 : Int) (μ : Mem) : Option ((Bool × Int × Mem) ⊕ (Mem)) :=
  if v17 = true then
    (loopN (fun s => fX12_fewest_b69 toWish but v18 s.1 s.2.1 s.2.2) FU (false, 0, μ)).bind fun q41 =>
    some (.inl (q41.1, (v18 + 1), q41.2))
  else
    some (.inr μ)
set_option maxRecDepth 4000 in
theorem tX12_fewest_b60 (hS : Sd M K P L) (hc : CIn P 75 93) (toWish : Bool) (but : Int) (v17 : Bool) (v18 : Int) (μ : Mem)  {o : (Bool × Int × Mem) ⊕ (Mem)} (hf : fX12_fewest_b60 toWish but v17 v18 μ = some o) (hr : (Sum.elim (fun s : Bool × Int × Mem => Ev l D cy g K yX12_fewest cX12_fewest 7 none (rmd 5 0 0) (MX D cy g K (rmd 5 0 0) Φ) 0 0 M x (L s.2.2) 60 [(0, vr g 75), (2, vi but), (3, vb s.1), (4, vi s.2.1)] []) (fun e : Mem => Ev l D cy g K yX12_fewest cX12_fewest 7 none (rmd 5 0 0) (MX D cy g K (rmd 5 0 0) Φ) 0 0 M x (L e) 182 [] [])) o) : Ev l D cy g K yX12_fewest cX12_fewest 7 none (rmd 5 0 0) (MX D cy g K (rmd 5 0 0) Φ) 0 0 M x (L μ) 60 [(0, vr g 75), (2, vi but), (3, vb v17), (4, vi v18)] [] := by
  unfold fX12_fewest_b60 at hf
  refine ev_iload_n dX12_fewest_60 2 rfl ?_
  refine ev_ifb_eq 182 dX12_fewest_61 (by decide) (fun h19 => ?_) (fun h19 => ?_)
  · rw [if_neg h19] at hf
    obtain rfl := Option.some.inj hf
    refine ev_sub [] rfl ?_
    exact hr
  · rw [if_pos h19] at hf
    refine ev_iconst dX12_fewest_64 ?_
    refine ev_istore_n (al2 := [(3, vi 0), (0, vr g 75), (2, vi but), (4, vi v18)]) dX12_fewest_65 3 rfl (by decide) rfl ?_
    refine ev_iconst dX12_fewest_66 ?_
    refine ev_istore (al2 := [(5, vi 0), (3, vi 0), (0, vr g 75), (2, vi but), (4, vi v18)]) dX12_fewest_67 (by decide) rfl ?_
    obtain ⟨q41, hq41, hf⟩ := Option.bind_eq_some_iff.mp hf
    refine ev_sub [2, 3, 1, 4, 0] rfl ?_
    refine loop_ev (H := (fun s : Bool × Int × Mem => Ev l D cy g K yX12_fewest cX12_fewest 7 none (rmd 5 0 0) (MX D cy g K (rmd 5 0 0) Φ) 0 0 M x (L s.2.2) 69 [(0, vr g 75), (2, vi but), (3, vb s.1), (4, vi v18), (5, vi s.2.1)] [])) (Hx := (fun e : Bool × Mem => Ev l D cy g K yX12_fewest cX12_fewest 7 none (rmd 5 0 0) (MX D cy g K (rmd 5 0 0) Φ) 0 0 M x (L e.2) 176 [(0, vr g 75), (2, vi but), (3, vb e.1), (4, vi v18)] [])) (fun s o hb hr => tX12_fewest_b69 hS hc toWish but v18 s.1 s.2.1 s.2.2 hb hr) FU _ _ hq41 ?_
    show Ev l D cy g K yX12_fewest cX12_fewest 7 none (rmd 5 0 0) (MX D cy g K (rmd 5 0 0) Φ) 0 0 M x (L q41.2) 176 [(0, vr g 75), (2, vi but), (3, vb q41.1), (4, vi v18)] []
    refine ev_iinc (al2 := [(4, vi (v18 + 1)), (0, vr g 75), (2, vi but), (3, vb q41.1)]) dX12_fewest_176 3 rfl (by decide) rfl ?_
    refine ev_goto 60 dX12_fewest_179 (by decide) ?_
    obtain rfl := Option.some.inj hf
    refine ev_sub [1, 2, 3, 0] rfl ?_
    exact hr
def fX12_fewest (toWish : Bool) (but : Int) (μ : Mem) : Option (Mem) :=
  (loopN (fun s => fX12_fewest_b2 toWish but s.1 s.2) FU (0, μ)).bind fun q16 =>
  (loopN (fun s => fX12_fewest_b60 toWish but s.1 s.2.1 s.2.2) FU (true, 2, q16)).bind fun q42 =>
  some (q42)
set_option maxRecDepth 4000 in
theorem eX12_fewest (hS : Sd M K P L) (hc : CIn P 75 93) (toWish : Bool) (but : Int) (μ : Mem)  {o : Mem} (hf : fX12_fewest toWish but μ = some o) (hr : (fun o : Mem => Φ none M x (L o)) o) : Ev l D cy g K yX12_fewest cX12_fewest 7 none (rmd 5 0 0) (MX D cy g K (rmd 5 0 0) Φ) 0 0 M x (L μ) 0 [(0, vr g 75), (1, vb toWish), (2, vi but)] [] := by
  unfold fX12_fewest at hf
  refine ev_iconst dX12_fewest_0 ?_
  refine ev_istore_n (al2 := [(3, vi 0), (0, vr g 75), (1, vb toWish), (2, vi but)]) dX12_fewest_1 3 rfl (by decide) rfl ?_
  obtain ⟨q16, hq16, hf⟩ := Option.bind_eq_some_iff.mp hf
  refine ev_sub [1, 2, 3, 0] rfl ?_
  refine loop_ev (H := (fun s : Int × Mem => Ev l D cy g K yX12_fewest cX12_fewest 7 none (rmd 5 0 0) (MX D cy g K (rmd 5 0 0) Φ) 0 0 M x (L s.2) 2 [(0, vr g 75), (1, vb toWish), (2, vi but), (3, vi s.1)] [])) (Hx := (fun e : Mem => Ev l D cy g K yX12_fewest cX12_fewest 7 none (rmd 5 0 0) (MX D cy g K (rmd 5 0 0) Φ) 0 0 M x (L e) 55 [(0, vr g 75), (2, vi but)] [])) (fun s o hb hr => tX12_fewest_b2 hS hc toWish but s.1 s.2 hb hr) FU _ _ hq16 ?_
  show Ev l D cy g K yX12_fewest cX12_fewest 7 none (rmd 5 0 0) (MX D cy g K (rmd 5 0 0) Φ) 0 0 M x (L q16) 55 [(0, vr g 75), (2, vi but)] []
  refine ev_iconst dX12_fewest_55 ?_
  refine ev_istore_n (al2 := [(3, vi 1), (0, vr g 75), (2, vi but)]) dX12_fewest_56 3 rfl (by decide) rfl ?_
  refine ev_iconst dX12_fewest_57 ?_
  refine ev_istore (al2 := [(4, vi 2), (3, vi 1), (0, vr g 75), (2, vi but)]) dX12_fewest_58 (by decide) rfl ?_
  obtain ⟨q42, hq42, hf⟩ := Option.bind_eq_some_iff.mp hf
  refine ev_sub [2, 3, 1, 0] rfl ?_
  refine loop_ev (H := (fun s : Bool × Int × Mem => Ev l D cy g K yX12_fewest cX12_fewest 7 none (rmd 5 0 0) (MX D cy g K (rmd 5 0 0) Φ) 0 0 M x (L s.2.2) 60 [(0, vr g 75), (2, vi but), (3, vb s.1), (4, vi s.2.1)] [])) (Hx := (fun e : Mem => Ev l D cy g K yX12_fewest cX12_fewest 7 none (rmd 5 0 0) (MX D cy g K (rmd 5 0 0) Φ) 0 0 M x (L e) 182 [] [])) (fun s o hb hr => tX12_fewest_b60 hS hc toWish but s.1 s.2.1 s.2.2 hb hr) FU _ _ hq42 ?_
  show Ev l D cy g K yX12_fewest cX12_fewest 7 none (rmd 5 0 0) (MX D cy g K (rmd 5 0 0) Φ) 0 0 M x (L q42) 182 [] []
  obtain rfl := Option.some.inj hf
  exact ev_vret dX12_fewest_182 rfl ⟨Nat.zero_le _, Nat.zero_le _⟩ hr
theorem tX12_fewest (hS : Sd M K P L) (hc : CIn P 75 93) (toWish : Bool) (but : Int) (μ : Mem) {o : Mem} (hf : fX12_fewest toWish but μ = some o) : Cn l D cy g K K yX12_fewest cX12_fewest 7 none (rmd 5 0 0) [vr g 75, vb toWish, vi but] M x (L μ) (PE none M x (L o)) :=
 Cn.of (by decide) (Nat.le_of_ble_eq_true rfl) (eX12_fewest hS hc toWish but μ hf (PE_i _ _ _ _))
def fX12_laysFewest  (μ : Mem) : Option (Mem) :=
  if w32 (μ 75 26) = w32 1 then
    some (μ)
  else
    (fX12_fewest false 0 μ).bind fun μ2 =>
    lt (upd2 μ2 75 26 1) fun μ3 =>
    some (μ3)
set_option maxRecDepth 4000 in
theorem eX12_laysFewest (hS : Sd M K P L) (hc : CIn P 75 93)  (μ : Mem)  {o : Mem} (hf : fX12_laysFewest  μ = some o) (hr : (fun o : Mem => Φ none M x (L o)) o) : Ev l D cy g K yX12_laysFewest cX12_laysFewest 1 none (rmd 6 0 0) (MX D cy g K (rmd 6 0 0) Φ) 0 0 M x (L μ) 0 [(0, vr g 75)] [] := by
  unfold fX12_laysFewest at hf
  refine ev_aload_n dX12_laysFewest_0 0 rfl ?_
  refine ev_getI 26 dX12_laysFewest_1 (hS.lt (hc 75 rfl)) rfl (hS.mem _ (hc 75 rfl)) ciX12 (by decide) rfl flX12_251 ?_
  refine ev_iconst dX12_laysFewest_4 ?_
  refine ev_icmp_eq 19 dX12_laysFewest_5 (by decide) (fun h1 => ?_) (fun h1 => ?_)
  · rw [if_pos h1] at hf
    obtain rfl := Option.some.inj hf
    exact ev_vret dX12_laysFewest_19 rfl ⟨Nat.zero_le _, Nat.zero_le _⟩ hr
  · rw [if_neg h1] at hf
    refine ev_aload_n dX12_laysFewest_8 0 rfl ?_
    refine ev_iconst dX12_laysFewest_9 ?_
    refine ev_iconst dX12_laysFewest_10 ?_
    obtain ⟨μ2, hμ2, hf⟩ := Option.bind_eq_some_iff.mp hf
    refine cl_V0 (As := [vb false, vi 0]) (st := []) miX12_fewest (tX12_fewest hS (hc.w rfl rfl) false 0 μ hμ2) dX12_laysFewest_11 lkX12_311 inX12_fewest rfl (hS.lt (hc 75 rfl)) rfl ⟨rfl, rfl⟩ ⟨⟨Nat.le_of_ble_eq_true rfl, Nat.le_of_ble_eq_true rfl⟩, Nat.zero_le _, Nat.zero_le _⟩ (Nat.le_of_ble_eq_true rfl) ?_
    refine ev_aload_n dX12_laysFewest_14 0 rfl ?_
    refine ev_iconst dX12_laysFewest_15 ?_
    obtain ⟨μ3, hμ3, hf⟩ := lt_elim hf
    refine ev_putI 26 dX12_laysFewest_16 (hS.lt (hc 75 rfl)) rfl ciX12 (by decide) (Or.inl rfl) rfl rfl flX12_251 (hS.up (hc 75 rfl) hμ3) ?_
    obtain rfl := Option.some.inj hf
    exact ev_vret dX12_laysFewest_19 rfl ⟨Nat.zero_le _, Nat.zero_le _⟩ hr
theorem tX12_laysFewest (hS : Sd M K P L) (hc : CIn P 75 93) (μ : Mem) {o : Mem} (hf : fX12_laysFewest μ = some o) : Cn l D cy g K K yX12_laysFewest cX12_laysFewest 1 none (rmd 6 0 0) [vr g 75] M x (L μ) (PE none M x (L o)) :=
 Cn.of (by decide) (Nat.le_of_ble_eq_true rfl) (eX12_laysFewest hS hc μ hf (PE_i _ _ _ _))
def fX12_leastOf (s0 : Int) (μ : Mem) : Option (Int) :=
  (fX12_partOf s0 μ).bind fun v1 =>
  some ((v1 - 1))
set_option maxRecDepth 4000 in
theorem eX12_leastOf (hS : Sd M K P L) (hc : CIn P 75 93) (s0 : Int) (μ : Mem)  {o : Int} (hf : fX12_leastOf s0 μ = some o) (hr : (fun o : Int => Φ (some (vi o)) M x (L μ)) o) : Ev l D cy g K yX12_leastOf cX12_leastOf 2 (some .int) (rmd 2 0 0) (MX D cy g K (rmd 2 0 0) Φ) 0 0 M x (L μ) 0 [(0, vr g 75), (1, vi s0)] [] := by
  unfold fX12_leastOf at hf
  refine ev_aload_n dX12_leastOf_0 0 rfl ?_
  refine ev_iload_n dX12_leastOf_1 1 rfl ?_
  obtain ⟨v1, hv1, hf⟩ := Option.bind_eq_some_iff.mp hf
  refine cl_V1 (As := [vi s0]) (st := []) miX12_partOf (tX12_partOf hS (hc.w rfl rfl) s0 μ hv1) dX12_leastOf_2 lkX12_302 inX12_partOf rfl (hS.lt (hc 75 rfl)) rfl ⟨rfl, rfl⟩ ⟨⟨Nat.le_of_ble_eq_true rfl, Nat.le_of_ble_eq_true rfl⟩, Nat.zero_le _, Nat.zero_le _⟩ (Nat.le_of_ble_eq_true rfl) ?_
  refine ev_iconst dX12_leastOf_5 ?_
  refine ev_isub dX12_leastOf_6 ?_
  obtain rfl := Option.some.inj hf
  exact ev_iret dX12_leastOf_7 rfl ⟨Nat.zero_le _, Nat.zero_le _⟩ hr
theorem tX12_leastOf (hS : Sd M K P L) (hc : CIn P 75 93) (s0 : Int) (μ : Mem) {o : Int} (hf : fX12_leastOf s0 μ = some o) : Cn l D cy g K K yX12_leastOf cX12_leastOf 2 (some .int) (rmd 2 0 0) [vr g 75, vi s0] M x (L μ) (PE (some (vi o)) M x (L μ)) :=
 Cn.of (by decide) (Nat.le_of_ble_eq_true rfl) (eX12_leastOf hS hc s0 μ hf (PE_i _ _ _ _))
def fX12_least  (μ : Mem) : Option (Int × Mem) :=
  lt (upd2 μ 75 0 0) fun μ1 =>
  (fX12_laysFewest μ1).bind fun μ2 =>
  (fX12_leastOf (μ2 88 0) μ2).bind fun v3 =>
  some ((v3, μ2))
set_option maxRecDepth 4000 in
theorem eX12_least (hS : Sd M K P L) (hc : CIn P 75 93)  (μ : Mem)  {o : Int × Mem} (hf : fX12_least  μ = some o) (hr : (fun o : Int × Mem => Φ (some (vi o.1)) M x (L o.2)) o) : Ev l D cy g K yX12_least cX12_least 1 (some .int) (rmd 7 0 0) (MX D cy g K (rmd 7 0 0) Φ) 0 0 M x (L μ) 0 [(0, vr g 75)] [] := by
  unfold fX12_least at hf
  refine ev_aload_n dX12_least_0 0 rfl ?_
  refine ev_iconst dX12_least_1 ?_
  obtain ⟨μ1, hμ1, hf⟩ := lt_elim hf
  refine ev_putI 0 dX12_least_2 (hS.lt (hc 75 rfl)) rfl ciX12 (by decide) (Or.inl rfl) rfl rfl flX12_1 (hS.up (hc 75 rfl) hμ1) ?_
  refine ev_aload_n dX12_least_5 0 rfl ?_
  obtain ⟨μ2, hμ2, hf⟩ := Option.bind_eq_some_iff.mp hf
  refine cl_V0 (As := []) (st := []) miX12_laysFewest (tX12_laysFewest hS (hc.w rfl rfl) μ1 hμ2) dX12_least_6 lkX12_315 inX12_laysFewest rfl (hS.lt (hc 75 rfl)) rfl ⟨rfl, rfl⟩ ⟨⟨Nat.le_of_ble_eq_true rfl, Nat.le_of_ble_eq_true rfl⟩, Nat.zero_le _, Nat.zero_le _⟩ (Nat.le_of_ble_eq_true rfl) ?_
  refine ev_aload_n dX12_least_9 0 rfl ?_
  refine ev_aload_n dX12_least_10 0 rfl ?_
  refine ev_getK 19 dX12_least_11 (hS.lt (hc 75 rfl)) rfl (hS.K1 (hc 75 rfl) rfl) ciX12 (by decide) rfl flX12_94 ?_
  refine ev_iconst dX12_least_14 ?_
  refine ev_iald dX12_least_15 (hS.lt (hc 88 rfl)) rfl (hS.mem _ (hc 88 rfl)) ⟨by decide, by decide⟩ ?_
  refine ev_rn (w := vi (μ2 88 0)) (by rw [show (w32 0).toNat = 0 from by decide]) ?_
  obtain ⟨v3, hv3, hf⟩ := Option.bind_eq_some_iff.mp hf
  refine cl_V1 (As := [vi (μ2 88 0)]) (st := []) miX12_leastOf (tX12_leastOf hS (hc.w rfl rfl) (μ2 88 0) μ2 hv3) dX12_least_16 lkX12_318 inX12_leastOf rfl (hS.lt (hc 75 rfl)) rfl ⟨rfl, rfl⟩ ⟨⟨Nat.le_of_ble_eq_true rfl, Nat.le_of_ble_eq_true rfl⟩, Nat.zero_le _, Nat.zero_le _⟩ (Nat.le_of_ble_eq_true rfl) ?_
  obtain rfl := Option.some.inj hf
  exact ev_iret dX12_least_19 rfl ⟨Nat.zero_le _, Nat.zero_le _⟩ hr
theorem tX12_least (hS : Sd M K P L) (hc : CIn P 75 93) (μ : Mem) {o : Int × Mem} (hf : fX12_least μ = some o) : Cn l D cy g K K yX12_least cX12_least 1 (some .int) (rmd 7 0 0) [vr g 75] M x (L μ) (PE (some (vi o.1)) M x (L o.2)) :=
 Cn.of (by decide) (Nat.le_of_ble_eq_true rfl) (eX12_least hS hc μ hf (PE_i _ _ _ _))
def fX12_ways  (μ : Mem) : Option (Int × Mem) :=
  lt (upd2 μ 75 0 0) fun μ1 =>
  (fX12_laysFewest μ1).bind fun μ2 =>
  gd (0 ≤ w32 (μ2 88 0) ∧ w32 (μ2 88 0) < 3840) <|
  some (((l_2i (l_div (μ2 92 (w32 (μ2 88 0)).toNat) 4096)), μ2))
set_option maxRecDepth 4000 in
theorem eX12_ways (hS : Sd M K P L) (hc : CIn P 75 93)  (μ : Mem)  {o : Int × Mem} (hf : fX12_ways  μ = some o) (hr : (fun o : Int × Mem => Φ (some (vi o.1)) M x (L o.2)) o) : Ev l D cy g K yX12_ways cX12_ways 1 (some .int) (rmd 7 0 0) (MX D cy g K (rmd 7 0 0) Φ) 0 0 M x (L μ) 0 [(0, vr g 75)] [] := by
  unfold fX12_ways at hf
  refine ev_aload_n dX12_ways_0 0 rfl ?_
  refine ev_iconst dX12_ways_1 ?_
  obtain ⟨μ1, hμ1, hf⟩ := lt_elim hf
  refine ev_putI 0 dX12_ways_2 (hS.lt (hc 75 rfl)) rfl ciX12 (by decide) (Or.inl rfl) rfl rfl flX12_1 (hS.up (hc 75 rfl) hμ1) ?_
  refine ev_aload_n dX12_ways_5 0 rfl ?_
  obtain ⟨μ2, hμ2, hf⟩ := Option.bind_eq_some_iff.mp hf
  refine cl_V0 (As := []) (st := []) miX12_laysFewest (tX12_laysFewest hS (hc.w rfl rfl) μ1 hμ2) dX12_ways_6 lkX12_315 inX12_laysFewest rfl (hS.lt (hc 75 rfl)) rfl ⟨rfl, rfl⟩ ⟨⟨Nat.le_of_ble_eq_true rfl, Nat.le_of_ble_eq_true rfl⟩, Nat.zero_le _, Nat.zero_le _⟩ (Nat.le_of_ble_eq_true rfl) ?_
  refine ev_aload_n dX12_ways_9 0 rfl ?_
  refine ev_getK 25 dX12_ways_10 (hS.lt (hc 75 rfl)) rfl (hS.K1 (hc 75 rfl) rfl) ciX12 (by decide) rfl flX12_107 ?_
  refine ev_aload_n dX12_ways_13 0 rfl ?_
  refine ev_getK 19 dX12_ways_14 (hS.lt (hc 75 rfl)) rfl (hS.K1 (hc 75 rfl) rfl) ciX12 (by decide) rfl flX12_94 ?_
  refine ev_iconst dX12_ways_17 ?_
  refine ev_iald dX12_ways_18 (hS.lt (hc 88 rfl)) rfl (hS.mem _ (hc 88 rfl)) ⟨by decide, by decide⟩ ?_
  refine ev_rn (w := vi (μ2 88 0)) (by rw [show (w32 0).toNat = 0 from by decide]) ?_
  obtain ⟨g3, hf⟩ := gd_elim hf
  refine ev_lald dX12_ways_19 (hS.lt (hc 92 rfl)) rfl (hS.mem _ (hc 92 rfl)) g3 ?_
  refine ev_ldc2 4096 dX12_ways_20 klX12_292 (by decide) ?_
  refine ev_ldiv dX12_ways_23 (by decide) ?_
  refine ev_l2i dX12_ways_24 ?_
  obtain rfl := Option.some.inj hf
  exact ev_iret dX12_ways_25 rfl ⟨Nat.zero_le _, Nat.zero_le _⟩ hr
theorem tX12_ways (hS : Sd M K P L) (hc : CIn P 75 93) (μ : Mem) {o : Int × Mem} (hf : fX12_ways μ = some o) : Cn l D cy g K K yX12_ways cX12_ways 1 (some .int) (rmd 7 0 0) [vr g 75] M x (L μ) (PE (some (vi o.1)) M x (L o.2)) :=
 Cn.of (by decide) (Nat.le_of_ble_eq_true rfl) (eX12_ways hS hc μ hf (PE_i _ _ _ _))
def fX12_nearer_b13 (s0 : Int) (v3 : Int) (v4 : Int) (μ : Mem) : Option ((Int × Int × Mem) ⊕ (Int × Mem)) :=
  if w32 v4 < w32 1 then
    some (.inr (v3, μ))
  else
    (fX12_partOf s0 μ).bind fun v6 =>
    if w32 v6 ≤ w32 1 then
      some (.inl (v3, (v4 + (-1)), μ))
    else
      gd (0 ≤ w32 v4 ∧ w32 v4 < 6) <|
      if w32 (μ 93 (w32 v4).toNat) < 0 then
        some (.inl (v3, (v4 + (-1)), μ))
      else
        gd (0 ≤ w32 v4 ∧ w32 v4 < 6) <|
        (fX12_partOf (μ 93 (w32 v4).toNat) μ).bind fun v11 =>
        (fX12_partOf s0 μ).bind fun v12 =>
        lt (if w32 v11 = w32 (v12 - 1) then
            v4
          else
            v3) fun v13 =>
        some (.inl (v13, (v4 + (-1)), μ))
set_option maxRecDepth 4000 in
theorem tX12_nearer_b13 (hS : Sd M K P L) (hc : CIn P 75 95) (s0 : Int) (v3 : Int) (v4 : Int) (μ : Mem)  {o : (Int × Int × Mem) ⊕ (Int × Mem)} (hf : fX12_nearer_b13 s0 v3 v4 μ = some o) (hr : (Sum.elim (fun s : Int × Int × Mem => Ev l D cy g K yX12_nearer cX12_nearer 4 (some .int) (rmd 6 0 0) (MX D cy g K (rmd 6 0 0) Φ) 0 0 M x (L s.2.2) 13 [(0, vr g 75), (1, vi s0), (2, vi s.1), (3, vi s.2.1)] []) (fun e : Int × Mem => Ev l D cy g K yX12_nearer cX12_nearer 4 (some .int) (rmd 6 0 0) (MX D cy g K (rmd 6 0 0) Φ) 0 0 M x (L e.2) 68 [(2, vi e.1)] [])) o) : Ev l D cy g K yX12_nearer cX12_nearer 4 (some .int) (rmd 6 0 0) (MX D cy g K (rmd 6 0 0) Φ) 0 0 M x (L μ) 13 [(0, vr g 75), (1, vi s0), (2, vi v3), (3, vi v4)] [] := by
  unfold fX12_nearer_b13 at hf
  refine ev_iload_n dX12_nearer_13 3 rfl ?_
  refine ev_iconst dX12_nearer_14 ?_
  refine ev_icmp_lt 68 dX12_nearer_15 (by decide) (fun h5 => ?_) (fun h5 => ?_)
  · rw [if_pos h5] at hf
    obtain rfl := Option.some.inj hf
    refine ev_sub [2] rfl ?_
    exact hr
  · rw [if_neg h5] at hf
    refine ev_aload_n dX12_nearer_18 0 rfl ?_
    refine ev_iload_n dX12_nearer_19 1 rfl ?_
    obtain ⟨v6, hv6, hf⟩ := Option.bind_eq_some_iff.mp hf
    refine cl_V1 (As := [vi s0]) (st := []) miX12_partOf (tX12_partOf hS (hc.w rfl rfl) s0 μ hv6) dX12_nearer_20 lkX12_302 inX12_partOf rfl (hS.lt (hc 75 rfl)) rfl ⟨rfl, rfl⟩ ⟨⟨Nat.le_of_ble_eq_true rfl, Nat.le_of_ble_eq_true rfl⟩, Nat.zero_le _, Nat.zero_le _⟩ (Nat.le_of_ble_eq_true rfl) ?_
    refine ev_iconst dX12_nearer_23 ?_
    refine ev_icmp_le 60 dX12_nearer_24 (by decide) (fun h7 => ?_) (fun h7 => ?_)
    · rw [if_pos h7] at hf
      refine ev_iload_n dX12_nearer_60 2 rfl ?_
      refine ev_istore_n (al2 := [(2, vi v3), (0, vr g 75), (1, vi s0), (3, vi v4)]) dX12_nearer_61 2 rfl (by decide) rfl ?_
      refine ev_iinc (al2 := [(3, vi (v4 + (-1))), (2, vi v3), (0, vr g 75), (1, vi s0)]) dX12_nearer_62 3 rfl (by decide) rfl ?_
      refine ev_goto 13 dX12_nearer_65 (by decide) ?_
      obtain rfl := Option.some.inj hf
      refine ev_sub [2, 3, 1, 0] rfl ?_
      exact hr
    · rw [if_neg h7] at hf
      refine ev_aload_n dX12_nearer_27 0 rfl ?_
      refine ev_getK 27 dX12_nearer_28 (hS.lt (hc 75 rfl)) rfl (hS.K1 (hc 75 rfl) rfl) ciX12 (by decide) rfl flX12_110 ?_
      refine ev_iload_n dX12_nearer_31 3 rfl ?_
      obtain ⟨g8, hf⟩ := gd_elim hf
      refine ev_iald dX12_nearer_32 (hS.lt (hc 93 rfl)) rfl (hS.mem _ (hc 93 rfl)) g8 ?_
      refine ev_if_lt 60 dX12_nearer_33 (by decide) (fun h9 => ?_) (fun h9 => ?_)
      · rw [if_pos h9] at hf
        refine ev_iload_n dX12_nearer_60 2 rfl ?_
        refine ev_istore_n (al2 := [(2, vi v3), (0, vr g 75), (1, vi s0), (3, vi v4)]) dX12_nearer_61 2 rfl (by decide) rfl ?_
        refine ev_iinc (al2 := [(3, vi (v4 + (-1))), (2, vi v3), (0, vr g 75), (1, vi s0)]) dX12_nearer_62 3 rfl (by decide) rfl ?_
        refine ev_goto 13 dX12_nearer_65 (by decide) ?_
        obtain rfl := Option.some.inj hf
        refine ev_sub [2, 3, 1, 0] rfl ?_
        exact hr
      · rw [if_neg h9] at hf
        refine ev_aload_n dX12_nearer_36 0 rfl ?_
        refine ev_aload_n dX12_nearer_37 0 rfl ?_
        refine ev_getK 27 dX12_nearer_38 (hS.lt (hc 75 rfl)) rfl (hS.K1 (hc 75 rfl) rfl) ciX12 (by decide) rfl flX12_110 ?_
        refine ev_iload_n dX12_nearer_41 3 rfl ?_
        obtain ⟨g10, hf⟩ := gd_elim hf
        refine ev_iald dX12_nearer_42 (hS.lt (hc 93 rfl)) rfl (hS.mem _ (hc 93 rfl)) g10 ?_
        obtain ⟨v11, hv11, hf⟩ := Option.bind_eq_some_iff.mp hf
        refine cl_V1 (As := [vi (μ 93 (w32 v4).toNat)]) (st := []) miX12_partOf (tX12_partOf hS (hc.w rfl rfl) (μ 93 (w32 v4).toNat) μ hv11) dX12_nearer_43 lkX12_302 inX12_partOf rfl (hS.lt (hc 75 rfl)) rfl ⟨rfl, rfl⟩ ⟨⟨Nat.le_of_ble_eq_true rfl, Nat.le_of_ble_eq_true rfl⟩, Nat.zero_le _, Nat.zero_le _⟩ (Nat.le_of_ble_eq_true rfl) ?_
        refine ev_aload_n dX12_nearer_46 0 rfl ?_
        refine ev_iload_n dX12_nearer_47 1 rfl ?_
        obtain ⟨v12, hv12, hf⟩ := Option.bind_eq_some_iff.mp hf
        refine cl_V1 (As := [vi s0]) (st := [vi v11]) miX12_partOf (tX12_partOf hS (hc.w rfl rfl) s0 μ hv12) dX12_nearer_48 lkX12_302 inX12_partOf rfl (hS.lt (hc 75 rfl)) rfl ⟨rfl, rfl⟩ ⟨⟨Nat.le_of_ble_eq_true rfl, Nat.le_of_ble_eq_true rfl⟩, Nat.zero_le _, Nat.zero_le _⟩ (Nat.le_of_ble_eq_true rfl) ?_
        refine ev_iconst dX12_nearer_51 ?_
        refine ev_isub dX12_nearer_52 ?_
        obtain ⟨v13, hv13, hf⟩ := lt_elim hf
        have hJv13 : Ev l D cy g K yX12_nearer cX12_nearer 4 (some .int) (rmd 6 0 0) (MX D cy g K (rmd 6 0 0) Φ) 0 0 M x (L μ) 61 [(0, vr g 75), (1, vi s0), (2, vi v3), (3, vi v4)] [vi v13] := by
          refine ev_istore_n (al2 := [(2, vi v13), (0, vr g 75), (1, vi s0), (3, vi v4)]) dX12_nearer_61 2 rfl (by decide) rfl ?_
          refine ev_iinc (al2 := [(3, vi (v4 + (-1))), (2, vi v13), (0, vr g 75), (1, vi s0)]) dX12_nearer_62 3 rfl (by decide) rfl ?_
          refine ev_goto 13 dX12_nearer_65 (by decide) ?_
          obtain rfl := Option.some.inj hf
          refine ev_sub [2, 3, 1, 0] rfl ?_
          exact hr
        refine ev_icmp_ne 60 dX12_nearer_53 (by decide) (fun h14 => ?_) (fun h14 => ?_)
        · refine ev_iload_n dX12_nearer_60 2 rfl ?_
          have e9 : v13 = v3 := hv13.trans ((if_neg h14))
          subst e9
          exact hJv13
        · refine ev_iload_n dX12_nearer_56 3 rfl ?_
          refine ev_goto 61 dX12_nearer_57 (by decide) ?_
          have e9 : v13 = v4 := hv13.trans ((if_pos h14))
          subst e9
          exact hJv13
def fX12_nearer (s0 : Int) (μ : Mem) : Option (Int × Mem) :=
  (fX12_leadsFrom s0 0 μ).bind fun μ1 =>
  lt (μ1 81 0) fun v2 =>
  (loopN (fun s => fX12_nearer_b13 s0 s.1 s.2.1 s.2.2) FU ((-1), v2, μ1)).bind fun q15 =>
  some ((q15.1, q15.2))
set_option maxRecDepth 4000 in
theorem eX12_nearer (hS : Sd M K P L) (hc : CIn P 75 95) (s0 : Int) (μ : Mem)  {o : Int × Mem} (hf : fX12_nearer s0 μ = some o) (hr : (fun o : Int × Mem => Φ (some (vi o.1)) M x (L o.2)) o) : Ev l D cy g K yX12_nearer cX12_nearer 4 (some .int) (rmd 6 0 0) (MX D cy g K (rmd 6 0 0) Φ) 0 0 M x (L μ) 0 [(0, vr g 75), (1, vi s0)] [] := by
  unfold fX12_nearer at hf
  refine ev_aload_n dX12_nearer_0 0 rfl ?_
  refine ev_iload_n dX12_nearer_1 1 rfl ?_
  refine ev_iconst dX12_nearer_2 ?_
  obtain ⟨μ1, hμ1, hf⟩ := Option.bind_eq_some_iff.mp hf
  refine cl_V0 (As := [vi s0, vi 0]) (st := []) miX12_leadsFrom (tX12_leadsFrom hS (hc.w rfl rfl) s0 0 μ hμ1) dX12_nearer_3 lkX12_321 inX12_leadsFrom rfl (hS.lt (hc 75 rfl)) rfl ⟨rfl, rfl⟩ ⟨⟨Nat.le_of_ble_eq_true rfl, Nat.le_of_ble_eq_true rfl⟩, Nat.zero_le _, Nat.zero_le _⟩ (Nat.le_of_ble_eq_true rfl) ?_
  refine ev_iconst dX12_nearer_6 ?_
  refine ev_istore_n (al2 := [(2, vi (-1)), (0, vr g 75), (1, vi s0)]) dX12_nearer_7 2 rfl (by decide) rfl ?_
  refine ev_aload_n dX12_nearer_8 1 rfl ?_
  refine cl_V1 (As := []) (st := []) miX12_cakes (tX12_cakes hS (hc.w rfl rfl) μ1 (o := (μ1 81 0)) rfl) dX12_nearer_9 lkX12_209 inX12_cakes rfl (hS.lt (hc 75 rfl)) rfl ⟨rfl, rfl⟩ ⟨⟨Nat.le_of_ble_eq_true rfl, Nat.le_of_ble_eq_true rfl⟩, Nat.zero_le _, Nat.zero_le _⟩ (Nat.le_of_ble_eq_true rfl) ?_
  obtain ⟨v2, hv2, hf⟩ := lt_elim hf
  refine ev_rni hv2 ?_
  refine ev_istore_n (al2 := [(3, vi v2), (2, vi (-1)), (0, vr g 75), (1, vi s0)]) dX12_nearer_12 3 rfl (by decide) rfl ?_
  obtain ⟨q15, hq15, hf⟩ := Option.bind_eq_some_iff.mp hf
  refine ev_sub [2, 3, 1, 0] rfl ?_
  refine loop_ev (H := (fun s : Int × Int × Mem => Ev l D cy g K yX12_nearer cX12_nearer 4 (some .int) (rmd 6 0 0) (MX D cy g K (rmd 6 0 0) Φ) 0 0 M x (L s.2.2) 13 [(0, vr g 75), (1, vi s0), (2, vi s.1), (3, vi s.2.1)] [])) (Hx := (fun e : Int × Mem => Ev l D cy g K yX12_nearer cX12_nearer 4 (some .int) (rmd 6 0 0) (MX D cy g K (rmd 6 0 0) Φ) 0 0 M x (L e.2) 68 [(2, vi e.1)] [])) (fun s o hb hr => tX12_nearer_b13 hS hc s0 s.1 s.2.1 s.2.2 hb hr) FU _ _ hq15 ?_
  show Ev l D cy g K yX12_nearer cX12_nearer 4 (some .int) (rmd 6 0 0) (MX D cy g K (rmd 6 0 0) Φ) 0 0 M x (L q15.2) 68 [(2, vi q15.1)] []
  refine ev_iload_n dX12_nearer_68 0 rfl ?_
  obtain rfl := Option.some.inj hf
  exact ev_iret dX12_nearer_69 rfl ⟨Nat.zero_le _, Nat.zero_le _⟩ hr
theorem tX12_nearer (hS : Sd M K P L) (hc : CIn P 75 95) (s0 : Int) (μ : Mem) {o : Int × Mem} (hf : fX12_nearer s0 μ = some o) : Cn l D cy g K K yX12_nearer cX12_nearer 4 (some .int) (rmd 6 0 0) [vr g 75, vi s0] M x (L μ) (PE (some (vi o.1)) M x (L o.2)) :=
 Cn.of (by decide) (Nat.le_of_ble_eq_true rfl) (eX12_nearer hS hc s0 μ hf (PE_i _ _ _ _))
end L1
