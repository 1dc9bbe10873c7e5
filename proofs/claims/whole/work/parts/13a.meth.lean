section L1
variable {l : Launch} {D : va_G} {cy : Nat → ClassId} {g : Nat → Nat} {K : KT} {M : Nat} {x : Bool} {P : Nat → Prop} {L : Mem → Mem} {Φ : Post}
def fX2_size (k : Nat) (μ : Mem) : Int :=
  (μ k 0)
set_option maxRecDepth 4000 in
theorem eX2_size (hS : Sd M K P L) (hc : CIn P 1 39) (k : Nat) (μ : Mem) (hk : isGr k) {o : Int} (hf : fX2_size k μ = o) (hr : (fun o : Int => Φ (some (vi o)) M x (L μ)) o) : Ev l D cy g K yX2_size cX2_size 1 (some .int) (rmd 1 0 0) (MX D cy g K (rmd 1 0 0) Φ) 0 0 M x (L μ) 0 [(0, vr g k)] [] := by
  unfold fX2_size at hf
  refine ev_aload_n dX2_size_0 0 rfl ?_
  refine ev_getI 0 dX2_size_1 (hS.lt (hc _ (inR_w (i_Gr0 hk) rfl rfl))) (s_Gr0 hk) (hS.mem _ (hc _ (inR_w (i_Gr0 hk) rfl rfl))) ciX2 (by decide) rfl flX2_34 ?_
  obtain rfl := hf
  exact ev_iret dX2_size_4 rfl ⟨Nat.zero_le _, Nat.zero_le _⟩ hr
theorem tX2_size (hS : Sd M K P L) (hc : CIn P 1 39) (k : Nat) (μ : Mem) (hk : isGr k) {o : Int} (hf : fX2_size k μ = o) : Cn l D cy g K K yX2_size cX2_size 1 (some .int) (rmd 1 0 0) [vr g k] M x (L μ) (PE (some (vi o)) M x (L μ)) :=
 Cn.of (by decide) (Nat.le_of_ble_eq_true rfl) (eX2_size hS hc k μ hk hf (PE_i _ _ _ _))
def fX11_at (row : Nat) (i0 : Int) (μ : Mem) : Int :=
  lt (if w32 i0 < 0 then
      (-1)
    else
      if w32 i0 < w32 (alen row : Int) then
        (μ row (w32 i0).toNat)
      else
        (-1)) fun v1 =>
  v1
set_option maxRecDepth 4000 in
theorem eX11_at (hS : Sd M K P L) (hc : CIn P 1 1) (row : Nat) (i0 : Int) (μ : Mem) (hrow : P row ∧ sh row = (1, alen row)) {o : Int} (hf : fX11_at row i0 μ = o) (hr : (fun o : Int => Φ (some (vi o)) M x (L μ)) o) : Ev l D cy g K yX11_at cX11_at 2 (some .int) (rmd 1 0 0) (MX D cy g K (rmd 1 0 0) Φ) 0 0 M x (L μ) 0 [(0, vr g row), (1, vi i0)] [] := by
  unfold fX11_at at hf
  refine ev_iload_n dX11_at_0 1 rfl ?_
  obtain ⟨v1, hv1, hf⟩ := lt_elim hf
  have hJv1 : Ev l D cy g K yX11_at cX11_at 2 (some .int) (rmd 1 0 0) (MX D cy g K (rmd 1 0 0) Φ) 0 0 M x (L μ) 17 [(0, vr g row), (1, vi i0)] [vi v1] := by
    obtain rfl := hf
    exact ev_iret dX11_at_17 rfl ⟨Nat.zero_le _, Nat.zero_le _⟩ hr
  refine ev_if_lt 16 dX11_at_1 (by decide) (fun h2 => ?_) (fun h2 => ?_)
  · refine ev_iconst dX11_at_16 ?_
    have e9 : v1 = (-1) := hv1.trans ((if_pos h2))
    subst e9
    exact hJv1
  · refine ev_iload_n dX11_at_4 1 rfl ?_
    refine ev_aload_n dX11_at_5 0 rfl ?_
    refine ev_alen dX11_at_6 (hS.lt hrow.1) hrow.2 (by decide) ?_
    refine ev_icmp_ge 16 dX11_at_7 (by decide) (fun h3 => ?_) (fun h3 => ?_)
    · refine ev_iconst dX11_at_16 ?_
      have e9 : v1 = (-1) := hv1.trans (((if_neg h2)).trans (if_neg h3))
      subst e9
      exact hJv1
    · refine ev_aload_n dX11_at_10 0 rfl ?_
      refine ev_iload_n dX11_at_11 1 rfl ?_
      refine ev_iald dX11_at_12 (hS.lt hrow.1) hrow.2 (hS.mem _ hrow.1) ⟨by omega, by have h9 := w32_nat_le (alen row); omega⟩ ?_
      refine ev_goto 17 dX11_at_13 (by decide) ?_
      have e9 : v1 = (μ row (w32 i0).toNat) := hv1.trans (((if_neg h2)).trans (if_pos h3))
      subst e9
      exact hJv1
theorem tX11_at (hS : Sd M K P L) (hc : CIn P 1 1) (row : Nat) (i0 : Int) (μ : Mem) (hrow : P row ∧ sh row = (1, alen row)) {o : Int} (hf : fX11_at row i0 μ = o) : Cn l D cy g K K yX11_at cX11_at 2 (some .int) (rmd 1 0 0) [vr g row, vi i0] M x (L μ) (PE (some (vi o)) M x (L μ)) :=
 Cn.of (by decide) (Nat.le_of_ble_eq_true rfl) (eX11_at hS hc row i0 μ hrow hf (PE_i _ _ _ _))
def fX11_atF (i0 : Int) (μ : Mem) : Int :=
  lt (if w32 i0 < 0 then
      (-1)
    else
      if w32 i0 < w32 6 then
        (factL.getD (w32 i0).toNat 0)
      else
        (-1)) fun v1 =>
  v1
set_option maxRecDepth 4000 in
theorem eX11_atF (hS : Sd M K P L) (hc : CIn P 1 1) (i0 : Int) (μ : Mem)  {o : Int} (hf : fX11_atF i0 μ = o) (hr : (fun o : Int => Φ (some (vi o)) M x (L μ)) o) : Ev l D cy g K yX11_at cX11_at 2 (some .int) (rmd 1 0 0) (MX D cy g K (rmd 1 0 0) Φ) 0 0 M x (L μ) 0 [(0, vr g 1020), (1, vi i0)] [] := by
  unfold fX11_atF at hf
  refine ev_iload_n dX11_at_0 1 rfl ?_
  obtain ⟨v1, hv1, hf⟩ := lt_elim hf
  have hJv1 : Ev l D cy g K yX11_at cX11_at 2 (some .int) (rmd 1 0 0) (MX D cy g K (rmd 1 0 0) Φ) 0 0 M x (L μ) 17 [(0, vr g 1020), (1, vi i0)] [vi v1] := by
    obtain rfl := hf
    exact ev_iret dX11_at_17 rfl ⟨Nat.zero_le _, Nat.zero_le _⟩ hr
  refine ev_if_lt 16 dX11_at_1 (by decide) (fun h2 => ?_) (fun h2 => ?_)
  · refine ev_iconst dX11_at_16 ?_
    have e9 : v1 = (-1) := hv1.trans ((if_pos h2))
    subst e9
    exact hJv1
  · refine ev_iload_n dX11_at_4 1 rfl ?_
    refine ev_aload_n dX11_at_5 0 rfl ?_
    refine ev_alenF dX11_at_6 ?_
    refine ev_rn (w := vi 6) rfl ?_
    refine ev_icmp_ge 16 dX11_at_7 (by decide) (fun h3 => ?_) (fun h3 => ?_)
    · refine ev_iconst dX11_at_16 ?_
      have e9 : v1 = (-1) := hv1.trans (((if_neg h2)).trans (if_neg h3))
      subst e9
      exact hJv1
    · refine ev_aload_n dX11_at_10 0 rfl ?_
      refine ev_iload_n dX11_at_11 1 rfl ?_
      refine ev_ialdF dX11_at_12 ⟨by omega, by have h9 : w32 6 = 6 := (by decide); omega⟩ ?_
      refine ev_goto 17 dX11_at_13 (by decide) ?_
      have e9 : v1 = (factL.getD (w32 i0).toNat 0) := hv1.trans (((if_neg h2)).trans (if_pos h3))
      subst e9
      exact hJv1
theorem tX11_atF (hS : Sd M K P L) (hc : CIn P 1 1) (i0 : Int) (μ : Mem) {o : Int} (hf : fX11_atF i0 μ = o) : Cn l D cy g K K yX11_at cX11_at 2 (some .int) (rmd 1 0 0) [vr g 1020, vi i0] M x (L μ) (PE (some (vi o)) M x (L μ)) :=
 Cn.of (by decide) (Nat.le_of_ble_eq_true rfl) (eX11_atF hS hc i0 μ hf (PE_i _ _ _ _))
def fX2_kindOf (k : Nat) (cake : Int) (μ : Mem) : Int :=
  (fX11_at (k + 2) cake μ)
set_option maxRecDepth 4000 in
theorem eX2_kindOf (hS : Sd M K P L) (hc : CIn P 1 39) (k : Nat) (cake : Int) (μ : Mem) (hk : isGr k) {o : Int} (hf : fX2_kindOf k cake μ = o) (hr : (fun o : Int => Φ (some (vi o)) M x (L μ)) o) : Ev l D cy g K yX2_kindOf cX2_kindOf 2 (some .int) (rmd 2 0 0) (MX D cy g K (rmd 2 0 0) Φ) 0 0 M x (L μ) 0 [(0, vr g k), (1, vi cake)] [] := by
  unfold fX2_kindOf at hf
  refine ev_aload_n dX2_kindOf_0 0 rfl ?_
  refine ev_getK 2 dX2_kindOf_1 (hS.lt (hc _ (inR_w (i_Gr0 hk) rfl rfl))) (s_Gr0 hk) (hS.K1 (hc _ (inR_w (i_Gr0 hk) rfl rfl)) (K_Gr2 hk)) ciX2 (by decide) rfl flX2_15 ?_
  refine ev_iload_n dX2_kindOf_4 1 rfl ?_
  refine cl_N1 (As := [vr g (k + 2), vi cake]) (st := []) (host := "HotCakes") miX11_at (tX11_at hS (hc.w rfl rfl) (k + 2) cake μ (⟨(hc _ (inR_w (i_Gr2 hk) rfl rfl)), (ia_of (s_Gr2 hk))⟩) (o := (fX11_at (k + 2) cake μ)) rfl) dX2_kindOf_5 (by decide) stX11_at rfl ⟨⟨Nat.le_of_ble_eq_true rfl, Nat.le_of_ble_eq_true rfl⟩, Nat.zero_le _, Nat.zero_le _⟩ (Nat.le_of_ble_eq_true rfl) ?_
  obtain rfl := hf
  exact ev_iret dX2_kindOf_8 rfl ⟨Nat.zero_le _, Nat.zero_le _⟩ hr
theorem tX2_kindOf (hS : Sd M K P L) (hc : CIn P 1 39) (k : Nat) (cake : Int) (μ : Mem) (hk : isGr k) {o : Int} (hf : fX2_kindOf k cake μ = o) : Cn l D cy g K K yX2_kindOf cX2_kindOf 2 (some .int) (rmd 2 0 0) [vr g k, vi cake] M x (L μ) (PE (some (vi o)) M x (L μ)) :=
 Cn.of (by decide) (Nat.le_of_ble_eq_true rfl) (eX2_kindOf hS hc k cake μ hk hf (PE_i _ _ _ _))
def fX2_hasSide (k : Nat) (cake : Int) (μ : Mem) : Bool :=
  lt (fX11_at (k + 2) cake μ) fun v1 =>
  lt (if w32 v1 = w32 1 then
      true
    else
      if w32 v1 = w32 3 then
        true
      else
        false) fun v2 =>
  v2
set_option maxRecDepth 4000 in
theorem eX2_hasSide (hS : Sd M K P L) (hc : CIn P 1 39) (k : Nat) (cake : Int) (μ : Mem) (hk : isGr k) {o : Bool} (hf : fX2_hasSide k cake μ = o) (hr : (fun o : Bool => Φ (some (vb o)) M x (L μ)) o) : Ev l D cy g K yX2_hasSide cX2_hasSide 3 (some .boolean) (rmd 3 0 0) (MX D cy g K (rmd 3 0 0) Φ) 0 0 M x (L μ) 0 [(0, vr g k), (1, vi cake)] [] := by
  unfold fX2_hasSide at hf
  refine ev_aload_n dX2_hasSide_0 0 rfl ?_
  refine ev_iload_n dX2_hasSide_1 1 rfl ?_
  refine cl_V1 (As := [vi cake]) (st := []) miX2_kindOf (tX2_kindOf hS (hc.w rfl rfl) k cake μ hk (o := (fX11_at (k + 2) cake μ)) rfl) dX2_hasSide_2 lkX2_56 inX2_kindOf rfl (hS.lt (hc _ (inR_w (i_Gr0 hk) rfl rfl))) (s_Gr0 hk) ⟨rfl, rfl⟩ ⟨⟨Nat.le_of_ble_eq_true rfl, Nat.le_of_ble_eq_true rfl⟩, Nat.zero_le _, Nat.zero_le _⟩ (Nat.le_of_ble_eq_true rfl) ?_
  obtain ⟨v1, hv1, hf⟩ := lt_elim hf
  refine ev_rni hv1 ?_
  refine ev_istore_n (al2 := [(2, vi v1), (0, vr g k), (1, vi cake)]) dX2_hasSide_5 2 rfl (by decide) rfl ?_
  refine ev_iload_n dX2_hasSide_6 0 rfl ?_
  refine ev_iconst dX2_hasSide_7 ?_
  obtain ⟨v2, hv2, hf⟩ := lt_elim hf
  have hJv2 : Ev l D cy g K yX2_hasSide cX2_hasSide 3 (some .boolean) (rmd 3 0 0) (MX D cy g K (rmd 3 0 0) Φ) 0 0 M x (L μ) 21 [(2, vi v1), (0, vr g k), (1, vi cake)] [vb v2] := by
    obtain rfl := hf
    exact ev_bret (b := v2) dX2_hasSide_21 rfl ⟨Nat.zero_le _, Nat.zero_le _⟩ hr
  refine ev_icmp_eq 16 dX2_hasSide_8 (by decide) (fun h3 => ?_) (fun h3 => ?_)
  · refine ev_iconst dX2_hasSide_16 ?_
    refine ev_goto 21 dX2_hasSide_17 (by decide) ?_
    have e9 : v2 = true := hv2.trans ((if_pos h3))
    subst e9
    exact hJv2
  · refine ev_iload_n dX2_hasSide_11 0 rfl ?_
    refine ev_iconst dX2_hasSide_12 ?_
    refine ev_icmp_ne 20 dX2_hasSide_13 (by decide) (fun h4 => ?_) (fun h4 => ?_)
    · refine ev_iconst dX2_hasSide_20 ?_
      have e9 : v2 = false := hv2.trans (((if_neg h3)).trans (if_neg h4))
      subst e9
      exact hJv2
    · refine ev_iconst dX2_hasSide_16 ?_
      refine ev_goto 21 dX2_hasSide_17 (by decide) ?_
      have e9 : v2 = true := hv2.trans (((if_neg h3)).trans (if_pos h4))
      subst e9
      exact hJv2
theorem tX2_hasSide (hS : Sd M K P L) (hc : CIn P 1 39) (k : Nat) (cake : Int) (μ : Mem) (hk : isGr k) {o : Bool} (hf : fX2_hasSide k cake μ = o) : Cn l D cy g K K yX2_hasSide cX2_hasSide 3 (some .boolean) (rmd 3 0 0) [vr g k, vi cake] M x (L μ) (PE (some (vb o)) M x (L μ)) :=
 Cn.of (by decide) (Nat.le_of_ble_eq_true rfl) (eX2_hasSide hS hc k cake μ hk hf (PE_i _ _ _ _))
def fX11_put (row : Nat) (i0 : Int) (value : Int) (μ : Mem) : Mem :=
  if w32 i0 < 0 then
    μ
  else
    if w32 i0 < w32 (alen row : Int) then
      lt (upd2 μ row ((w32 i0).toNat) value) fun μ3 =>
      μ3
    else
      μ
set_option maxRecDepth 4000 in
theorem eX11_put (hS : Sd M K P L) (hc : CIn P 1 1) (row : Nat) (i0 : Int) (value : Int) (μ : Mem) (hrow : P row ∧ sh row = (1, alen row)) {o : Mem} (hf : fX11_put row i0 value μ = o) (hr : (fun o : Mem => Φ none M x (L o)) o) : Ev l D cy g K yX11_put cX11_put 3 none (rmd 1 0 0) (MX D cy g K (rmd 1 0 0) Φ) 0 0 M x (L μ) 0 [(0, vr g row), (1, vi i0), (2, vi value)] [] := by
  unfold fX11_put at hf
  refine ev_iload_n dX11_put_0 1 rfl ?_
  refine ev_if_lt 14 dX11_put_1 (by decide) (fun h1 => ?_) (fun h1 => ?_)
  · rw [if_pos h1] at hf
    obtain rfl := hf
    exact ev_vret dX11_put_14 rfl ⟨Nat.zero_le _, Nat.zero_le _⟩ hr
  · rw [if_neg h1] at hf
    refine ev_iload_n dX11_put_4 1 rfl ?_
    refine ev_aload_n dX11_put_5 0 rfl ?_
    refine ev_alen dX11_put_6 (hS.lt hrow.1) hrow.2 (by decide) ?_
    refine ev_icmp_ge 14 dX11_put_7 (by decide) (fun h2 => ?_) (fun h2 => ?_)
    · rw [if_neg h2] at hf
      obtain rfl := hf
      exact ev_vret dX11_put_14 rfl ⟨Nat.zero_le _, Nat.zero_le _⟩ hr
    · rw [if_pos h2] at hf
      refine ev_aload_n dX11_put_10 0 rfl ?_
      refine ev_iload_n dX11_put_11 1 rfl ?_
      refine ev_iload_n dX11_put_12 2 rfl ?_
      obtain ⟨μ3, hμ3, hf⟩ := lt_elim hf
      refine ev_iast dX11_put_13 (hS.lt hrow.1) hrow.2 ⟨by omega, by have h9 := w32_nat_le (alen row); omega⟩ (hS.up hrow.1 hμ3) ?_
      obtain rfl := hf
      exact ev_vret dX11_put_14 rfl ⟨Nat.zero_le _, Nat.zero_le _⟩ hr
theorem tX11_put (hS : Sd M K P L) (hc : CIn P 1 1) (row : Nat) (i0 : Int) (value : Int) (μ : Mem) (hrow : P row ∧ sh row = (1, alen row)) {o : Mem} (hf : fX11_put row i0 value μ = o) : Cn l D cy g K K yX11_put cX11_put 3 none (rmd 1 0 0) [vr g row, vi i0, vi value] M x (L μ) (PE none M x (L o)) :=
 Cn.of (by decide) (Nat.le_of_ble_eq_true rfl) (eX11_put hS hc row i0 value μ hrow hf (PE_i _ _ _ _))
def fX7_cakeBehind_j43 (set0 : Int) (skip : Int) (v7 : Int) (v8 : Int) (v9 : Bool) (μ : Mem) : Option ((Int × Int) ⊕ (Int)) :=
  lt (if v9 = true then
      1
    else
      0) fun v10 =>
  lt (v7 - v10) fun v12 =>
  some (.inl (v12, (v8 + 1)))
set_option maxRecDepth 4000 in
theorem tX7_cakeBehind_j43 (hS : Sd M K P L) (hc : CIn P 25 26) (set0 : Int) (skip : Int) (v7 : Int) (v8 : Int) (v9 : Bool) (μ : Mem)  {o : (Int × Int) ⊕ (Int)} (hf : fX7_cakeBehind_j43 set0 skip v7 v8 v9 μ = some o) (hr : (Sum.elim (fun s : Int × Int => Ev l D cy g K yX7_cakeBehind cX7_cakeBehind 6 (some .int) (rmd 1 0 0) (MX D cy g K (rmd 1 0 0) Φ) 0 0 M x (L μ) 5 [(0, vr g 25), (1, vi set0), (3, vi s.1), (4, vi s.2)] []) (fun o : Int => Φ (some (vi o)) M x (L μ))) o) : Ev l D cy g K yX7_cakeBehind cX7_cakeBehind 6 (some .int) (rmd 1 0 0) (MX D cy g K (rmd 1 0 0) Φ) 0 0 M x (L μ) 43 [(0, vr g 25), (1, vi set0), (3, vi v7), (4, vi v8), (5, vb v9)] [] := by
  unfold fX7_cakeBehind_j43 at hf
  refine ev_iload_n dX7_cakeBehind_43 2 rfl ?_
  refine ev_iload dX7_cakeBehind_44 4 rfl ?_
  obtain ⟨v10, hv10, hf⟩ := lt_elim hf
  have hJv10 : Ev l D cy g K yX7_cakeBehind cX7_cakeBehind 6 (some .int) (rmd 1 0 0) (MX D cy g K (rmd 1 0 0) Φ) 0 0 M x (L μ) 54 [(0, vr g 25), (1, vi set0), (3, vi v7), (4, vi v8), (5, vb v9)] [vi v10, vi v7] := by
    refine ev_isub dX7_cakeBehind_54 ?_
    obtain ⟨v12, hv12, hf⟩ := lt_elim hf
    refine ev_rni hv12 ?_
    refine ev_istore_n (al2 := [(3, vi v12), (0, vr g 25), (1, vi set0), (4, vi v8), (5, vb v9)]) dX7_cakeBehind_55 3 rfl (by decide) rfl ?_
    refine ev_iinc (al2 := [(4, vi (v8 + 1)), (3, vi v12), (0, vr g 25), (1, vi set0), (5, vb v9)]) dX7_cakeBehind_56 3 rfl (by decide) rfl ?_
    refine ev_goto 5 dX7_cakeBehind_59 (by decide) ?_
    obtain rfl := Option.some.inj hf
    refine ev_sub [2, 3, 1, 0] rfl ?_
    exact hr
  refine ev_ifb_eq 53 dX7_cakeBehind_46 (by decide) (fun h11 => ?_) (fun h11 => ?_)
  · refine ev_iconst dX7_cakeBehind_53 ?_
    have e9 : v10 = 0 := hv10.trans ((if_neg h11))
    subst e9
    exact hJv10
  · refine ev_iconst dX7_cakeBehind_49 ?_
    refine ev_goto 54 dX7_cakeBehind_50 (by decide) ?_
    have e9 : v10 = 1 := hv10.trans ((if_pos h11))
    subst e9
    exact hJv10
def fX7_cakeBehind_b5 (set0 : Int) (skip : Int) (v1 : Int) (v2 : Int) (μ : Mem) : Option ((Int × Int) ⊕ (Int)) :=
  if w32 v2 < w32 (μ 25 1) then
    lt (if w32 (i_and (i_shr set0 v2) 1) = w32 1 then
        true
      else
        false) fun v4 =>
    if v4 = true then
      if w32 v1 = 0 then
        some (.inr v2)
      else
        fX7_cakeBehind_j43 set0 skip v1 v2 v4 μ
    else
      fX7_cakeBehind_j43 set0 skip v1 v2 v4 μ
  else
    some (.inr 0)
set_option maxRecDepth 4000 in
theorem tX7_cakeBehind_b5 (hS : Sd M K P L) (hc : CIn P 25 26) (set0 : Int) (skip : Int) (v1 : Int) (v2 : Int) (μ : Mem)  {o : (Int × Int) ⊕ (Int)} (hf : fX7_cakeBehind_b5 set0 skip v1 v2 μ = some o) (hr : (Sum.elim (fun s : Int × Int => Ev l D cy g K yX7_cakeBehind cX7_cakeBehind 6 (some .int) (rmd 1 0 0) (MX D cy g K (rmd 1 0 0) Φ) 0 0 M x (L μ) 5 [(0, vr g 25), (1, vi set0), (3, vi s.1), (4, vi s.2)] []) (fun o : Int => Φ (some (vi o)) M x (L μ))) o) : Ev l D cy g K yX7_cakeBehind cX7_cakeBehind 6 (some .int) (rmd 1 0 0) (MX D cy g K (rmd 1 0 0) Φ) 0 0 M x (L μ) 5 [(0, vr g 25), (1, vi set0), (3, vi v1), (4, vi v2)] [] := by
  unfold fX7_cakeBehind_b5 at hf
  refine ev_iload dX7_cakeBehind_5 3 rfl ?_
  refine ev_aload_n dX7_cakeBehind_7 0 rfl ?_
  refine ev_getI 1 dX7_cakeBehind_8 (hS.lt (hc 25 rfl)) rfl (hS.mem _ (hc 25 rfl)) ciX7 (by decide) rfl flX7_65 ?_
  refine ev_icmp_ge 62 dX7_cakeBehind_11 (by decide) (fun h3 => ?_) (fun h3 => ?_)
  · rw [if_neg h3] at hf
    refine ev_iconst dX7_cakeBehind_62 ?_
    obtain rfl := Option.some.inj hf
    exact ev_iret dX7_cakeBehind_63 rfl ⟨Nat.zero_le _, Nat.zero_le _⟩ hr
  · rw [if_pos h3] at hf
    refine ev_iload_n dX7_cakeBehind_14 1 rfl ?_
    refine ev_iload dX7_cakeBehind_15 3 rfl ?_
    refine ev_ishr dX7_cakeBehind_17 ?_
    refine ev_iconst dX7_cakeBehind_18 ?_
    refine ev_iand dX7_cakeBehind_19 ?_
    refine ev_iconst dX7_cakeBehind_20 ?_
    obtain ⟨v4, hv4, hf⟩ := lt_elim hf
    have hJv4 : Ev l D cy g K yX7_cakeBehind cX7_cakeBehind 6 (some .int) (rmd 1 0 0) (MX D cy g K (rmd 1 0 0) Φ) 0 0 M x (L μ) 29 [(0, vr g 25), (1, vi set0), (3, vi v1), (4, vi v2)] [vb v4] := by
      refine ev_istore (al2 := [(5, vb v4), (0, vr g 25), (1, vi set0), (3, vi v1), (4, vi v2)]) dX7_cakeBehind_29 (by decide) rfl ?_
      refine ev_iload dX7_cakeBehind_31 0 rfl ?_
      refine ev_ifb_eq 43 dX7_cakeBehind_33 (by decide) (fun h6 => ?_) (fun h6 => ?_)
      · rw [if_neg h6] at hf
        refine ev_sub [1, 2, 3, 4, 0] rfl ?_
        exact tX7_cakeBehind_j43 hS hc set0 skip v1 v2 v4 μ hf hr
      · rw [if_pos h6] at hf
        refine ev_iload_n dX7_cakeBehind_36 3 rfl ?_
        refine ev_if_ne 43 dX7_cakeBehind_37 (by decide) (fun h13 => ?_) (fun h13 => ?_)
        · rw [if_neg h13] at hf
          refine ev_sub [1, 2, 3, 4, 0] rfl ?_
          exact tX7_cakeBehind_j43 hS hc set0 skip v1 v2 v4 μ hf hr
        · rw [if_pos h13] at hf
          refine ev_iload dX7_cakeBehind_40 4 rfl ?_
          obtain rfl := Option.some.inj hf
          exact ev_iret dX7_cakeBehind_42 rfl ⟨Nat.zero_le _, Nat.zero_le _⟩ hr
    refine ev_icmp_ne 28 dX7_cakeBehind_21 (by decide) (fun h5 => ?_) (fun h5 => ?_)
    · refine ev_iconst dX7_cakeBehind_28 ?_
      have e9 : v4 = false := hv4.trans ((if_neg h5))
      subst e9
      exact hJv4
    · refine ev_iconst dX7_cakeBehind_24 ?_
      refine ev_goto 29 dX7_cakeBehind_25 (by decide) ?_
      have e9 : v4 = true := hv4.trans ((if_pos h5))
      subst e9
      exact hJv4
def fX7_cakeBehind (set0 : Int) (skip : Int) (μ : Mem) : Option (Int) :=
  loopN (fun s => fX7_cakeBehind_b5 set0 skip s.1 s.2 μ) FU (skip, 0)
set_option maxRecDepth 4000 in
theorem eX7_cakeBehind (hS : Sd M K P L) (hc : CIn P 25 26) (set0 : Int) (skip : Int) (μ : Mem)  {o : Int} (hf : fX7_cakeBehind set0 skip μ = some o) (hr : (fun o : Int => Φ (some (vi o)) M x (L μ)) o) : Ev l D cy g K yX7_cakeBehind cX7_cakeBehind 6 (some .int) (rmd 1 0 0) (MX D cy g K (rmd 1 0 0) Φ) 0 0 M x (L μ) 0 [(0, vr g 25), (1, vi set0), (2, vi skip)] [] := by
  unfold fX7_cakeBehind at hf
  refine ev_iload_n dX7_cakeBehind_0 2 rfl ?_
  refine ev_istore_n (al2 := [(3, vi skip), (0, vr g 25), (1, vi set0), (2, vi skip)]) dX7_cakeBehind_1 3 rfl (by decide) rfl ?_
  refine ev_iconst dX7_cakeBehind_2 ?_
  refine ev_istore (al2 := [(4, vi 0), (3, vi skip), (0, vr g 25), (1, vi set0), (2, vi skip)]) dX7_cakeBehind_3 (by decide) rfl ?_
  refine ev_sub [2, 3, 1, 0] rfl ?_
  exact loop_ev (H := (fun s : Int × Int => Ev l D cy g K yX7_cakeBehind cX7_cakeBehind 6 (some .int) (rmd 1 0 0) (MX D cy g K (rmd 1 0 0) Φ) 0 0 M x (L μ) 5 [(0, vr g 25), (1, vi set0), (3, vi s.1), (4, vi s.2)] [])) (Hx := (fun o : Int => Φ (some (vi o)) M x (L μ))) (fun s o hb hr => tX7_cakeBehind_b5 hS hc set0 skip s.1 s.2 μ hb hr) FU _ _ hf hr
theorem tX7_cakeBehind (hS : Sd M K P L) (hc : CIn P 25 26) (set0 : Int) (skip : Int) (μ : Mem) {o : Int} (hf : fX7_cakeBehind set0 skip μ = some o) : Cn l D cy g K K yX7_cakeBehind cX7_cakeBehind 6 (some .int) (rmd 1 0 0) [vr g 25, vi set0, vi skip] M x (L μ) (PE (some (vi o)) M x (L μ)) :=
 Cn.of (by decide) (Nat.le_of_ble_eq_true rfl) (eX7_cakeBehind hS hc set0 skip μ hf (PE_i _ _ _ _))
def fX7_learnOrder_j53 (order : Int) (v8 : Int) (v9 : Int) (v10 : Int) (v11 : Int) (w12 : Int) (μ : Mem) : Option ((Int × Int × Int × Mem) ⊕ (Mem)) :=
  lt (v9 - (w12 * v11)) fun v13 =>
  (fX7_cakeBehind v8 w12 μ).bind fun v14 =>
  lt (i_and v8 (i_xor (i_shl 1 v14) (-1))) fun v15 =>
  lt (fX11_put 28 ((order * 5) + v10) v14 μ) fun μ16 =>
  some (.inl (v15, v13, (v10 + 1), μ16))
set_option maxRecDepth 4000 in
theorem tX7_learnOrder_j53 (hS : Sd M K P L) (hc : CIn P 1 29) (order : Int) (v8 : Int) (v9 : Int) (v10 : Int) (v11 : Int) (w12 : Int) (μ : Mem)  {o : (Int × Int × Int × Mem) ⊕ (Mem)} (hf : fX7_learnOrder_j53 order v8 v9 v10 v11 w12 μ = some o) (hr : (Sum.elim (fun s : Int × Int × Int × Mem => Ev l D cy g K yX7_learnOrder cX7_learnOrder 8 none (rmd 2 0 0) (MX D cy g K (rmd 2 0 0) Φ) 0 0 M x (L s.2.2.2) 14 [(0, vr g 25), (1, vi order), (2, vi s.1), (3, vi s.2.1), (4, vi s.2.2.1)] []) (fun e : Mem => Ev l D cy g K yX7_learnOrder cX7_learnOrder 8 none (rmd 2 0 0) (MX D cy g K (rmd 2 0 0) Φ) 0 0 M x (L e) 102 [] [])) o) : Ev l D cy g K yX7_learnOrder cX7_learnOrder 8 none (rmd 2 0 0) (MX D cy g K (rmd 2 0 0) Φ) 0 0 M x (L μ) 53 [(0, vr g 25), (1, vi order), (2, vi v8), (3, vi v9), (4, vi v10), (5, vi v11)] [vi w12] := by
  unfold fX7_learnOrder_j53 at hf
  refine ev_istore (al2 := [(6, vi w12), (0, vr g 25), (1, vi order), (2, vi v8), (3, vi v9), (4, vi v10), (5, vi v11)]) dX7_learnOrder_53 (by decide) rfl ?_
  refine ev_iload_n dX7_learnOrder_55 4 rfl ?_
  refine ev_iload dX7_learnOrder_56 0 rfl ?_
  refine ev_iload dX7_learnOrder_58 6 rfl ?_
  refine ev_imul dX7_learnOrder_60 ?_
  refine ev_isub dX7_learnOrder_61 ?_
  obtain ⟨v13, hv13, hf⟩ := lt_elim hf
  refine ev_rni hv13 ?_
  refine ev_istore_n (al2 := [(3, vi v13), (6, vi w12), (0, vr g 25), (1, vi order), (2, vi v8), (4, vi v10), (5, vi v11)]) dX7_learnOrder_62 3 rfl (by decide) rfl ?_
  refine ev_aload_n dX7_learnOrder_63 2 rfl ?_
  refine ev_iload_n dX7_learnOrder_64 4 rfl ?_
  refine ev_iload dX7_learnOrder_65 1 rfl ?_
  obtain ⟨v14, hv14, hf⟩ := Option.bind_eq_some_iff.mp hf
  refine cl_V1 (As := [vi v8, vi w12]) (st := []) miX7_cakeBehind (tX7_cakeBehind hS (hc.w rfl rfl) v8 w12 μ hv14) dX7_learnOrder_67 lkX7_111 inX7_cakeBehind rfl (hS.lt (hc 25 rfl)) rfl ⟨rfl, rfl⟩ ⟨⟨Nat.le_of_ble_eq_true rfl, Nat.le_of_ble_eq_true rfl⟩, Nat.zero_le _, Nat.zero_le _⟩ (Nat.le_of_ble_eq_true rfl) ?_
  refine ev_istore (al2 := [(7, vi v14), (3, vi v13), (6, vi w12), (0, vr g 25), (1, vi order), (2, vi v8), (4, vi v10), (5, vi v11)]) dX7_learnOrder_70 (by decide) rfl ?_
  refine ev_iload_n dX7_learnOrder_72 5 rfl ?_
  refine ev_iconst dX7_learnOrder_73 ?_
  refine ev_iload dX7_learnOrder_74 0 rfl ?_
  refine ev_ishl dX7_learnOrder_76 ?_
  refine ev_iconst dX7_learnOrder_77 ?_
  refine ev_ixor dX7_learnOrder_78 ?_
  refine ev_iand dX7_learnOrder_79 ?_
  obtain ⟨v15, hv15, hf⟩ := lt_elim hf
  refine ev_rni hv15 ?_
  refine ev_istore_n (al2 := [(2, vi v15), (7, vi v14), (3, vi v13), (6, vi w12), (0, vr g 25), (1, vi order), (4, vi v10), (5, vi v11)]) dX7_learnOrder_80 2 rfl (by decide) rfl ?_
  refine ev_aload_n dX7_learnOrder_81 4 rfl ?_
  refine ev_getK 7 dX7_learnOrder_82 (hS.lt (hc 25 rfl)) rfl (hS.K1 (hc 25 rfl) rfl) ciX7 (by decide) rfl flX7_18 ?_
  refine ev_iload_n dX7_learnOrder_85 5 rfl ?_
  refine ev_iconst dX7_learnOrder_86 ?_
  refine ev_imul dX7_learnOrder_87 ?_
  refine ev_iload dX7_learnOrder_88 6 rfl ?_
  refine ev_iadd dX7_learnOrder_90 ?_
  refine ev_iload dX7_learnOrder_91 1 rfl ?_
  obtain ⟨μ16, hμ16, hf⟩ := lt_elim hf
  refine cl_N0 (As := [vr g 28, vi ((order * 5) + v10), vi v14]) (st := []) (host := "HotCakes") miX11_put (tX11_put hS (hc.w rfl rfl) 28 ((order * 5) + v10) v14 μ (⟨(hc 28 rfl), rfl⟩) hμ16.symm) dX7_learnOrder_93 (by decide) stX11_put rfl ⟨⟨Nat.le_of_ble_eq_true rfl, Nat.le_of_ble_eq_true rfl⟩, Nat.zero_le _, Nat.zero_le _⟩ (Nat.le_of_ble_eq_true rfl) ?_
  refine ev_iinc (al2 := [(4, vi (v10 + 1)), (2, vi v15), (7, vi v14), (3, vi v13), (6, vi w12), (0, vr g 25), (1, vi order), (5, vi v11)]) dX7_learnOrder_96 6 rfl (by decide) rfl ?_
  refine ev_goto 14 dX7_learnOrder_99 (by decide) ?_
  obtain rfl := Option.some.inj hf
  refine ev_sub [5, 6, 1, 3, 0] rfl ?_
  exact hr
def fX7_learnOrder_b14 (order : Int) (v2 : Int) (v3 : Int) (v4 : Int) (μ : Mem) : Option ((Int × Int × Int × Mem) ⊕ (Mem)) :=
  if w32 v4 < w32 (μ 25 1) then
    lt (fX11_atF (((μ 25 1) - 1) - v4) μ) fun v6 =>
    if w32 v6 ≤ 0 then
      fX7_learnOrder_j53 order v2 v3 v4 v6 0 μ
    else
      gd (¬ w32 v6 = 0) <|
      fX7_learnOrder_j53 order v2 v3 v4 v6 (i_div v3 v6) μ
  else
    some (.inr μ)
set_option maxRecDepth 4000 in
theorem tX7_learnOrder_b14 (hS : Sd M K P L) (hc : CIn P 1 29) (order : Int) (v2 : Int) (v3 : Int) (v4 : Int) (μ : Mem)  {o : (Int × Int × Int × Mem) ⊕ (Mem)} (hf : fX7_learnOrder_b14 order v2 v3 v4 μ = some o) (hr : (Sum.elim (fun s : Int × Int × Int × Mem => Ev l D cy g K yX7_learnOrder cX7_learnOrder 8 none (rmd 2 0 0) (MX D cy g K (rmd 2 0 0) Φ) 0 0 M x (L s.2.2.2) 14 [(0, vr g 25), (1, vi order), (2, vi s.1), (3, vi s.2.1), (4, vi s.2.2.1)] []) (fun e : Mem => Ev l D cy g K yX7_learnOrder cX7_learnOrder 8 none (rmd 2 0 0) (MX D cy g K (rmd 2 0 0) Φ) 0 0 M x (L e) 102 [] [])) o) : Ev l D cy g K yX7_learnOrder cX7_learnOrder 8 none (rmd 2 0 0) (MX D cy g K (rmd 2 0 0) Φ) 0 0 M x (L μ) 14 [(0, vr g 25), (1, vi order), (2, vi v2), (3, vi v3), (4, vi v4)] [] := by
  unfold fX7_learnOrder_b14 at hf
  refine ev_iload dX7_learnOrder_14 4 rfl ?_
  refine ev_aload_n dX7_learnOrder_16 0 rfl ?_
  refine ev_getI 1 dX7_learnOrder_17 (hS.lt (hc 25 rfl)) rfl (hS.mem _ (hc 25 rfl)) ciX7 (by decide) rfl flX7_65 ?_
  refine ev_icmp_ge 102 dX7_learnOrder_20 (by decide) (fun h5 => ?_) (fun h5 => ?_)
  · rw [if_neg h5] at hf
    obtain rfl := Option.some.inj hf
    refine ev_sub [] rfl ?_
    exact hr
  · rw [if_pos h5] at hf
    refine ev_getsF (host := "HotCakes") dX7_learnOrder_23 (by decide) ?_
    refine ev_aload_n dX7_learnOrder_26 0 rfl ?_
    refine ev_getI 1 dX7_learnOrder_27 (hS.lt (hc 25 rfl)) rfl (hS.mem _ (hc 25 rfl)) ciX7 (by decide) rfl flX7_65 ?_
    refine ev_iconst dX7_learnOrder_30 ?_
    refine ev_isub dX7_learnOrder_31 ?_
    refine ev_iload dX7_learnOrder_32 4 rfl ?_
    refine ev_isub dX7_learnOrder_34 ?_
    obtain ⟨v6, hv6, hf⟩ := lt_elim hf
    refine cl_N1 (As := [vr g 1020, vi (((μ 25 1) - 1) - v4)]) (st := []) (host := "HotCakes") miX11_at (tX11_atF hS (hc.w rfl rfl) (((μ 25 1) - 1) - v4) μ hv6.symm) dX7_learnOrder_35 (by decide) stX11_at rfl ⟨⟨Nat.le_of_ble_eq_true rfl, Nat.le_of_ble_eq_true rfl⟩, Nat.zero_le _, Nat.zero_le _⟩ (Nat.le_of_ble_eq_true rfl) ?_
    refine ev_istore (al2 := [(5, vi v6), (0, vr g 25), (1, vi order), (2, vi v2), (3, vi v3), (4, vi v4)]) dX7_learnOrder_38 (by decide) rfl ?_
    refine ev_iload dX7_learnOrder_40 0 rfl ?_
    refine ev_if_le 52 dX7_learnOrder_42 (by decide) (fun h7 => ?_) (fun h7 => ?_)
    · rw [if_pos h7] at hf
      refine ev_iconst dX7_learnOrder_52 ?_
      refine ev_sub [1, 2, 3, 4, 5, 0] rfl ?_
      exact tX7_learnOrder_j53 hS hc order v2 v3 v4 v6 0 μ hf hr
    · rw [if_neg h7] at hf
      refine ev_iload_n dX7_learnOrder_45 4 rfl ?_
      refine ev_iload dX7_learnOrder_46 0 rfl ?_
      obtain ⟨g17, hf⟩ := gd_elim hf
      refine ev_idiv dX7_learnOrder_48 g17 ?_
      refine ev_goto 53 dX7_learnOrder_49 (by decide) ?_
      refine ev_sub [1, 2, 3, 4, 5, 0] rfl ?_
      exact tX7_learnOrder_j53 hS hc order v2 v3 v4 v6 (i_div v3 v6) μ hf hr
def fX7_learnOrder (order : Int) (μ : Mem) : Option (Mem) :=
  lt ((i_shl 1 (μ 25 1)) - 1) fun v1 =>
  (loopN (fun s => fX7_learnOrder_b14 order s.1 s.2.1 s.2.2.1 s.2.2.2) FU (v1, order, 0, μ)).bind fun q23 =>
  some (q23)
set_option maxRecDepth 4000 in
theorem eX7_learnOrder (hS : Sd M K P L) (hc : CIn P 1 29) (order : Int) (μ : Mem)  {o : Mem} (hf : fX7_learnOrder order μ = some o) (hr : (fun o : Mem => Φ none M x (L o)) o) : Ev l D cy g K yX7_learnOrder cX7_learnOrder 8 none (rmd 2 0 0) (MX D cy g K (rmd 2 0 0) Φ) 0 0 M x (L μ) 0 [(0, vr g 25), (1, vi order)] [] := by
  unfold fX7_learnOrder at hf
  refine ev_iconst dX7_learnOrder_0 ?_
  refine ev_aload_n dX7_learnOrder_1 0 rfl ?_
  refine ev_getI 1 dX7_learnOrder_2 (hS.lt (hc 25 rfl)) rfl (hS.mem _ (hc 25 rfl)) ciX7 (by decide) rfl flX7_65 ?_
  refine ev_ishl dX7_learnOrder_5 ?_
  refine ev_iconst dX7_learnOrder_6 ?_
  refine ev_isub dX7_learnOrder_7 ?_
  obtain ⟨v1, hv1, hf⟩ := lt_elim hf
  refine ev_rni hv1 ?_
  refine ev_istore_n (al2 := [(2, vi v1), (0, vr g 25), (1, vi order)]) dX7_learnOrder_8 2 rfl (by decide) rfl ?_
  refine ev_iload_n dX7_learnOrder_9 2 rfl ?_
  refine ev_istore_n (al2 := [(3, vi order), (2, vi v1), (0, vr g 25), (1, vi order)]) dX7_learnOrder_10 3 rfl (by decide) rfl ?_
  refine ev_iconst dX7_learnOrder_11 ?_
  refine ev_istore (al2 := [(4, vi 0), (3, vi order), (2, vi v1), (0, vr g 25), (1, vi order)]) dX7_learnOrder_12 (by decide) rfl ?_
  obtain ⟨q23, hq23, hf⟩ := Option.bind_eq_some_iff.mp hf
  refine ev_sub [3, 4, 2, 1, 0] rfl ?_
  refine loop_ev (H := (fun s : Int × Int × Int × Mem => Ev l D cy g K yX7_learnOrder cX7_learnOrder 8 none (rmd 2 0 0) (MX D cy g K (rmd 2 0 0) Φ) 0 0 M x (L s.2.2.2) 14 [(0, vr g 25), (1, vi order), (2, vi s.1), (3, vi s.2.1), (4, vi s.2.2.1)] [])) (Hx := (fun e : Mem => Ev l D cy g K yX7_learnOrder cX7_learnOrder 8 none (rmd 2 0 0) (MX D cy g K (rmd 2 0 0) Φ) 0 0 M x (L e) 102 [] [])) (fun s o hb hr => tX7_learnOrder_b14 hS hc order s.1 s.2.1 s.2.2.1 s.2.2.2 hb hr) FU _ _ hq23 ?_
  show Ev l D cy g K yX7_learnOrder cX7_learnOrder 8 none (rmd 2 0 0) (MX D cy g K (rmd 2 0 0) Φ) 0 0 M x (L q23) 102 [] []
  obtain rfl := Option.some.inj hf
  exact ev_vret dX7_learnOrder_102 rfl ⟨Nat.zero_le _, Nat.zero_le _⟩ hr
theorem tX7_learnOrder (hS : Sd M K P L) (hc : CIn P 1 29) (order : Int) (μ : Mem) {o : Mem} (hf : fX7_learnOrder order μ = some o) : Cn l D cy g K K yX7_learnOrder cX7_learnOrder 8 none (rmd 2 0 0) [vr g 25, vi order] M x (L μ) (PE none M x (L o)) :=
 Cn.of (by decide) (Nat.le_of_ble_eq_true rfl) (eX7_learnOrder hS hc order μ hf (PE_i _ _ _ _))
def fX7_orderOf_b20 (cakesDown : Nat) (v1 : Int) (v2 : Int) (v5 : Int) (v6 : Int) (μ : Mem) : Option ((Int × Int) ⊕ (Int)) :=
  if w32 v6 < w32 (μ 25 1) then
    lt (if w32 (fX11_at cakesDown v6 μ) < w32 (fX11_at cakesDown v2 μ) then
        1
      else
        0) fun v8 =>
    lt (v5 + v8) fun v10 =>
    some (.inl (v10, (v6 + 1)))
  else
    some (.inr v5)
set_option maxRecDepth 4000 in
theorem tX7_orderOf_b20 (hS : Sd M K P L) (hc : CIn P 1 26) (cakesDown : Nat) (v1 : Int) (v2 : Int) (v5 : Int) (v6 : Int) (μ : Mem) (hcakesDown : P cakesDown ∧ sh cakesDown = (1, alen cakesDown)) {o : (Int × Int) ⊕ (Int)} (hf : fX7_orderOf_b20 cakesDown v1 v2 v5 v6 μ = some o) (hr : (Sum.elim (fun s : Int × Int => Ev l D cy g K yX7_orderOf cX7_orderOf 6 (some .int) (rmd 2 0 0) (MX D cy g K (rmd 2 0 0) Φ) 0 0 M x (L μ) 20 [(0, vr g 25), (1, vr g cakesDown), (2, vi v1), (3, vi v2), (4, vi s.1), (5, vi s.2)] []) (fun e : Int => Ev l D cy g K yX7_orderOf cX7_orderOf 6 (some .int) (rmd 2 0 0) (MX D cy g K (rmd 2 0 0) Φ) 0 0 M x (L μ) 59 [(0, vr g 25), (1, vr g cakesDown), (2, vi v1), (3, vi v2), (4, vi e)] [])) o) : Ev l D cy g K yX7_orderOf cX7_orderOf 6 (some .int) (rmd 2 0 0) (MX D cy g K (rmd 2 0 0) Φ) 0 0 M x (L μ) 20 [(0, vr g 25), (1, vr g cakesDown), (2, vi v1), (3, vi v2), (4, vi v5), (5, vi v6)] [] := by
  unfold fX7_orderOf_b20 at hf
  refine ev_iload dX7_orderOf_20 5 rfl ?_
  refine ev_aload_n dX7_orderOf_22 0 rfl ?_
  refine ev_getI 1 dX7_orderOf_23 (hS.lt (hc 25 rfl)) rfl (hS.mem _ (hc 25 rfl)) ciX7 (by decide) rfl flX7_65 ?_
  refine ev_icmp_ge 59 dX7_orderOf_26 (by decide) (fun h7 => ?_) (fun h7 => ?_)
  · rw [if_neg h7] at hf
    obtain rfl := Option.some.inj hf
    refine ev_sub [0, 1, 2, 3, 4] rfl ?_
    exact hr
  · rw [if_pos h7] at hf
    refine ev_iload dX7_orderOf_29 4 rfl ?_
    refine ev_aload_n dX7_orderOf_31 1 rfl ?_
    refine ev_iload dX7_orderOf_32 5 rfl ?_
    refine cl_N1 (As := [vr g cakesDown, vi v6]) (st := [vi v5]) (host := "HotCakes") miX11_at (tX11_at hS (hc.w rfl rfl) cakesDown v6 μ (⟨hcakesDown.1, hcakesDown.2⟩) (o := (fX11_at cakesDown v6 μ)) rfl) dX7_orderOf_34 (by decide) stX11_at rfl ⟨⟨Nat.le_of_ble_eq_true rfl, Nat.le_of_ble_eq_true rfl⟩, Nat.zero_le _, Nat.zero_le _⟩ (Nat.le_of_ble_eq_true rfl) ?_
    refine ev_aload_n dX7_orderOf_37 1 rfl ?_
    refine ev_iload_n dX7_orderOf_38 3 rfl ?_
    refine cl_N1 (As := [vr g cakesDown, vi v2]) (st := [vi (fX11_at cakesDown v6 μ), vi v5]) (host := "HotCakes") miX11_at (tX11_at hS (hc.w rfl rfl) cakesDown v2 μ (⟨hcakesDown.1, hcakesDown.2⟩) (o := (fX11_at cakesDown v2 μ)) rfl) dX7_orderOf_39 (by decide) stX11_at rfl ⟨⟨Nat.le_of_ble_eq_true rfl, Nat.le_of_ble_eq_true rfl⟩, Nat.zero_le _, Nat.zero_le _⟩ (Nat.le_of_ble_eq_true rfl) ?_
    obtain ⟨v8, hv8, hf⟩ := lt_elim hf
    have hJv8 : Ev l D cy g K yX7_orderOf cX7_orderOf 6 (some .int) (rmd 2 0 0) (MX D cy g K (rmd 2 0 0) Φ) 0 0 M x (L μ) 50 [(0, vr g 25), (1, vr g cakesDown), (2, vi v1), (3, vi v2), (4, vi v5), (5, vi v6)] [vi v8, vi v5] := by
      refine ev_iadd dX7_orderOf_50 ?_
      obtain ⟨v10, hv10, hf⟩ := lt_elim hf
      refine ev_rni hv10 ?_
      refine ev_istore (al2 := [(4, vi v10), (0, vr g 25), (1, vr g cakesDown), (2, vi v1), (3, vi v2), (5, vi v6)]) dX7_orderOf_51 (by decide) rfl ?_
      refine ev_iinc (al2 := [(5, vi (v6 + 1)), (4, vi v10), (0, vr g 25), (1, vr g cakesDown), (2, vi v1), (3, vi v2)]) dX7_orderOf_53 5 rfl (by decide) rfl ?_
      refine ev_goto 20 dX7_orderOf_56 (by decide) ?_
      obtain rfl := Option.some.inj hf
      refine ev_sub [2, 3, 4, 5, 1, 0] rfl ?_
      exact hr
    refine ev_icmp_ge 49 dX7_orderOf_42 (by decide) (fun h9 => ?_) (fun h9 => ?_)
    · refine ev_iconst dX7_orderOf_49 ?_
      have e9 : v8 = 0 := hv8.trans ((if_neg h9))
      subst e9
      exact hJv8
    · refine ev_iconst dX7_orderOf_45 ?_
      refine ev_goto 50 dX7_orderOf_46 (by decide) ?_
      have e9 : v8 = 1 := hv8.trans ((if_pos h9))
      subst e9
      exact hJv8
def fX7_orderOf_b4 (cakesDown : Nat) (v1 : Int) (v2 : Int) (μ : Mem) : Option ((Int × Int) ⊕ (Int)) :=
  if w32 v2 < w32 (μ 25 1) then
    lt (v2 + 1) fun v4 =>
    (loopN (fun s => fX7_orderOf_b20 cakesDown v1 v2 s.1 s.2 μ) FU (0, v4)).bind fun q11 =>
    lt (fX11_atF (((μ 25 1) - 1) - v2) μ) fun v12 =>
    lt (v1 + (q11 * v12)) fun v13 =>
    some (.inl (v13, (v2 + 1)))
  else
    some (.inr v1)
set_option maxRecDepth 4000 in
theorem tX7_orderOf_b4 (hS : Sd M K P L) (hc : CIn P 1 26) (cakesDown : Nat) (v1 : Int) (v2 : Int) (μ : Mem) (hcakesDown : P cakesDown ∧ sh cakesDown = (1, alen cakesDown)) {o : (Int × Int) ⊕ (Int)} (hf : fX7_orderOf_b4 cakesDown v1 v2 μ = some o) (hr : (Sum.elim (fun s : Int × Int => Ev l D cy g K yX7_orderOf cX7_orderOf 6 (some .int) (rmd 2 0 0) (MX D cy g K (rmd 2 0 0) Φ) 0 0 M x (L μ) 4 [(0, vr g 25), (1, vr g cakesDown), (2, vi s.1), (3, vi s.2)] []) (fun e : Int => Ev l D cy g K yX7_orderOf cX7_orderOf 6 (some .int) (rmd 2 0 0) (MX D cy g K (rmd 2 0 0) Φ) 0 0 M x (L μ) 85 [(2, vi e)] [])) o) : Ev l D cy g K yX7_orderOf cX7_orderOf 6 (some .int) (rmd 2 0 0) (MX D cy g K (rmd 2 0 0) Φ) 0 0 M x (L μ) 4 [(0, vr g 25), (1, vr g cakesDown), (2, vi v1), (3, vi v2)] [] := by
  unfold fX7_orderOf_b4 at hf
  refine ev_iload_n dX7_orderOf_4 3 rfl ?_
  refine ev_aload_n dX7_orderOf_5 0 rfl ?_
  refine ev_getI 1 dX7_orderOf_6 (hS.lt (hc 25 rfl)) rfl (hS.mem _ (hc 25 rfl)) ciX7 (by decide) rfl flX7_65 ?_
  refine ev_icmp_ge 85 dX7_orderOf_9 (by decide) (fun h3 => ?_) (fun h3 => ?_)
  · rw [if_neg h3] at hf
    obtain rfl := Option.some.inj hf
    refine ev_sub [2] rfl ?_
    exact hr
  · rw [if_pos h3] at hf
    refine ev_iconst dX7_orderOf_12 ?_
    refine ev_istore (al2 := [(4, vi 0), (0, vr g 25), (1, vr g cakesDown), (2, vi v1), (3, vi v2)]) dX7_orderOf_13 (by decide) rfl ?_
    refine ev_iload_n dX7_orderOf_15 4 rfl ?_
    refine ev_iconst dX7_orderOf_16 ?_
    refine ev_iadd dX7_orderOf_17 ?_
    obtain ⟨v4, hv4, hf⟩ := lt_elim hf
    refine ev_rni hv4 ?_
    refine ev_istore (al2 := [(5, vi v4), (4, vi 0), (0, vr g 25), (1, vr g cakesDown), (2, vi v1), (3, vi v2)]) dX7_orderOf_18 (by decide) rfl ?_
    obtain ⟨q11, hq11, hf⟩ := Option.bind_eq_some_iff.mp hf
    refine ev_sub [2, 3, 4, 5, 1, 0] rfl ?_
    refine loop_ev (H := (fun s : Int × Int => Ev l D cy g K yX7_orderOf cX7_orderOf 6 (some .int) (rmd 2 0 0) (MX D cy g K (rmd 2 0 0) Φ) 0 0 M x (L μ) 20 [(0, vr g 25), (1, vr g cakesDown), (2, vi v1), (3, vi v2), (4, vi s.1), (5, vi s.2)] [])) (Hx := (fun e : Int => Ev l D cy g K yX7_orderOf cX7_orderOf 6 (some .int) (rmd 2 0 0) (MX D cy g K (rmd 2 0 0) Φ) 0 0 M x (L μ) 59 [(0, vr g 25), (1, vr g cakesDown), (2, vi v1), (3, vi v2), (4, vi e)] [])) (fun s o hb hr => tX7_orderOf_b20 hS hc cakesDown v1 v2 s.1 s.2 μ hcakesDown hb hr) FU _ _ hq11 ?_
    show Ev l D cy g K yX7_orderOf cX7_orderOf 6 (some .int) (rmd 2 0 0) (MX D cy g K (rmd 2 0 0) Φ) 0 0 M x (L μ) 59 [(0, vr g 25), (1, vr g cakesDown), (2, vi v1), (3, vi v2), (4, vi q11)] []
    refine ev_iload_n dX7_orderOf_59 2 rfl ?_
    refine ev_iload dX7_orderOf_60 4 rfl ?_
    refine ev_getsF (host := "HotCakes") dX7_orderOf_62 (by decide) ?_
    refine ev_aload_n dX7_orderOf_65 0 rfl ?_
    refine ev_getI 1 dX7_orderOf_66 (hS.lt (hc 25 rfl)) rfl (hS.mem _ (hc 25 rfl)) ciX7 (by decide) rfl flX7_65 ?_
    refine ev_iconst dX7_orderOf_69 ?_
    refine ev_isub dX7_orderOf_70 ?_
    refine ev_iload_n dX7_orderOf_71 3 rfl ?_
    refine ev_isub dX7_orderOf_72 ?_
    obtain ⟨v12, hv12, hf⟩ := lt_elim hf
    refine cl_N1 (As := [vr g 1020, vi (((μ 25 1) - 1) - v2)]) (st := [vi q11, vi v1]) (host := "HotCakes") miX11_at (tX11_atF hS (hc.w rfl rfl) (((μ 25 1) - 1) - v2) μ hv12.symm) dX7_orderOf_73 (by decide) stX11_at rfl ⟨⟨Nat.le_of_ble_eq_true rfl, Nat.le_of_ble_eq_true rfl⟩, Nat.zero_le _, Nat.zero_le _⟩ (Nat.le_of_ble_eq_true rfl) ?_
    refine ev_imul dX7_orderOf_76 ?_
    refine ev_iadd dX7_orderOf_77 ?_
    obtain ⟨v13, hv13, hf⟩ := lt_elim hf
    refine ev_rni hv13 ?_
    refine ev_istore_n (al2 := [(2, vi v13), (0, vr g 25), (1, vr g cakesDown), (3, vi v2), (4, vi q11)]) dX7_orderOf_78 2 rfl (by decide) rfl ?_
    refine ev_iinc (al2 := [(3, vi (v2 + 1)), (2, vi v13), (0, vr g 25), (1, vr g cakesDown), (4, vi q11)]) dX7_orderOf_79 3 rfl (by decide) rfl ?_
    refine ev_goto 4 dX7_orderOf_82 (by decide) ?_
    obtain rfl := Option.some.inj hf
    refine ev_sub [2, 3, 1, 0] rfl ?_
    exact hr
def fX7_orderOf (cakesDown : Nat) (μ : Mem) : Option (Int) :=
  (loopN (fun s => fX7_orderOf_b4 cakesDown s.1 s.2 μ) FU (0, 0)).bind fun q14 =>
  some (q14)
set_option maxRecDepth 4000 in
theorem eX7_orderOf (hS : Sd M K P L) (hc : CIn P 1 26) (cakesDown : Nat) (μ : Mem) (hcakesDown : P cakesDown ∧ sh cakesDown = (1, alen cakesDown)) {o : Int} (hf : fX7_orderOf cakesDown μ = some o) (hr : (fun o : Int => Φ (some (vi o)) M x (L μ)) o) : Ev l D cy g K yX7_orderOf cX7_orderOf 6 (some .int) (rmd 2 0 0) (MX D cy g K (rmd 2 0 0) Φ) 0 0 M x (L μ) 0 [(0, vr g 25), (1, vr g cakesDown)] [] := by
  unfold fX7_orderOf at hf
  refine ev_iconst dX7_orderOf_0 ?_
  refine ev_istore_n (al2 := [(2, vi 0), (0, vr g 25), (1, vr g cakesDown)]) dX7_orderOf_1 2 rfl (by decide) rfl ?_
  refine ev_iconst dX7_orderOf_2 ?_
  refine ev_istore_n (al2 := [(3, vi 0), (2, vi 0), (0, vr g 25), (1, vr g cakesDown)]) dX7_orderOf_3 3 rfl (by decide) rfl ?_
  obtain ⟨q14, hq14, hf⟩ := Option.bind_eq_some_iff.mp hf
  refine ev_sub [2, 3, 1, 0] rfl ?_
  refine loop_ev (H := (fun s : Int × Int => Ev l D cy g K yX7_orderOf cX7_orderOf 6 (some .int) (rmd 2 0 0) (MX D cy g K (rmd 2 0 0) Φ) 0 0 M x (L μ) 4 [(0, vr g 25), (1, vr g cakesDown), (2, vi s.1), (3, vi s.2)] [])) (Hx := (fun e : Int => Ev l D cy g K yX7_orderOf cX7_orderOf 6 (some .int) (rmd 2 0 0) (MX D cy g K (rmd 2 0 0) Φ) 0 0 M x (L μ) 85 [(2, vi e)] [])) (fun s o hb hr => tX7_orderOf_b4 hS hc cakesDown s.1 s.2 μ hcakesDown hb hr) FU _ _ hq14 ?_
  show Ev l D cy g K yX7_orderOf cX7_orderOf 6 (some .int) (rmd 2 0 0) (MX D cy g K (rmd 2 0 0) Φ) 0 0 M x (L μ) 85 [(2, vi q14)] []
  refine ev_iload_n dX7_orderOf_85 0 rfl ?_
  obtain rfl := Option.some.inj hf
  exact ev_iret dX7_orderOf_86 rfl ⟨Nat.zero_le _, Nat.zero_le _⟩ hr
theorem tX7_orderOf (hS : Sd M K P L) (hc : CIn P 1 26) (cakesDown : Nat) (μ : Mem) (hcakesDown : P cakesDown ∧ sh cakesDown = (1, alen cakesDown)) {o : Int} (hf : fX7_orderOf cakesDown μ = some o) : Cn l D cy g K K yX7_orderOf cX7_orderOf 6 (some .int) (rmd 2 0 0) [vr g 25, vr g cakesDown] M x (L μ) (PE (some (vi o)) M x (L μ)) :=
 Cn.of (by decide) (Nat.le_of_ble_eq_true rfl) (eX7_orderOf hS hc cakesDown μ hcakesDown hf (PE_i _ _ _ _))
def fX7_learnTurn_b8 (order : Int) (many : Int) (v1 : Int) (v2 : Int) (v3 : Int) (μ : Mem) : Option ((Int × Int × Int × Mem) ⊕ (Int × Int × Mem)) :=
  if w32 v3 < w32 (μ 25 1) then
    lt (if w32 v3 < w32 many then
        ((many - 1) - v3)
      else
        v3) fun v5 =>
    lt (fX11_at 28 ((order * 5) + v5) μ) fun v7 =>
    lt (fX11_put 27 v3 v7 μ) fun μ8 =>
    if w32 v3 < w32 many then
      lt (i_or v1 (i_shl 1 v7)) fun v10 =>
      lt (i_or v2 (fX11_at 26 v7 μ8)) fun v11 =>
      some (.inl (v10, v11, (v3 + 1), μ8))
    else
      some (.inl (v1, v2, (v3 + 1), μ8))
  else
    some (.inr (v1, v2, μ))
set_option maxRecDepth 4000 in
theorem tX7_learnTurn_b8 (hS : Sd M K P L) (hc : CIn P 1 39) (order : Int) (many : Int) (v1 : Int) (v2 : Int) (v3 : Int) (μ : Mem)  {o : (Int × Int × Int × Mem) ⊕ (Int × Int × Mem)} (hf : fX7_learnTurn_b8 order many v1 v2 v3 μ = some o) (hr : (Sum.elim (fun s : Int × Int × Int × Mem => Ev l D cy g K yX7_learnTurn cX7_learnTurn 8 none (rmd 3 0 0) (MX D cy g K (rmd 3 0 0) Φ) 0 0 M x (L s.2.2.2) 8 [(0, vr g 25), (1, vi order), (2, vi many), (3, vi s.1), (4, vi s.2.1), (5, vi s.2.2.1)] []) (fun e : Int × Int × Mem => Ev l D cy g K yX7_learnTurn cX7_learnTurn 8 none (rmd 3 0 0) (MX D cy g K (rmd 3 0 0) Φ) 0 0 M x (L e.2.2) 95 [(0, vr g 25), (1, vi order), (2, vi many), (3, vi e.1), (4, vi e.2.1)] [])) o) : Ev l D cy g K yX7_learnTurn cX7_learnTurn 8 none (rmd 3 0 0) (MX D cy g K (rmd 3 0 0) Φ) 0 0 M x (L μ) 8 [(0, vr g 25), (1, vi order), (2, vi many), (3, vi v1), (4, vi v2), (5, vi v3)] [] := by
  unfold fX7_learnTurn_b8 at hf
  refine ev_iload dX7_learnTurn_8 5 rfl ?_
  refine ev_aload_n dX7_learnTurn_10 0 rfl ?_
  refine ev_getI 1 dX7_learnTurn_11 (hS.lt (hc 25 rfl)) rfl (hS.mem _ (hc 25 rfl)) ciX7 (by decide) rfl flX7_65 ?_
  refine ev_icmp_ge 95 dX7_learnTurn_14 (by decide) (fun h4 => ?_) (fun h4 => ?_)
  · rw [if_neg h4] at hf
    obtain rfl := Option.some.inj hf
    refine ev_sub [0, 1, 2, 3, 4] rfl ?_
    exact hr
  · rw [if_pos h4] at hf
    refine ev_iload dX7_learnTurn_17 5 rfl ?_
    refine ev_iload_n dX7_learnTurn_19 2 rfl ?_
    obtain ⟨v5, hv5, hf⟩ := lt_elim hf
    have hJv5 : Ev l D cy g K yX7_learnTurn cX7_learnTurn 8 none (rmd 3 0 0) (MX D cy g K (rmd 3 0 0) Φ) 0 0 M x (L μ) 34 [(0, vr g 25), (1, vi order), (2, vi many), (3, vi v1), (4, vi v2), (5, vi v3)] [vi v5] := by
      refine ev_istore (al2 := [(6, vi v5), (0, vr g 25), (1, vi order), (2, vi many), (3, vi v1), (4, vi v2), (5, vi v3)]) dX7_learnTurn_34 (by decide) rfl ?_
      refine ev_aload_n dX7_learnTurn_36 1 rfl ?_
      refine ev_getK 7 dX7_learnTurn_37 (hS.lt (hc 25 rfl)) rfl (hS.K1 (hc 25 rfl) rfl) ciX7 (by decide) rfl flX7_18 ?_
      refine ev_iload_n dX7_learnTurn_40 2 rfl ?_
      refine ev_iconst dX7_learnTurn_41 ?_
      refine ev_imul dX7_learnTurn_42 ?_
      refine ev_iload dX7_learnTurn_43 0 rfl ?_
      refine ev_iadd dX7_learnTurn_45 ?_
      obtain ⟨v7, hv7, hf⟩ := lt_elim hf
      refine cl_N1 (As := [vr g 28, vi ((order * 5) + v5)]) (st := []) (host := "HotCakes") miX11_at (tX11_at hS (hc.w rfl rfl) 28 ((order * 5) + v5) μ (⟨(hc 28 rfl), rfl⟩) hv7.symm) dX7_learnTurn_46 (by decide) stX11_at rfl ⟨⟨Nat.le_of_ble_eq_true rfl, Nat.le_of_ble_eq_true rfl⟩, Nat.zero_le _, Nat.zero_le _⟩ (Nat.le_of_ble_eq_true rfl) ?_
      refine ev_istore (al2 := [(7, vi v7), (6, vi v5), (0, vr g 25), (1, vi order), (2, vi many), (3, vi v1), (4, vi v2), (5, vi v3)]) dX7_learnTurn_49 (by decide) rfl ?_
      refine ev_aload_n dX7_learnTurn_51 2 rfl ?_
      refine ev_getK 6 dX7_learnTurn_52 (hS.lt (hc 25 rfl)) rfl (hS.K1 (hc 25 rfl) rfl) ciX7 (by decide) rfl flX7_15 ?_
      refine ev_iload dX7_learnTurn_55 7 rfl ?_
      refine ev_iload dX7_learnTurn_57 0 rfl ?_
      obtain ⟨μ8, hμ8, hf⟩ := lt_elim hf
      refine cl_N0 (As := [vr g 27, vi v3, vi v7]) (st := []) (host := "HotCakes") miX11_put (tX11_put hS (hc.w rfl rfl) 27 v3 v7 μ (⟨(hc 27 rfl), rfl⟩) hμ8.symm) dX7_learnTurn_59 (by decide) stX11_put rfl ⟨⟨Nat.le_of_ble_eq_true rfl, Nat.le_of_ble_eq_true rfl⟩, Nat.zero_le _, Nat.zero_le _⟩ (Nat.le_of_ble_eq_true rfl) ?_
      refine ev_iload dX7_learnTurn_62 7 rfl ?_
      refine ev_iload_n dX7_learnTurn_64 4 rfl ?_
      refine ev_icmp_ge 89 dX7_learnTurn_65 (by decide) (fun h9 => ?_) (fun h9 => ?_)
      · rw [if_neg h9] at hf
        refine ev_iinc (al2 := [(5, vi (v3 + 1)), (7, vi v7), (6, vi v5), (0, vr g 25), (1, vi order), (2, vi many), (3, vi v1), (4, vi v2)]) dX7_learnTurn_89 7 rfl (by decide) rfl ?_
        refine ev_goto 8 dX7_learnTurn_92 (by decide) ?_
        obtain rfl := Option.some.inj hf
        refine ev_sub [3, 4, 5, 6, 7, 0] rfl ?_
        exact hr
      · rw [if_pos h9] at hf
        refine ev_iload_n dX7_learnTurn_68 5 rfl ?_
        refine ev_iconst dX7_learnTurn_69 ?_
        refine ev_iload dX7_learnTurn_70 0 rfl ?_
        refine ev_ishl dX7_learnTurn_72 ?_
        refine ev_ior dX7_learnTurn_73 ?_
        obtain ⟨v10, hv10, hf⟩ := lt_elim hf
        refine ev_rni hv10 ?_
        refine ev_istore_n (al2 := [(3, vi v10), (7, vi v7), (6, vi v5), (0, vr g 25), (1, vi order), (2, vi many), (4, vi v2), (5, vi v3)]) dX7_learnTurn_74 3 rfl (by decide) rfl ?_
        refine ev_iload dX7_learnTurn_75 6 rfl ?_
        refine ev_aload_n dX7_learnTurn_77 3 rfl ?_
        refine ev_getK 5 dX7_learnTurn_78 (hS.lt (hc 25 rfl)) rfl (hS.K1 (hc 25 rfl) rfl) ciX7 (by decide) rfl flX7_9 ?_
        refine ev_iload dX7_learnTurn_81 1 rfl ?_
        refine cl_N1 (As := [vr g 26, vi v7]) (st := [vi v2]) (host := "HotCakes") miX11_at (tX11_at hS (hc.w rfl rfl) 26 v7 μ8 (⟨(hc 26 rfl), rfl⟩) (o := (fX11_at 26 v7 μ8)) rfl) dX7_learnTurn_83 (by decide) stX11_at rfl ⟨⟨Nat.le_of_ble_eq_true rfl, Nat.le_of_ble_eq_true rfl⟩, Nat.zero_le _, Nat.zero_le _⟩ (Nat.le_of_ble_eq_true rfl) ?_
        refine ev_ior dX7_learnTurn_86 ?_
        obtain ⟨v11, hv11, hf⟩ := lt_elim hf
        refine ev_rni hv11 ?_
        refine ev_istore (al2 := [(4, vi v11), (3, vi v10), (7, vi v7), (6, vi v5), (0, vr g 25), (1, vi order), (2, vi many), (5, vi v3)]) dX7_learnTurn_87 (by decide) rfl ?_
        refine ev_iinc (al2 := [(5, vi (v3 + 1)), (4, vi v11), (3, vi v10), (7, vi v7), (6, vi v5), (0, vr g 25), (1, vi order), (2, vi many)]) dX7_learnTurn_89 7 rfl (by decide) rfl ?_
        refine ev_goto 8 dX7_learnTurn_92 (by decide) ?_
        obtain rfl := Option.some.inj hf
        refine ev_sub [5, 6, 7, 2, 1, 0] rfl ?_
        exact hr
    refine ev_icmp_ge 32 dX7_learnTurn_20 (by decide) (fun h6 => ?_) (fun h6 => ?_)
    · refine ev_iload dX7_learnTurn_32 5 rfl ?_
      have e9 : v5 = v3 := hv5.trans ((if_neg h6))
      subst e9
      exact hJv5
    · refine ev_iload_n dX7_learnTurn_23 2 rfl ?_
      refine ev_iconst dX7_learnTurn_24 ?_
      refine ev_isub dX7_learnTurn_25 ?_
      refine ev_iload dX7_learnTurn_26 5 rfl ?_
      refine ev_isub dX7_learnTurn_28 ?_
      refine ev_goto 34 dX7_learnTurn_29 (by decide) ?_
      have e9 : v5 = ((many - 1) - v3) := hv5.trans ((if_pos h6))
      subst e9
      exact hJv5
def fX7_learnTurn (order : Int) (many : Int) (μ : Mem) : Option (Mem) :=
  (loopN (fun s => fX7_learnTurn_b8 order many s.1 s.2.1 s.2.2.1 s.2.2.2) FU (0, 0, 0, μ)).bind fun q12 =>
  lt (((order * 5) + many) - 1) fun v13 =>
  (fX7_orderOf 27 q12.2.2).bind fun v14 =>
  lt (fX11_put 29 v13 v14 q12.2.2) fun μ15 =>
  lt (fX11_put 30 v13 q12.1 μ15) fun μ16 =>
  lt (fX11_put 31 v13 q12.2.1 μ16) fun μ17 =>
  if w32 many ≤ w32 1 then
    lt (fX11_put 32 v13 0 μ17) fun μ19 =>
    some (μ19)
  else
    gd (((μ17 25 0) = 5 ∨ (μ17 25 0) = 15)) <|
    lt (μ17 25 0).toNat fun r21 =>
    lt (if w32 (fX11_at (r21 + 2) (fX11_at 27 0 μ17) μ17) = w32 3 then
        true
      else
        false) fun v22 =>
    lt (fX11_put 32 v13 (b2i v22) μ17) fun μ24 =>
    some (μ24)
set_option maxRecDepth 4000 in
theorem eX7_learnTurn (hS : Sd M K P L) (hc : CIn P 1 39) (order : Int) (many : Int) (μ : Mem)  {o : Mem} (hf : fX7_learnTurn order many μ = some o) (hr : (fun o : Mem => Φ none M x (L o)) o) : Ev l D cy g K yX7_learnTurn cX7_learnTurn 8 none (rmd 3 0 0) (MX D cy g K (rmd 3 0 0) Φ) 0 0 M x (L μ) 0 [(0, vr g 25), (1, vi order), (2, vi many)] [] := by
  unfold fX7_learnTurn at hf
  refine ev_iconst dX7_learnTurn_0 ?_
  refine ev_istore_n (al2 := [(3, vi 0), (0, vr g 25), (1, vi order), (2, vi many)]) dX7_learnTurn_1 3 rfl (by decide) rfl ?_
  refine ev_iconst dX7_learnTurn_2 ?_
  refine ev_istore (al2 := [(4, vi 0), (3, vi 0), (0, vr g 25), (1, vi order), (2, vi many)]) dX7_learnTurn_3 (by decide) rfl ?_
  refine ev_iconst dX7_learnTurn_5 ?_
  refine ev_istore (al2 := [(5, vi 0), (4, vi 0), (3, vi 0), (0, vr g 25), (1, vi order), (2, vi many)]) dX7_learnTurn_6 (by decide) rfl ?_
  obtain ⟨q12, hq12, hf⟩ := Option.bind_eq_some_iff.mp hf
  refine ev_sub [3, 4, 5, 2, 1, 0] rfl ?_
  refine loop_ev (H := (fun s : Int × Int × Int × Mem => Ev l D cy g K yX7_learnTurn cX7_learnTurn 8 none (rmd 3 0 0) (MX D cy g K (rmd 3 0 0) Φ) 0 0 M x (L s.2.2.2) 8 [(0, vr g 25), (1, vi order), (2, vi many), (3, vi s.1), (4, vi s.2.1), (5, vi s.2.2.1)] [])) (Hx := (fun e : Int × Int × Mem => Ev l D cy g K yX7_learnTurn cX7_learnTurn 8 none (rmd 3 0 0) (MX D cy g K (rmd 3 0 0) Φ) 0 0 M x (L e.2.2) 95 [(0, vr g 25), (1, vi order), (2, vi many), (3, vi e.1), (4, vi e.2.1)] [])) (fun s o hb hr => tX7_learnTurn_b8 hS hc order many s.1 s.2.1 s.2.2.1 s.2.2.2 hb hr) FU _ _ hq12 ?_
  show Ev l D cy g K yX7_learnTurn cX7_learnTurn 8 none (rmd 3 0 0) (MX D cy g K (rmd 3 0 0) Φ) 0 0 M x (L q12.2.2) 95 [(0, vr g 25), (1, vi order), (2, vi many), (3, vi q12.1), (4, vi q12.2.1)] []
  refine ev_iload_n dX7_learnTurn_95 1 rfl ?_
  refine ev_iconst dX7_learnTurn_96 ?_
  refine ev_imul dX7_learnTurn_97 ?_
  refine ev_iload_n dX7_learnTurn_98 2 rfl ?_
  refine ev_iadd dX7_learnTurn_99 ?_
  refine ev_iconst dX7_learnTurn_100 ?_
  refine ev_isub dX7_learnTurn_101 ?_
  obtain ⟨v13, hv13, hf⟩ := lt_elim hf
  refine ev_rni hv13 ?_
  refine ev_istore (al2 := [(5, vi v13), (0, vr g 25), (1, vi order), (2, vi many), (3, vi q12.1), (4, vi q12.2.1)]) dX7_learnTurn_102 (by decide) rfl ?_
  refine ev_aload_n dX7_learnTurn_104 1 rfl ?_
  refine ev_getK 8 dX7_learnTurn_105 (hS.lt (hc 25 rfl)) rfl (hS.K1 (hc 25 rfl) rfl) ciX7 (by decide) rfl flX7_21 ?_
  refine ev_iload dX7_learnTurn_108 0 rfl ?_
  refine ev_aload_n dX7_learnTurn_110 1 rfl ?_
  refine ev_aload_n dX7_learnTurn_111 1 rfl ?_
  refine ev_getK 6 dX7_learnTurn_112 (hS.lt (hc 25 rfl)) rfl (hS.K1 (hc 25 rfl) rfl) ciX7 (by decide) rfl flX7_15 ?_
  obtain ⟨v14, hv14, hf⟩ := Option.bind_eq_some_iff.mp hf
  refine cl_V1 (As := [vr g 27]) (st := [vi v13, vr g 29]) miX7_orderOf (tX7_orderOf hS (hc.w rfl rfl) 27 q12.2.2 (⟨(hc 27 rfl), rfl⟩) hv14) dX7_learnTurn_115 lkX7_115 inX7_orderOf rfl (hS.lt (hc 25 rfl)) rfl ⟨rfl, rfl⟩ ⟨⟨Nat.le_of_ble_eq_true rfl, Nat.le_of_ble_eq_true rfl⟩, Nat.zero_le _, Nat.zero_le _⟩ (Nat.le_of_ble_eq_true rfl) ?_
  obtain ⟨μ15, hμ15, hf⟩ := lt_elim hf
  refine cl_N0 (As := [vr g 29, vi v13, vi v14]) (st := []) (host := "HotCakes") miX11_put (tX11_put hS (hc.w rfl rfl) 29 v13 v14 q12.2.2 (⟨(hc 29 rfl), rfl⟩) hμ15.symm) dX7_learnTurn_118 (by decide) stX11_put rfl ⟨⟨Nat.le_of_ble_eq_true rfl, Nat.le_of_ble_eq_true rfl⟩, Nat.zero_le _, Nat.zero_le _⟩ (Nat.le_of_ble_eq_true rfl) ?_
  refine ev_aload_n dX7_learnTurn_121 1 rfl ?_
  refine ev_getK 9 dX7_learnTurn_122 (hS.lt (hc 25 rfl)) rfl (hS.K1 (hc 25 rfl) rfl) ciX7 (by decide) rfl flX7_24 ?_
  refine ev_iload dX7_learnTurn_125 0 rfl ?_
  refine ev_iload_n dX7_learnTurn_127 4 rfl ?_
  obtain ⟨μ16, hμ16, hf⟩ := lt_elim hf
  refine cl_N0 (As := [vr g 30, vi v13, vi q12.1]) (st := []) (host := "HotCakes") miX11_put (tX11_put hS (hc.w rfl rfl) 30 v13 q12.1 μ15 (⟨(hc 30 rfl), rfl⟩) hμ16.symm) dX7_learnTurn_128 (by decide) stX11_put rfl ⟨⟨Nat.le_of_ble_eq_true rfl, Nat.le_of_ble_eq_true rfl⟩, Nat.zero_le _, Nat.zero_le _⟩ (Nat.le_of_ble_eq_true rfl) ?_
  refine ev_aload_n dX7_learnTurn_131 1 rfl ?_
  refine ev_getK 10 dX7_learnTurn_132 (hS.lt (hc 25 rfl)) rfl (hS.K1 (hc 25 rfl) rfl) ciX7 (by decide) rfl flX7_27 ?_
  refine ev_iload dX7_learnTurn_135 0 rfl ?_
  refine ev_iload dX7_learnTurn_137 5 rfl ?_
  obtain ⟨μ17, hμ17, hf⟩ := lt_elim hf
  refine cl_N0 (As := [vr g 31, vi v13, vi q12.2.1]) (st := []) (host := "HotCakes") miX11_put (tX11_put hS (hc.w rfl rfl) 31 v13 q12.2.1 μ16 (⟨(hc 31 rfl), rfl⟩) hμ17.symm) dX7_learnTurn_139 (by decide) stX11_put rfl ⟨⟨Nat.le_of_ble_eq_true rfl, Nat.le_of_ble_eq_true rfl⟩, Nat.zero_le _, Nat.zero_le _⟩ (Nat.le_of_ble_eq_true rfl) ?_
  refine ev_aload_n dX7_learnTurn_142 1 rfl ?_
  refine ev_getK 11 dX7_learnTurn_143 (hS.lt (hc 25 rfl)) rfl (hS.K1 (hc 25 rfl) rfl) ciX7 (by decide) rfl flX7_30 ?_
  refine ev_iload dX7_learnTurn_146 0 rfl ?_
  refine ev_iload_n dX7_learnTurn_148 3 rfl ?_
  refine ev_iconst dX7_learnTurn_149 ?_
  refine ev_icmp_le 176 dX7_learnTurn_150 (by decide) (fun h18 => ?_) (fun h18 => ?_)
  · rw [if_pos h18] at hf
    refine ev_iconst dX7_learnTurn_176 ?_
    obtain ⟨μ19, hμ19, hf⟩ := lt_elim hf
    refine cl_N0 (As := [vr g 32, vi v13, vi 0]) (st := []) (host := "HotCakes") miX11_put (tX11_put hS (hc.w rfl rfl) 32 v13 0 μ17 (⟨(hc 32 rfl), rfl⟩) hμ19.symm) dX7_learnTurn_177 (by decide) stX11_put rfl ⟨⟨Nat.le_of_ble_eq_true rfl, Nat.le_of_ble_eq_true rfl⟩, Nat.zero_le _, Nat.zero_le _⟩ (Nat.le_of_ble_eq_true rfl) ?_
    obtain rfl := Option.some.inj hf
    exact ev_vret dX7_learnTurn_180 rfl ⟨Nat.zero_le _, Nat.zero_le _⟩ hr
  · rw [if_neg h18] at hf
    refine ev_aload_n dX7_learnTurn_153 1 rfl ?_
    obtain ⟨g20, hf⟩ := gd_elim hf
    refine ev_getR 0 dX7_learnTurn_154 (hS.lt (hc 25 rfl)) rfl (hS.mem _ (hc 25 rfl)) (hS.K0 (hc 25 rfl) rfl) (dy_Gr g20).2 ciX7 (by decide) rfl flX7_55 ?_
    obtain ⟨r21, hr21, hf⟩ := lt_elim hf
    refine ev_rn (congrArg (vr g) hr21) ?_
    have kr21 : isGr r21 := by rw [hr21]; exact (dy_Gr g20).1
    refine ev_aload_n dX7_learnTurn_157 1 rfl ?_
    refine ev_getK 6 dX7_learnTurn_158 (hS.lt (hc 25 rfl)) rfl (hS.K1 (hc 25 rfl) rfl) ciX7 (by decide) rfl flX7_15 ?_
    refine ev_iconst dX7_learnTurn_161 ?_
    refine cl_N1 (As := [vr g 27, vi 0]) (st := [vr g r21, vi v13, vr g 32]) (host := "HotCakes") miX11_at (tX11_at hS (hc.w rfl rfl) 27 0 μ17 (⟨(hc 27 rfl), rfl⟩) (o := (fX11_at 27 0 μ17)) rfl) dX7_learnTurn_162 (by decide) stX11_at rfl ⟨⟨Nat.le_of_ble_eq_true rfl, Nat.le_of_ble_eq_true rfl⟩, Nat.zero_le _, Nat.zero_le _⟩ (Nat.le_of_ble_eq_true rfl) ?_
    refine cl_V1 (As := [vi (fX11_at 27 0 μ17)]) (st := [vi v13, vr g 32]) miX2_kindOf (tX2_kindOf hS (hc.w rfl rfl) r21 (fX11_at 27 0 μ17) μ17 kr21 (o := (fX11_at (r21 + 2) (fX11_at 27 0 μ17) μ17)) rfl) dX7_learnTurn_165 lkX7_119 inX2_kindOf rfl (hS.lt (hc _ (inR_w (i_Gr0 kr21) rfl rfl))) (s_Gr0 kr21) ⟨rfl, rfl⟩ ⟨⟨Nat.le_of_ble_eq_true rfl, Nat.le_of_ble_eq_true rfl⟩, Nat.zero_le _, Nat.zero_le _⟩ (Nat.le_of_ble_eq_true rfl) ?_
    refine ev_iconst dX7_learnTurn_168 ?_
    obtain ⟨v22, hv22, hf⟩ := lt_elim hf
    have hJv22 : Ev l D cy g K yX7_learnTurn cX7_learnTurn 8 none (rmd 3 0 0) (MX D cy g K (rmd 3 0 0) Φ) 0 0 M x (L μ17) 177 [(5, vi v13), (0, vr g 25), (1, vi order), (2, vi many), (3, vi q12.1), (4, vi q12.2.1)] [vb v22, vi v13, vr g 32] := by
      obtain ⟨μ24, hμ24, hf⟩ := lt_elim hf
      refine cl_N0 (As := [vr g 32, vi v13, vb v22]) (st := []) (host := "HotCakes") miX11_put (tX11_put hS (hc.w rfl rfl) 32 v13 (b2i v22) μ17 (⟨(hc 32 rfl), rfl⟩) hμ24.symm) dX7_learnTurn_177 (by decide) stX11_put rfl ⟨⟨Nat.le_of_ble_eq_true rfl, Nat.le_of_ble_eq_true rfl⟩, Nat.zero_le _, Nat.zero_le _⟩ (Nat.le_of_ble_eq_true rfl) ?_
      obtain rfl := Option.some.inj hf
      exact ev_vret dX7_learnTurn_180 rfl ⟨Nat.zero_le _, Nat.zero_le _⟩ hr
    refine ev_icmp_ne 176 dX7_learnTurn_169 (by decide) (fun h23 => ?_) (fun h23 => ?_)
    · refine ev_iconst dX7_learnTurn_176 ?_
      have e9 : v22 = false := hv22.trans ((if_neg h23))
      subst e9
      exact hJv22
    · refine ev_iconst dX7_learnTurn_172 ?_
      refine ev_goto 177 dX7_learnTurn_173 (by decide) ?_
      have e9 : v22 = true := hv22.trans ((if_pos h23))
      subst e9
      exact hJv22
theorem tX7_learnTurn (hS : Sd M K P L) (hc : CIn P 1 39) (order : Int) (many : Int) (μ : Mem) {o : Mem} (hf : fX7_learnTurn order many μ = some o) : Cn l D cy g K K yX7_learnTurn cX7_learnTurn 8 none (rmd 3 0 0) [vr g 25, vi order, vi many] M x (L μ) (PE none M x (L o)) :=
 Cn.of (by decide) (Nat.le_of_ble_eq_true rfl) (eX7_learnTurn hS hc order many μ hf (PE_i _ _ _ _))
def fJ6_bitCount_0f7a4 (p00 : Int) : Int :=
  lt (p00 - (i_and (i_ushr p00 1) 1431655765)) fun v1 =>
  lt ((i_and v1 858993459) + (i_and (i_ushr v1 2) 858993459)) fun v2 =>
  lt (i_and (v2 + (i_ushr v2 4)) 252645135) fun v3 =>
  lt (v3 + (i_ushr v3 8)) fun v4 =>
  lt (v4 + (i_ushr v4 16)) fun v5 =>
  (i_and v5 63)
set_option maxRecDepth 4000 in
theorem eJ6_bitCount_0f7a4  (p00 : Int) (μ : Mem)  {o : Int} (hf : fJ6_bitCount_0f7a4 p00 = o) (hr : (fun o : Int => Φ (some (vi o)) M x μ) o) : Ev l D cy g K yJ6_bitCount_0f7a4 cJ6_bitCount_0f7a4 1 (some .int) (rmd 1 0 0) (MX D cy g K (rmd 1 0 0) Φ) 0 0 M x μ 0 [(0, vi p00)] [] := by
  unfold fJ6_bitCount_0f7a4 at hf
  refine ev_iload_n dJ6_bitCount_0f7a4_0 0 rfl ?_
  refine ev_iload_n dJ6_bitCount_0f7a4_1 0 rfl ?_
  refine ev_iconst dJ6_bitCount_0f7a4_2 ?_
  refine ev_iushr dJ6_bitCount_0f7a4_3 ?_
  refine ev_ldcw 1431655765 dJ6_bitCount_0f7a4_4 kcJ6_265 (by decide) ?_
  refine ev_iand dJ6_bitCount_0f7a4_7 ?_
  refine ev_isub dJ6_bitCount_0f7a4_8 ?_
  obtain ⟨v1, hv1, hf⟩ := lt_elim hf
  refine ev_rni hv1 ?_
  refine ev_istore_n (al2 := [(0, vi v1)]) dJ6_bitCount_0f7a4_9 0 rfl (by decide) rfl ?_
  refine ev_iload_n dJ6_bitCount_0f7a4_10 0 rfl ?_
  refine ev_ldcw 858993459 dJ6_bitCount_0f7a4_11 kcJ6_266 (by decide) ?_
  refine ev_iand dJ6_bitCount_0f7a4_14 ?_
  refine ev_iload_n dJ6_bitCount_0f7a4_15 0 rfl ?_
  refine ev_iconst dJ6_bitCount_0f7a4_16 ?_
  refine ev_iushr dJ6_bitCount_0f7a4_17 ?_
  refine ev_ldcw 858993459 dJ6_bitCount_0f7a4_18 kcJ6_266 (by decide) ?_
  refine ev_iand dJ6_bitCount_0f7a4_21 ?_
  refine ev_iadd dJ6_bitCount_0f7a4_22 ?_
  obtain ⟨v2, hv2, hf⟩ := lt_elim hf
  refine ev_rni hv2 ?_
  refine ev_istore_n (al2 := [(0, vi v2)]) dJ6_bitCount_0f7a4_23 0 rfl (by decide) rfl ?_
  refine ev_iload_n dJ6_bitCount_0f7a4_24 0 rfl ?_
  refine ev_iload_n dJ6_bitCount_0f7a4_25 0 rfl ?_
  refine ev_iconst dJ6_bitCount_0f7a4_26 ?_
  refine ev_iushr dJ6_bitCount_0f7a4_27 ?_
  refine ev_iadd dJ6_bitCount_0f7a4_28 ?_
  refine ev_ldcw 252645135 dJ6_bitCount_0f7a4_29 kcJ6_267 (by decide) ?_
  refine ev_iand dJ6_bitCount_0f7a4_32 ?_
  obtain ⟨v3, hv3, hf⟩ := lt_elim hf
  refine ev_rni hv3 ?_
  refine ev_istore_n (al2 := [(0, vi v3)]) dJ6_bitCount_0f7a4_33 0 rfl (by decide) rfl ?_
  refine ev_iload_n dJ6_bitCount_0f7a4_34 0 rfl ?_
  refine ev_iload_n dJ6_bitCount_0f7a4_35 0 rfl ?_
  refine ev_bipush dJ6_bitCount_0f7a4_36 (by decide) ?_
  refine ev_iushr dJ6_bitCount_0f7a4_38 ?_
  refine ev_iadd dJ6_bitCount_0f7a4_39 ?_
  obtain ⟨v4, hv4, hf⟩ := lt_elim hf
  refine ev_rni hv4 ?_
  refine ev_istore_n (al2 := [(0, vi v4)]) dJ6_bitCount_0f7a4_40 0 rfl (by decide) rfl ?_
  refine ev_iload_n dJ6_bitCount_0f7a4_41 0 rfl ?_
  refine ev_iload_n dJ6_bitCount_0f7a4_42 0 rfl ?_
  refine ev_bipush dJ6_bitCount_0f7a4_43 (by decide) ?_
  refine ev_iushr dJ6_bitCount_0f7a4_45 ?_
  refine ev_iadd dJ6_bitCount_0f7a4_46 ?_
  obtain ⟨v5, hv5, hf⟩ := lt_elim hf
  refine ev_rni hv5 ?_
  refine ev_istore_n (al2 := [(0, vi v5)]) dJ6_bitCount_0f7a4_47 0 rfl (by decide) rfl ?_
  refine ev_iload_n dJ6_bitCount_0f7a4_48 0 rfl ?_
  refine ev_bipush dJ6_bitCount_0f7a4_49 (by decide) ?_
  refine ev_iand dJ6_bitCount_0f7a4_51 ?_
  obtain rfl := hf
  exact ev_iret dJ6_bitCount_0f7a4_52 rfl ⟨Nat.zero_le _, Nat.zero_le _⟩ hr
theorem tJ6_bitCount_0f7a4 (p00 : Int) (μ : Mem) {o : Int} (hf : fJ6_bitCount_0f7a4 p00 = o) : Cn l D cy g K K yJ6_bitCount_0f7a4 cJ6_bitCount_0f7a4 1 (some .int) (rmd 1 0 0) [vi p00] M x μ (PE (some (vi o)) M x μ) :=
 Cn.ofF (by decide) (Nat.le_of_ble_eq_true rfl) (eJ6_bitCount_0f7a4 p00 μ hf (PE_i _ _ _ _))
def fX2_widthOf (k : Nat) (cake : Int) (μ : Mem) : Int :=
  (fX11_at (k + 3) cake μ)
set_option maxRecDepth 4000 in
theorem eX2_widthOf (hS : Sd M K P L) (hc : CIn P 1 39) (k : Nat) (cake : Int) (μ : Mem) (hk : isGr k) {o : Int} (hf : fX2_widthOf k cake μ = o) (hr : (fun o : Int => Φ (some (vi o)) M x (L μ)) o) : Ev l D cy g K yX2_widthOf cX2_widthOf 2 (some .int) (rmd 2 0 0) (MX D cy g K (rmd 2 0 0) Φ) 0 0 M x (L μ) 0 [(0, vr g k), (1, vi cake)] [] := by
  unfold fX2_widthOf at hf
  refine ev_aload_n dX2_widthOf_0 0 rfl ?_
  refine ev_getK 3 dX2_widthOf_1 (hS.lt (hc _ (inR_w (i_Gr0 hk) rfl rfl))) (s_Gr0 hk) (hS.K1 (hc _ (inR_w (i_Gr0 hk) rfl rfl)) (K_Gr3 hk)) ciX2 (by decide) rfl flX2_19 ?_
  refine ev_iload_n dX2_widthOf_4 1 rfl ?_
  refine cl_N1 (As := [vr g (k + 3), vi cake]) (st := []) (host := "HotCakes") miX11_at (tX11_at hS (hc.w rfl rfl) (k + 3) cake μ (⟨(hc _ (inR_w (i_Gr3 hk) rfl rfl)), (ia_of (s_Gr3 hk))⟩) (o := (fX11_at (k + 3) cake μ)) rfl) dX2_widthOf_5 (by decide) stX11_at rfl ⟨⟨Nat.le_of_ble_eq_true rfl, Nat.le_of_ble_eq_true rfl⟩, Nat.zero_le _, Nat.zero_le _⟩ (Nat.le_of_ble_eq_true rfl) ?_
  obtain rfl := hf
  exact ev_iret dX2_widthOf_8 rfl ⟨Nat.zero_le _, Nat.zero_le _⟩ hr
theorem tX2_widthOf (hS : Sd M K P L) (hc : CIn P 1 39) (k : Nat) (cake : Int) (μ : Mem) (hk : isGr k) {o : Int} (hf : fX2_widthOf k cake μ = o) : Cn l D cy g K K yX2_widthOf cX2_widthOf 2 (some .int) (rmd 2 0 0) [vr g k, vi cake] M x (L μ) (PE (some (vi o)) M x (L μ)) :=
 Cn.of (by decide) (Nat.le_of_ble_eq_true rfl) (eX2_widthOf hS hc k cake μ hk hf (PE_i _ _ _ _))
def fX2_weightOf (k : Nat) (cake : Int) (μ : Mem) : Int :=
  lt (if w32 (fX11_at (k + 2) cake μ) = w32 2 then
      (2 * (fX11_at (k + 3) cake μ))
    else
      (fX11_at (k + 3) cake μ)) fun v1 =>
  v1
set_option maxRecDepth 4000 in
theorem eX2_weightOf (hS : Sd M K P L) (hc : CIn P 1 39) (k : Nat) (cake : Int) (μ : Mem) (hk : isGr k) {o : Int} (hf : fX2_weightOf k cake μ = o) (hr : (fun o : Int => Φ (some (vi o)) M x (L μ)) o) : Ev l D cy g K yX2_weightOf cX2_weightOf 2 (some .int) (rmd 3 0 0) (MX D cy g K (rmd 3 0 0) Φ) 0 0 M x (L μ) 0 [(0, vr g k), (1, vi cake)] [] := by
  unfold fX2_weightOf at hf
  refine ev_aload_n dX2_weightOf_0 0 rfl ?_
  refine ev_iload_n dX2_weightOf_1 1 rfl ?_
  refine cl_V1 (As := [vi cake]) (st := []) miX2_kindOf (tX2_kindOf hS (hc.w rfl rfl) k cake μ hk (o := (fX11_at (k + 2) cake μ)) rfl) dX2_weightOf_2 lkX2_56 inX2_kindOf rfl (hS.lt (hc _ (inR_w (i_Gr0 hk) rfl rfl))) (s_Gr0 hk) ⟨rfl, rfl⟩ ⟨⟨Nat.le_of_ble_eq_true rfl, Nat.le_of_ble_eq_true rfl⟩, Nat.zero_le _, Nat.zero_le _⟩ (Nat.le_of_ble_eq_true rfl) ?_
  refine ev_iconst dX2_weightOf_5 ?_
  obtain ⟨v1, hv1, hf⟩ := lt_elim hf
  have hJv1 : Ev l D cy g K yX2_weightOf cX2_weightOf 2 (some .int) (rmd 3 0 0) (MX D cy g K (rmd 3 0 0) Φ) 0 0 M x (L μ) 24 [(0, vr g k), (1, vi cake)] [vi v1] := by
    obtain rfl := hf
    exact ev_iret dX2_weightOf_24 rfl ⟨Nat.zero_le _, Nat.zero_le _⟩ hr
  refine ev_icmp_ne 19 dX2_weightOf_6 (by decide) (fun h2 => ?_) (fun h2 => ?_)
  · refine ev_aload_n dX2_weightOf_19 0 rfl ?_
    refine ev_iload_n dX2_weightOf_20 1 rfl ?_
    refine cl_V1 (As := [vi cake]) (st := []) miX2_widthOf (tX2_widthOf hS (hc.w rfl rfl) k cake μ hk (o := (fX11_at (k + 3) cake μ)) rfl) dX2_weightOf_21 lkX2_48 inX2_widthOf rfl (hS.lt (hc _ (inR_w (i_Gr0 hk) rfl rfl))) (s_Gr0 hk) ⟨rfl, rfl⟩ ⟨⟨Nat.le_of_ble_eq_true rfl, Nat.le_of_ble_eq_true rfl⟩, Nat.zero_le _, Nat.zero_le _⟩ (Nat.le_of_ble_eq_true rfl) ?_
    have e9 : v1 = (fX11_at (k + 3) cake μ) := hv1.trans ((if_neg h2))
    subst e9
    exact hJv1
  · refine ev_iconst dX2_weightOf_9 ?_
    refine ev_aload_n dX2_weightOf_10 0 rfl ?_
    refine ev_iload_n dX2_weightOf_11 1 rfl ?_
    refine cl_V1 (As := [vi cake]) (st := [vi 2]) miX2_widthOf (tX2_widthOf hS (hc.w rfl rfl) k cake μ hk (o := (fX11_at (k + 3) cake μ)) rfl) dX2_weightOf_12 lkX2_48 inX2_widthOf rfl (hS.lt (hc _ (inR_w (i_Gr0 hk) rfl rfl))) (s_Gr0 hk) ⟨rfl, rfl⟩ ⟨⟨Nat.le_of_ble_eq_true rfl, Nat.le_of_ble_eq_true rfl⟩, Nat.zero_le _, Nat.zero_le _⟩ (Nat.le_of_ble_eq_true rfl) ?_
    refine ev_imul dX2_weightOf_15 ?_
    refine ev_goto 24 dX2_weightOf_16 (by decide) ?_
    have e9 : v1 = (2 * (fX11_at (k + 3) cake μ)) := hv1.trans ((if_pos h2))
    subst e9
    exact hJv1
theorem tX2_weightOf (hS : Sd M K P L) (hc : CIn P 1 39) (k : Nat) (cake : Int) (μ : Mem) (hk : isGr k) {o : Int} (hf : fX2_weightOf k cake μ = o) : Cn l D cy g K K yX2_weightOf cX2_weightOf 2 (some .int) (rmd 3 0 0) [vr g k, vi cake] M x (L μ) (PE (some (vi o)) M x (L μ)) :=
 Cn.of (by decide) (Nat.le_of_ble_eq_true rfl) (eX2_weightOf hS hc k cake μ hk hf (PE_i _ _ _ _))
def fX2_costs (k : Nat) (μ : Mem) : Unit :=
  ()
set_option maxRecDepth 4000 in
theorem eX2_costs (hS : Sd M K P L) (hc : CIn P 1 39) (k : Nat) (μ : Mem) (hk : isGr k) {o : Unit} (hf : fX2_costs k μ = o) (hr : (fun o : Unit => Φ (some (vr g (k + 7))) M x (L μ)) o) : Ev l D cy g K yX2_costs cX2_costs 1 (some (.object "HotCakes$Law")) (rmd 1 0 0) (MX D cy g K (rmd 1 0 0) Φ) 0 0 M x (L μ) 0 [(0, vr g k)] [] := by
  unfold fX2_costs at hf
  refine ev_aload_n dX2_costs_0 0 rfl ?_
  refine ev_getK 6 dX2_costs_1 (hS.lt (hc _ (inR_w (i_Gr0 hk) rfl rfl))) (s_Gr0 hk) (hS.K1 (hc _ (inR_w (i_Gr0 hk) rfl rfl)) (K_Gr6 hk)) ciX2 (by decide) rfl flX2_31 ?_
  obtain rfl := hf
  exact ev_aret dX2_costs_4 rfl (by first | exact Or.inl ⟨_, rfl⟩ | exact Or.inr ⟨_, rfl⟩) ⟨Nat.zero_le _, Nat.zero_le _⟩ hr
theorem tX2_costs (hS : Sd M K P L) (hc : CIn P 1 39) (k : Nat) (μ : Mem) (hk : isGr k) {o : Unit} (hf : fX2_costs k μ = o) : Cn l D cy g K K yX2_costs cX2_costs 1 (some (.object "HotCakes$Law")) (rmd 1 0 0) [vr g k] M x (L μ) (PE (some (vr g (k + 7))) M x (L μ)) :=
 Cn.of (by decide) (Nat.le_of_ble_eq_true rfl) (eX2_costs hS hc k μ hk hf (PE_i _ _ _ _))
def fX3_push (k : Nat) (value : Int) (μ : Mem) : Mem :=
  if w32 (μ k 4) < w32 32 then
    lt (fX11_put (k + 2) (μ k 4) value μ) fun μ2 =>
    lt (upd2 μ2 k 4 ((μ2 k 4) + 1)) fun μ3 =>
    μ3
  else
    μ
set_option maxRecDepth 4000 in
theorem eX3_push (hS : Sd M K P L) (hc : CIn P 1 39) (k : Nat) (value : Int) (μ : Mem) (hk : isLw k) {o : Mem} (hf : fX3_push k value μ = o) (hr : (fun o : Mem => Φ none M x (L o)) o) : Ev l D cy g K yX3_push cX3_push 2 none (rmd 2 0 0) (MX D cy g K (rmd 2 0 0) Φ) 0 0 M x (L μ) 0 [(0, vr g k), (1, vi value)] [] := by
  unfold fX3_push at hf
  refine ev_aload_n dX3_push_0 0 rfl ?_
  refine ev_getI 4 dX3_push_1 (hS.lt (hc _ (inR_w (i_Lw0 hk) rfl rfl))) (s_Lw0 hk) (hS.mem _ (hc _ (inR_w (i_Lw0 hk) rfl rfl))) ciX3 (by decide) rfl flX3_33 ?_
  refine ev_aload_n dX3_push_4 0 rfl ?_
  refine ev_getK 2 dX3_push_5 (hS.lt (hc _ (inR_w (i_Lw0 hk) rfl rfl))) (s_Lw0 hk) (hS.K1 (hc _ (inR_w (i_Lw0 hk) rfl rfl)) (K_Lw2 hk)) ciX3 (by decide) rfl flX3_15 ?_
  refine ev_alen dX3_push_8 (hS.lt (hc _ (inR_w (i_Lw2 hk) rfl rfl))) (s_Lw2 hk) (by decide) ?_
  refine ev_rn (w := vi 32) rfl ?_
  refine ev_icmp_ge 34 dX3_push_9 (by decide) (fun h1 => ?_) (fun h1 => ?_)
  · rw [if_neg h1] at hf
    obtain rfl := hf
    exact ev_vret dX3_push_34 rfl ⟨Nat.zero_le _, Nat.zero_le _⟩ hr
  · rw [if_pos h1] at hf
    refine ev_aload_n dX3_push_12 0 rfl ?_
    refine ev_getK 2 dX3_push_13 (hS.lt (hc _ (inR_w (i_Lw0 hk) rfl rfl))) (s_Lw0 hk) (hS.K1 (hc _ (inR_w (i_Lw0 hk) rfl rfl)) (K_Lw2 hk)) ciX3 (by decide) rfl flX3_15 ?_
    refine ev_aload_n dX3_push_16 0 rfl ?_
    refine ev_getI 4 dX3_push_17 (hS.lt (hc _ (inR_w (i_Lw0 hk) rfl rfl))) (s_Lw0 hk) (hS.mem _ (hc _ (inR_w (i_Lw0 hk) rfl rfl))) ciX3 (by decide) rfl flX3_33 ?_
    refine ev_iload_n dX3_push_20 1 rfl ?_
    obtain ⟨μ2, hμ2, hf⟩ := lt_elim hf
    refine cl_N0 (As := [vr g (k + 2), vi (μ k 4), vi value]) (st := []) (host := "HotCakes") miX11_put (tX11_put hS (hc.w rfl rfl) (k + 2) (μ k 4) value μ (⟨(hc _ (inR_w (i_Lw2 hk) rfl rfl)), (ia_of (s_Lw2 hk))⟩) hμ2.symm) dX3_push_21 (by decide) stX11_put rfl ⟨⟨Nat.le_of_ble_eq_true rfl, Nat.le_of_ble_eq_true rfl⟩, Nat.zero_le _, Nat.zero_le _⟩ (Nat.le_of_ble_eq_true rfl) ?_
    refine ev_aload_n dX3_push_24 0 rfl ?_
    refine ev_dup dX3_push_25 rfl ?_
    refine ev_getI 4 dX3_push_26 (hS.lt (hc _ (inR_w (i_Lw0 hk) rfl rfl))) (s_Lw0 hk) (hS.mem _ (hc _ (inR_w (i_Lw0 hk) rfl rfl))) ciX3 (by decide) rfl flX3_33 ?_
    refine ev_iconst dX3_push_29 ?_
    refine ev_iadd dX3_push_30 ?_
    obtain ⟨μ3, hμ3, hf⟩ := lt_elim hf
    refine ev_putI 4 dX3_push_31 (hS.lt (hc _ (inR_w (i_Lw0 hk) rfl rfl))) (s_Lw0 hk) ciX3 (by decide) (Or.inl rfl) rfl rfl flX3_33 (hS.up (hc _ (inR_w (i_Lw0 hk) rfl rfl)) hμ3) ?_
    obtain rfl := hf
    exact ev_vret dX3_push_34 rfl ⟨Nat.zero_le _, Nat.zero_le _⟩ hr
theorem tX3_push (hS : Sd M K P L) (hc : CIn P 1 39) (k : Nat) (value : Int) (μ : Mem) (hk : isLw k) {o : Mem} (hf : fX3_push k value μ = o) : Cn l D cy g K K yX3_push cX3_push 2 none (rmd 2 0 0) [vr g k, vi value] M x (L μ) (PE none M x (L o)) :=
 Cn.of (by decide) (Nat.le_of_ble_eq_true rfl) (eX3_push hS hc k value μ hk hf (PE_i _ _ _ _))
def fX3_pop (k : Nat) (μ : Mem) : Int × Mem :=
  if w32 (μ k 4) ≤ 0 then
    (0, μ)
  else
    lt (upd2 μ k 4 ((μ k 4) - 1)) fun μ2 =>
    ((fX11_at (k + 2) (μ2 k 4) μ2), μ2)
set_option maxRecDepth 4000 in
theorem eX3_pop (hS : Sd M K P L) (hc : CIn P 1 39) (k : Nat) (μ : Mem) (hk : isLw k) {o : Int × Mem} (hf : fX3_pop k μ = o) (hr : (fun o : Int × Mem => Φ (some (vi o.1)) M x (L o.2)) o) : Ev l D cy g K yX3_pop cX3_pop 1 (some .int) (rmd 2 0 0) (MX D cy g K (rmd 2 0 0) Φ) 0 0 M x (L μ) 0 [(0, vr g k)] [] := by
  unfold fX3_pop at hf
  refine ev_aload_n dX3_pop_0 0 rfl ?_
  refine ev_getI 4 dX3_pop_1 (hS.lt (hc _ (inR_w (i_Lw0 hk) rfl rfl))) (s_Lw0 hk) (hS.mem _ (hc _ (inR_w (i_Lw0 hk) rfl rfl))) ciX3 (by decide) rfl flX3_33 ?_
  refine ev_if_le 29 dX3_pop_4 (by decide) (fun h1 => ?_) (fun h1 => ?_)
  · rw [if_pos h1] at hf
    refine ev_iconst dX3_pop_29 ?_
    obtain rfl := hf
    exact ev_iret dX3_pop_30 rfl ⟨Nat.zero_le _, Nat.zero_le _⟩ hr
  · rw [if_neg h1] at hf
    refine ev_aload_n dX3_pop_7 0 rfl ?_
    refine ev_dup dX3_pop_8 rfl ?_
    refine ev_getI 4 dX3_pop_9 (hS.lt (hc _ (inR_w (i_Lw0 hk) rfl rfl))) (s_Lw0 hk) (hS.mem _ (hc _ (inR_w (i_Lw0 hk) rfl rfl))) ciX3 (by decide) rfl flX3_33 ?_
    refine ev_iconst dX3_pop_12 ?_
    refine ev_isub dX3_pop_13 ?_
    obtain ⟨μ2, hμ2, hf⟩ := lt_elim hf
    refine ev_putI 4 dX3_pop_14 (hS.lt (hc _ (inR_w (i_Lw0 hk) rfl rfl))) (s_Lw0 hk) ciX3 (by decide) (Or.inl rfl) rfl rfl flX3_33 (hS.up (hc _ (inR_w (i_Lw0 hk) rfl rfl)) hμ2) ?_
    refine ev_aload_n dX3_pop_17 0 rfl ?_
    refine ev_getK 2 dX3_pop_18 (hS.lt (hc _ (inR_w (i_Lw0 hk) rfl rfl))) (s_Lw0 hk) (hS.K1 (hc _ (inR_w (i_Lw0 hk) rfl rfl)) (K_Lw2 hk)) ciX3 (by decide) rfl flX3_15 ?_
    refine ev_aload_n dX3_pop_21 0 rfl ?_
    refine ev_getI 4 dX3_pop_22 (hS.lt (hc _ (inR_w (i_Lw0 hk) rfl rfl))) (s_Lw0 hk) (hS.mem _ (hc _ (inR_w (i_Lw0 hk) rfl rfl))) ciX3 (by decide) rfl flX3_33 ?_
    refine cl_N1 (As := [vr g (k + 2), vi (μ2 k 4)]) (st := []) (host := "HotCakes") miX11_at (tX11_at hS (hc.w rfl rfl) (k + 2) (μ2 k 4) μ2 (⟨(hc _ (inR_w (i_Lw2 hk) rfl rfl)), (ia_of (s_Lw2 hk))⟩) (o := (fX11_at (k + 2) (μ2 k 4) μ2)) rfl) dX3_pop_25 (by decide) stX11_at rfl ⟨⟨Nat.le_of_ble_eq_true rfl, Nat.le_of_ble_eq_true rfl⟩, Nat.zero_le _, Nat.zero_le _⟩ (Nat.le_of_ble_eq_true rfl) ?_
    obtain rfl := hf
    exact ev_iret dX3_pop_28 rfl ⟨Nat.zero_le _, Nat.zero_le _⟩ hr
theorem tX3_pop (hS : Sd M K P L) (hc : CIn P 1 39) (k : Nat) (μ : Mem) (hk : isLw k) {o : Int × Mem} (hf : fX3_pop k μ = o) : Cn l D cy g K K yX3_pop cX3_pop 1 (some .int) (rmd 2 0 0) [vr g k] M x (L μ) (PE (some (vi o.1)) M x (L o.2)) :=
 Cn.of (by decide) (Nat.le_of_ble_eq_true rfl) (eX3_pop hS hc k μ hk hf (PE_i _ _ _ _))
def fX3_joined (step : Int) (first : Int) (second : Int) : Int :=
  if w32 step = (-11) then
    (w32 (first - second))
  else
    if w32 step = (-10) then
      (w32 (first + second))
    else
      if w32 step = (-9) then
        lt (if w32 first = w32 second then
            1
          else
            0) fun v4 =>
        v4
      else
        if w32 step = (-8) then
          lt (if w32 first < w32 second then
              1
            else
              0) fun v7 =>
          v7
        else
          if w32 step = (-7) then
            lt (if w32 first = 0 then
                if w32 second = 0 then
                  0
                else
                  1
              else
                1) fun v10 =>
            v10
          else
            if w32 step = (-6) then
              lt (if w32 first = 0 then
                  0
                else
                  if w32 second = 0 then
                    0
                  else
                    1) fun v14 =>
              v14
            else
              (w32 (first * second))
set_option maxRecDepth 4000 in
theorem eX3_joined  (step : Int) (first : Int) (second : Int) (μ : Mem)  {o : Int} (hf : fX3_joined step first second = o) (hr : (fun o : Int => Φ (some (vi o)) M x μ) o) : Ev l D cy g K yX3_joined cX3_joined 3 (some .int) (rmd 1 0 0) (MX D cy g K (rmd 1 0 0) Φ) 0 0 M x μ 0 [(0, vi step), (1, vi first), (2, vi second)] [] := by
  unfold fX3_joined at hf
  refine ev_iload_n dX3_joined_0 0 rfl ?_
  by_cases h1 : w32 step = (-11)
  · rw [if_pos h1] at hf
    refine ev_tableIn 94 (-11) dX3_joined_1 h1 (by decide) (by decide) rfl (by decide) ?_
    refine ev_iload_n dX3_joined_94 1 rfl ?_
    refine ev_iload_n dX3_joined_95 2 rfl ?_
    refine ev_isubw dX3_joined_96 ?_
    obtain rfl := hf
    exact ev_iret dX3_joined_97 rfl ⟨Nat.zero_le _, Nat.zero_le _⟩ hr
  · rw [if_neg h1] at hf
    by_cases h2 : w32 step = (-10)
    · rw [if_pos h2] at hf
      refine ev_tableIn 90 (-10) dX3_joined_1 h2 (by decide) (by decide) rfl (by decide) ?_
      refine ev_iload_n dX3_joined_90 1 rfl ?_
      refine ev_iload_n dX3_joined_91 2 rfl ?_
      refine ev_iaddw dX3_joined_92 ?_
      obtain rfl := hf
      exact ev_iret dX3_joined_93 rfl ⟨Nat.zero_le _, Nat.zero_le _⟩ hr
    · rw [if_neg h2] at hf
      by_cases h3 : w32 step = (-9)
      · rw [if_pos h3] at hf
        refine ev_tableIn 79 (-9) dX3_joined_1 h3 (by decide) (by decide) rfl (by decide) ?_
        refine ev_iload_n dX3_joined_79 1 rfl ?_
        refine ev_iload_n dX3_joined_80 2 rfl ?_
        obtain ⟨v4, hv4, hf⟩ := lt_elim hf
        have hJv4 : Ev l D cy g K yX3_joined cX3_joined 3 (some .int) (rmd 1 0 0) (MX D cy g K (rmd 1 0 0) Φ) 0 0 M x μ 89 [(0, vi step), (1, vi first), (2, vi second)] [vi v4] := by
          obtain rfl := hf
          exact ev_iret dX3_joined_89 rfl ⟨Nat.zero_le _, Nat.zero_le _⟩ hr
        refine ev_icmp_ne 88 dX3_joined_81 (by decide) (fun h5 => ?_) (fun h5 => ?_)
        · refine ev_iconst dX3_joined_88 ?_
          have e9 : v4 = 0 := hv4.trans ((if_neg h5))
          subst e9
          exact hJv4
        · refine ev_iconst dX3_joined_84 ?_
          refine ev_goto 89 dX3_joined_85 (by decide) ?_
          have e9 : v4 = 1 := hv4.trans ((if_pos h5))
          subst e9
          exact hJv4
      · rw [if_neg h3] at hf
        by_cases h6 : w32 step = (-8)
        · rw [if_pos h6] at hf
          refine ev_tableIn 68 (-8) dX3_joined_1 h6 (by decide) (by decide) rfl (by decide) ?_
          refine ev_iload_n dX3_joined_68 1 rfl ?_
          refine ev_iload_n dX3_joined_69 2 rfl ?_
          obtain ⟨v7, hv7, hf⟩ := lt_elim hf
          have hJv7 : Ev l D cy g K yX3_joined cX3_joined 3 (some .int) (rmd 1 0 0) (MX D cy g K (rmd 1 0 0) Φ) 0 0 M x μ 78 [(0, vi step), (1, vi first), (2, vi second)] [vi v7] := by
            obtain rfl := hf
            exact ev_iret dX3_joined_78 rfl ⟨Nat.zero_le _, Nat.zero_le _⟩ hr
          refine ev_icmp_ge 77 dX3_joined_70 (by decide) (fun h8 => ?_) (fun h8 => ?_)
          · refine ev_iconst dX3_joined_77 ?_
            have e9 : v7 = 0 := hv7.trans ((if_neg h8))
            subst e9
            exact hJv7
          · refine ev_iconst dX3_joined_73 ?_
            refine ev_goto 78 dX3_joined_74 (by decide) ?_
            have e9 : v7 = 1 := hv7.trans ((if_pos h8))
            subst e9
            exact hJv7
        · rw [if_neg h6] at hf
          by_cases h9 : w32 step = (-7)
          · rw [if_pos h9] at hf
            refine ev_tableIn 54 (-7) dX3_joined_1 h9 (by decide) (by decide) rfl (by decide) ?_
            refine ev_iload_n dX3_joined_54 1 rfl ?_
            obtain ⟨v10, hv10, hf⟩ := lt_elim hf
            have hJv10 : Ev l D cy g K yX3_joined cX3_joined 3 (some .int) (rmd 1 0 0) (MX D cy g K (rmd 1 0 0) Φ) 0 0 M x μ 67 [(0, vi step), (1, vi first), (2, vi second)] [vi v10] := by
              obtain rfl := hf
              exact ev_iret dX3_joined_67 rfl ⟨Nat.zero_le _, Nat.zero_le _⟩ hr
            refine ev_if_ne 62 dX3_joined_55 (by decide) (fun h11 => ?_) (fun h11 => ?_)
            · refine ev_iconst dX3_joined_62 ?_
              refine ev_goto 67 dX3_joined_63 (by decide) ?_
              have e9 : v10 = 1 := hv10.trans ((if_neg h11))
              subst e9
              exact hJv10
            · refine ev_iload_n dX3_joined_58 2 rfl ?_
              refine ev_if_eq 66 dX3_joined_59 (by decide) (fun h12 => ?_) (fun h12 => ?_)
              · refine ev_iconst dX3_joined_66 ?_
                have e9 : v10 = 0 := hv10.trans (((if_pos h11)).trans (if_pos h12))
                subst e9
                exact hJv10
              · refine ev_iconst dX3_joined_62 ?_
                refine ev_goto 67 dX3_joined_63 (by decide) ?_
                have e9 : v10 = 1 := hv10.trans (((if_pos h11)).trans (if_neg h12))
                subst e9
                exact hJv10
          · rw [if_neg h9] at hf
            by_cases h13 : w32 step = (-6)
            · rw [if_pos h13] at hf
              refine ev_tableIn 40 (-6) dX3_joined_1 h13 (by decide) (by decide) rfl (by decide) ?_
              refine ev_iload_n dX3_joined_40 1 rfl ?_
              obtain ⟨v14, hv14, hf⟩ := lt_elim hf
              have hJv14 : Ev l D cy g K yX3_joined cX3_joined 3 (some .int) (rmd 1 0 0) (MX D cy g K (rmd 1 0 0) Φ) 0 0 M x μ 53 [(0, vi step), (1, vi first), (2, vi second)] [vi v14] := by
                obtain rfl := hf
                exact ev_iret dX3_joined_53 rfl ⟨Nat.zero_le _, Nat.zero_le _⟩ hr
              refine ev_if_eq 52 dX3_joined_41 (by decide) (fun h15 => ?_) (fun h15 => ?_)
              · refine ev_iconst dX3_joined_52 ?_
                have e9 : v14 = 0 := hv14.trans ((if_pos h15))
                subst e9
                exact hJv14
              · refine ev_iload_n dX3_joined_44 2 rfl ?_
                refine ev_if_eq 52 dX3_joined_45 (by decide) (fun h16 => ?_) (fun h16 => ?_)
                · refine ev_iconst dX3_joined_52 ?_
                  have e9 : v14 = 0 := hv14.trans (((if_neg h15)).trans (if_pos h16))
                  subst e9
                  exact hJv14
                · refine ev_iconst dX3_joined_48 ?_
                  refine ev_goto 53 dX3_joined_49 (by decide) ?_
                  have e9 : v14 = 1 := hv14.trans (((if_neg h15)).trans (if_neg h16))
                  subst e9
                  exact hJv14
            · rw [if_neg h13] at hf
              refine ev_tableOut 98 dX3_joined_1 (by omega) (by decide) ?_
              refine ev_iload_n dX3_joined_98 1 rfl ?_
              refine ev_iload_n dX3_joined_99 2 rfl ?_
              refine ev_imulw dX3_joined_100 ?_
              obtain rfl := hf
              exact ev_iret dX3_joined_101 rfl ⟨Nat.zero_le _, Nat.zero_le _⟩ hr
theorem tX3_joined (step : Int) (first : Int) (second : Int) (μ : Mem) {o : Int} (hf : fX3_joined step first second = o) : Cn l D cy g K K yX3_joined cX3_joined 3 (some .int) (rmd 1 0 0) [vi step, vi first, vi second] M x μ (PE (some (vi o)) M x μ) :=
 Cn.of (by decide) (Nat.le_of_ble_eq_true rfl) (eX3_joined step first second μ hf (PE_i _ _ _ _))
def fX3_value_b20 (k : Nat) (take : Int) (left0 : Int) (weight : Int) (brown : Int) (v3 : Int) (μ : Mem) : Option ((Int × Mem) ⊕ (Mem)) :=
  if w32 v3 < w32 (μ k 3) then
    lt (fX11_at (k + 1) v3 μ) fun v5 =>
    if w32 v5 = (-5) then
      lt (fX3_pop k μ) fun q7 =>
      lt (if w32 q7.1 = 0 then
          true
        else
          false) fun v8 =>
      lt (fX3_push k (b2i v8) q7.2) fun μ10 =>
      some (.inl ((v3 + 1), μ10))
    else
      if w32 v5 = (-4) then
        lt (fX3_push k brown μ) fun μ12 =>
        some (.inl ((v3 + 1), μ12))
      else
        if w32 v5 = (-3) then
          lt (fX3_push k weight μ) fun μ14 =>
          some (.inl ((v3 + 1), μ14))
        else
          if w32 v5 = (-2) then
            lt (fX3_push k left0 μ) fun μ16 =>
            some (.inl ((v3 + 1), μ16))
          else
            if w32 v5 = (-1) then
              lt (fX3_push k take μ) fun μ18 =>
              some (.inl ((v3 + 1), μ18))
            else
              if w32 v5 < 0 then
                lt (fX3_pop k μ) fun q20 =>
                lt (fX3_pop k q20.2) fun q21 =>
                lt (fX3_push k (fX3_joined v5 q21.1 q20.1) q21.2) fun μ22 =>
                some (.inl ((v3 + 1), μ22))
              else
                lt (fX3_push k v5 μ) fun μ23 =>
                some (.inl ((v3 + 1), μ23))
  else
    some (.inr μ)
set_option maxRecDepth 4000 in
theorem tX3_value_b20 (hS : Sd M K P L) (hc : CIn P 1 39) (k : Nat) (take : Int) (left0 : Int) (weight : Int) (brown : Int) (v3 : Int) (μ : Mem) (hk : isLw k) {o : (Int × Mem) ⊕ (Mem)} (hf : fX3_value_b20 k take left0 weight brown v3 μ = some o) (hr : (Sum.elim (fun s : Int × Mem => Ev l D cy g K yX3_value cX3_value 8 (some .int) (rmd 3 0 0) (MX D cy g K (rmd 3 0 0) Φ) 0 0 M x (L s.2) 20 [(0, vr g k), (1, vi take), (2, vi left0), (3, vi weight), (4, vi brown), (5, vi s.1)] []) (fun e : Mem => Ev l D cy g K yX3_value cX3_value 8 (some .int) (rmd 3 0 0) (MX D cy g K (rmd 3 0 0) Φ) 0 0 M x (L e) 169 [(0, vr g k)] [])) o) : Ev l D cy g K yX3_value cX3_value 8 (some .int) (rmd 3 0 0) (MX D cy g K (rmd 3 0 0) Φ) 0 0 M x (L μ) 20 [(0, vr g k), (1, vi take), (2, vi left0), (3, vi weight), (4, vi brown), (5, vi v3)] [] := by
  unfold fX3_value_b20 at hf
  refine ev_iload dX3_value_20 5 rfl ?_
  refine ev_aload_n dX3_value_22 0 rfl ?_
  refine ev_getI 3 dX3_value_23 (hS.lt (hc _ (inR_w (i_Lw0 hk) rfl rfl))) (s_Lw0 hk) (hS.mem _ (hc _ (inR_w (i_Lw0 hk) rfl rfl))) ciX3 (by decide) rfl flX3_22 ?_
  refine ev_icmp_ge 169 dX3_value_26 (by decide) (fun h4 => ?_) (fun h4 => ?_)
  · rw [if_neg h4] at hf
    obtain rfl := Option.some.inj hf
    refine ev_sub [0] rfl ?_
    exact hr
  · rw [if_pos h4] at hf
    refine ev_aload_n dX3_value_29 0 rfl ?_
    refine ev_getK 1 dX3_value_30 (hS.lt (hc _ (inR_w (i_Lw0 hk) rfl rfl))) (s_Lw0 hk) (hS.K1 (hc _ (inR_w (i_Lw0 hk) rfl rfl)) (K_Lw1 hk)) ciX3 (by decide) rfl flX3_9 ?_
    refine ev_iload dX3_value_33 5 rfl ?_
    refine cl_N1 (As := [vr g (k + 1), vi v3]) (st := []) (host := "HotCakes") miX11_at (tX11_at hS (hc.w rfl rfl) (k + 1) v3 μ (⟨(hc _ (inR_w (i_Lw1 hk) rfl rfl)), (ia_of (s_Lw1 hk))⟩) (o := (fX11_at (k + 1) v3 μ)) rfl) dX3_value_35 (by decide) stX11_at rfl ⟨⟨Nat.le_of_ble_eq_true rfl, Nat.le_of_ble_eq_true rfl⟩, Nat.zero_le _, Nat.zero_le _⟩ (Nat.le_of_ble_eq_true rfl) ?_
    obtain ⟨v5, hv5, hf⟩ := lt_elim hf
    refine ev_rni hv5 ?_
    refine ev_istore (al2 := [(6, vi v5), (0, vr g k), (1, vi take), (2, vi left0), (3, vi weight), (4, vi brown), (5, vi v3)]) dX3_value_38 (by decide) rfl ?_
    refine ev_iload dX3_value_40 0 rfl ?_
    by_cases h6 : w32 v5 = (-5)
    · rw [if_pos h6] at hf
      refine ev_tableIn 109 (-5) dX3_value_42 h6 (by decide) (by decide) rfl (by decide) ?_
      refine ev_aload_n dX3_value_109 1 rfl ?_
      refine ev_aload_n dX3_value_110 1 rfl ?_
      obtain ⟨q7, hq7, hf⟩ := lt_elim hf
      refine cl_V1 (As := []) (st := [vr g k]) miX3_pop (tX3_pop hS (hc.w rfl rfl) k μ hk hq7.symm) dX3_value_111 lkX3_44 inX3_pop rfl (hS.lt (hc _ (inR_w (i_Lw0 hk) rfl rfl))) (s_Lw0 hk) ⟨rfl, rfl⟩ ⟨⟨Nat.le_of_ble_eq_true rfl, Nat.le_of_ble_eq_true rfl⟩, Nat.zero_le _, Nat.zero_le _⟩ (Nat.le_of_ble_eq_true rfl) ?_
      obtain ⟨v8, hv8, hf⟩ := lt_elim hf
      have hJv8 : Ev l D cy g K yX3_value cX3_value 8 (some .int) (rmd 3 0 0) (MX D cy g K (rmd 3 0 0) Φ) 0 0 M x (L q7.2) 122 [(6, vi v5), (0, vr g k), (1, vi take), (2, vi left0), (3, vi weight), (4, vi brown), (5, vi v3)] [vb v8, vr g k] := by
        obtain ⟨μ10, hμ10, hf⟩ := lt_elim hf
        refine cl_V0 (As := [vb v8]) (st := []) miX3_push (tX3_push hS (hc.w rfl rfl) k (b2i v8) q7.2 hk hμ10.symm) dX3_value_122 lkX3_40 inX3_push rfl (hS.lt (hc _ (inR_w (i_Lw0 hk) rfl rfl))) (s_Lw0 hk) ⟨rfl, rfl⟩ ⟨⟨Nat.le_of_ble_eq_true rfl, Nat.le_of_ble_eq_true rfl⟩, Nat.zero_le _, Nat.zero_le _⟩ (Nat.le_of_ble_eq_true rfl) ?_
        refine ev_goto 163 dX3_value_125 (by decide) ?_
        refine ev_iinc (al2 := [(5, vi (v3 + 1)), (6, vi v5), (0, vr g k), (1, vi take), (2, vi left0), (3, vi weight), (4, vi brown)]) dX3_value_163 6 rfl (by decide) rfl ?_
        refine ev_goto 20 dX3_value_166 (by decide) ?_
        obtain rfl := Option.some.inj hf
        refine ev_sub [2, 3, 4, 5, 6, 0] rfl ?_
        exact hr
      refine ev_if_ne 121 dX3_value_114 (by decide) (fun h9 => ?_) (fun h9 => ?_)
      · refine ev_iconst dX3_value_121 ?_
        have e9 : v8 = false := hv8.trans ((if_neg h9))
        subst e9
        exact hJv8
      · refine ev_iconst dX3_value_117 ?_
        refine ev_goto 122 dX3_value_118 (by decide) ?_
        have e9 : v8 = true := hv8.trans ((if_pos h9))
        subst e9
        exact hJv8
    · rw [if_neg h6] at hf
      by_cases h11 : w32 v5 = (-4)
      · rw [if_pos h11] at hf
        refine ev_tableIn 100 (-4) dX3_value_42 h11 (by decide) (by decide) rfl (by decide) ?_
        refine ev_aload_n dX3_value_100 1 rfl ?_
        refine ev_iload dX3_value_101 5 rfl ?_
        obtain ⟨μ12, hμ12, hf⟩ := lt_elim hf
        refine cl_V0 (As := [vi brown]) (st := []) miX3_push (tX3_push hS (hc.w rfl rfl) k brown μ hk hμ12.symm) dX3_value_103 lkX3_40 inX3_push rfl (hS.lt (hc _ (inR_w (i_Lw0 hk) rfl rfl))) (s_Lw0 hk) ⟨rfl, rfl⟩ ⟨⟨Nat.le_of_ble_eq_true rfl, Nat.le_of_ble_eq_true rfl⟩, Nat.zero_le _, Nat.zero_le _⟩ (Nat.le_of_ble_eq_true rfl) ?_
        refine ev_goto 163 dX3_value_106 (by decide) ?_
        refine ev_iinc (al2 := [(5, vi (v3 + 1)), (6, vi v5), (0, vr g k), (1, vi take), (2, vi left0), (3, vi weight), (4, vi brown)]) dX3_value_163 6 rfl (by decide) rfl ?_
        refine ev_goto 20 dX3_value_166 (by decide) ?_
        obtain rfl := Option.some.inj hf
        refine ev_sub [2, 3, 4, 5, 6, 0] rfl ?_
        exact hr
      · rw [if_neg h11] at hf
        by_cases h13 : w32 v5 = (-3)
        · rw [if_pos h13] at hf
          refine ev_tableIn 92 (-3) dX3_value_42 h13 (by decide) (by decide) rfl (by decide) ?_
          refine ev_aload_n dX3_value_92 1 rfl ?_
          refine ev_iload_n dX3_value_93 4 rfl ?_
          obtain ⟨μ14, hμ14, hf⟩ := lt_elim hf
          refine cl_V0 (As := [vi weight]) (st := []) miX3_push (tX3_push hS (hc.w rfl rfl) k weight μ hk hμ14.symm) dX3_value_94 lkX3_40 inX3_push rfl (hS.lt (hc _ (inR_w (i_Lw0 hk) rfl rfl))) (s_Lw0 hk) ⟨rfl, rfl⟩ ⟨⟨Nat.le_of_ble_eq_true rfl, Nat.le_of_ble_eq_true rfl⟩, Nat.zero_le _, Nat.zero_le _⟩ (Nat.le_of_ble_eq_true rfl) ?_
          refine ev_goto 163 dX3_value_97 (by decide) ?_
          refine ev_iinc (al2 := [(5, vi (v3 + 1)), (6, vi v5), (0, vr g k), (1, vi take), (2, vi left0), (3, vi weight), (4, vi brown)]) dX3_value_163 6 rfl (by decide) rfl ?_
          refine ev_goto 20 dX3_value_166 (by decide) ?_
          obtain rfl := Option.some.inj hf
          refine ev_sub [2, 3, 4, 5, 6, 0] rfl ?_
          exact hr
        · rw [if_neg h13] at hf
          by_cases h15 : w32 v5 = (-2)
          · rw [if_pos h15] at hf
            refine ev_tableIn 84 (-2) dX3_value_42 h15 (by decide) (by decide) rfl (by decide) ?_
            refine ev_aload_n dX3_value_84 1 rfl ?_
            refine ev_iload_n dX3_value_85 3 rfl ?_
            obtain ⟨μ16, hμ16, hf⟩ := lt_elim hf
            refine cl_V0 (As := [vi left0]) (st := []) miX3_push (tX3_push hS (hc.w rfl rfl) k left0 μ hk hμ16.symm) dX3_value_86 lkX3_40 inX3_push rfl (hS.lt (hc _ (inR_w (i_Lw0 hk) rfl rfl))) (s_Lw0 hk) ⟨rfl, rfl⟩ ⟨⟨Nat.le_of_ble_eq_true rfl, Nat.le_of_ble_eq_true rfl⟩, Nat.zero_le _, Nat.zero_le _⟩ (Nat.le_of_ble_eq_true rfl) ?_
            refine ev_goto 163 dX3_value_89 (by decide) ?_
            refine ev_iinc (al2 := [(5, vi (v3 + 1)), (6, vi v5), (0, vr g k), (1, vi take), (2, vi left0), (3, vi weight), (4, vi brown)]) dX3_value_163 6 rfl (by decide) rfl ?_
            refine ev_goto 20 dX3_value_166 (by decide) ?_
            obtain rfl := Option.some.inj hf
            refine ev_sub [2, 3, 4, 5, 6, 0] rfl ?_
            exact hr
          · rw [if_neg h15] at hf
            by_cases h17 : w32 v5 = (-1)
            · rw [if_pos h17] at hf
              refine ev_tableIn 76 (-1) dX3_value_42 h17 (by decide) (by decide) rfl (by decide) ?_
              refine ev_aload_n dX3_value_76 1 rfl ?_
              refine ev_iload_n dX3_value_77 2 rfl ?_
              obtain ⟨μ18, hμ18, hf⟩ := lt_elim hf
              refine cl_V0 (As := [vi take]) (st := []) miX3_push (tX3_push hS (hc.w rfl rfl) k take μ hk hμ18.symm) dX3_value_78 lkX3_40 inX3_push rfl (hS.lt (hc _ (inR_w (i_Lw0 hk) rfl rfl))) (s_Lw0 hk) ⟨rfl, rfl⟩ ⟨⟨Nat.le_of_ble_eq_true rfl, Nat.le_of_ble_eq_true rfl⟩, Nat.zero_le _, Nat.zero_le _⟩ (Nat.le_of_ble_eq_true rfl) ?_
              refine ev_goto 163 dX3_value_81 (by decide) ?_
              refine ev_iinc (al2 := [(5, vi (v3 + 1)), (6, vi v5), (0, vr g k), (1, vi take), (2, vi left0), (3, vi weight), (4, vi brown)]) dX3_value_163 6 rfl (by decide) rfl ?_
              refine ev_goto 20 dX3_value_166 (by decide) ?_
              obtain rfl := Option.some.inj hf
              refine ev_sub [2, 3, 4, 5, 6, 0] rfl ?_
              exact hr
            · rw [if_neg h17] at hf
              refine ev_tableOut 128 dX3_value_42 (by omega) (by decide) ?_
              refine ev_iload dX3_value_128 0 rfl ?_
              refine ev_if_lt 142 dX3_value_130 (by decide) (fun h19 => ?_) (fun h19 => ?_)
              · rw [if_pos h19] at hf
                refine ev_aload_n dX3_value_142 1 rfl ?_
                obtain ⟨q20, hq20, hf⟩ := lt_elim hf
                refine cl_V1 (As := []) (st := []) miX3_pop (tX3_pop hS (hc.w rfl rfl) k μ hk hq20.symm) dX3_value_143 lkX3_44 inX3_pop rfl (hS.lt (hc _ (inR_w (i_Lw0 hk) rfl rfl))) (s_Lw0 hk) ⟨rfl, rfl⟩ ⟨⟨Nat.le_of_ble_eq_true rfl, Nat.le_of_ble_eq_true rfl⟩, Nat.zero_le _, Nat.zero_le _⟩ (Nat.le_of_ble_eq_true rfl) ?_
                refine ev_istore (al2 := [(7, vi q20.1), (6, vi v5), (0, vr g k), (1, vi take), (2, vi left0), (3, vi weight), (4, vi brown), (5, vi v3)]) dX3_value_146 (by decide) rfl ?_
                refine ev_aload_n dX3_value_148 2 rfl ?_
                refine ev_iload dX3_value_149 1 rfl ?_
                refine ev_aload_n dX3_value_151 2 rfl ?_
                obtain ⟨q21, hq21, hf⟩ := lt_elim hf
                refine cl_V1 (As := []) (st := [vi v5, vr g k]) miX3_pop (tX3_pop hS (hc.w rfl rfl) k q20.2 hk hq21.symm) dX3_value_152 lkX3_44 inX3_pop rfl (hS.lt (hc _ (inR_w (i_Lw0 hk) rfl rfl))) (s_Lw0 hk) ⟨rfl, rfl⟩ ⟨⟨Nat.le_of_ble_eq_true rfl, Nat.le_of_ble_eq_true rfl⟩, Nat.zero_le _, Nat.zero_le _⟩ (Nat.le_of_ble_eq_true rfl) ?_
                refine ev_iload dX3_value_155 0 rfl ?_
                refine cl_S1 (As := [vi v5, vi q21.1, vi q20.1]) (st := [vr g k]) miX3_joined (tX3_joined v5 q21.1 q20.1 (L q21.2) (o := (fX3_joined v5 q21.1 q20.1)) rfl) dX3_value_157 lkX3_48 stX3_joined rfl ⟨⟨Nat.le_of_ble_eq_true rfl, Nat.le_of_ble_eq_true rfl⟩, Nat.zero_le _, Nat.zero_le _⟩ (Nat.le_of_ble_eq_true rfl) ?_
                obtain ⟨μ22, hμ22, hf⟩ := lt_elim hf
                refine cl_V0 (As := [vi (fX3_joined v5 q21.1 q20.1)]) (st := []) miX3_push (tX3_push hS (hc.w rfl rfl) k (fX3_joined v5 q21.1 q20.1) q21.2 hk hμ22.symm) dX3_value_160 lkX3_40 inX3_push rfl (hS.lt (hc _ (inR_w (i_Lw0 hk) rfl rfl))) (s_Lw0 hk) ⟨rfl, rfl⟩ ⟨⟨Nat.le_of_ble_eq_true rfl, Nat.le_of_ble_eq_true rfl⟩, Nat.zero_le _, Nat.zero_le _⟩ (Nat.le_of_ble_eq_true rfl) ?_
                refine ev_iinc (al2 := [(5, vi (v3 + 1)), (7, vi q20.1), (6, vi v5), (0, vr g k), (1, vi take), (2, vi left0), (3, vi weight), (4, vi brown)]) dX3_value_163 7 rfl (by decide) rfl ?_
                refine ev_goto 20 dX3_value_166 (by decide) ?_
                obtain rfl := Option.some.inj hf
                refine ev_sub [3, 4, 5, 6, 7, 0] rfl ?_
                exact hr
              · rw [if_neg h19] at hf
                refine ev_aload_n dX3_value_133 1 rfl ?_
                refine ev_iload dX3_value_134 0 rfl ?_
                obtain ⟨μ23, hμ23, hf⟩ := lt_elim hf
                refine cl_V0 (As := [vi v5]) (st := []) miX3_push (tX3_push hS (hc.w rfl rfl) k v5 μ hk hμ23.symm) dX3_value_136 lkX3_40 inX3_push rfl (hS.lt (hc _ (inR_w (i_Lw0 hk) rfl rfl))) (s_Lw0 hk) ⟨rfl, rfl⟩ ⟨⟨Nat.le_of_ble_eq_true rfl, Nat.le_of_ble_eq_true rfl⟩, Nat.zero_le _, Nat.zero_le _⟩ (Nat.le_of_ble_eq_true rfl) ?_
                refine ev_goto 163 dX3_value_139 (by decide) ?_
                refine ev_iinc (al2 := [(5, vi (v3 + 1)), (6, vi v5), (0, vr g k), (1, vi take), (2, vi left0), (3, vi weight), (4, vi brown)]) dX3_value_163 6 rfl (by decide) rfl ?_
                refine ev_goto 20 dX3_value_166 (by decide) ?_
                obtain rfl := Option.some.inj hf
                refine ev_sub [2, 3, 4, 5, 6, 0] rfl ?_
                exact hr
def fX3_value (k : Nat) (take : Int) (left0 : Int) (weight : Int) (brown : Int) (μ : Mem) : Option (Int × Mem) :=
  if ((μ k 5) != 0) = true then
    lt (upd2 μ k 4 0) fun μ2 =>
    (loopN (fun s => fX3_value_b20 k take left0 weight brown s.1 s.2) FU (0, μ2)).bind fun q24 =>
    lt (fX3_pop k q24) fun q25 =>
    some ((q25.1, q25.2))
  else
    some (((μ k 0), μ))
set_option maxRecDepth 4000 in
theorem eX3_value (hS : Sd M K P L) (hc : CIn P 1 39) (k : Nat) (take : Int) (left0 : Int) (weight : Int) (brown : Int) (μ : Mem) (hk : isLw k) {o : Int × Mem} (hf : fX3_value k take left0 weight brown μ = some o) (hr : (fun o : Int × Mem => Φ (some (vi o.1)) M x (L o.2)) o) : Ev l D cy g K yX3_value cX3_value 8 (some .int) (rmd 3 0 0) (MX D cy g K (rmd 3 0 0) Φ) 0 0 M x (L μ) 0 [(0, vr g k), (1, vi take), (2, vi left0), (3, vi weight), (4, vi brown)] [] := by
  unfold fX3_value at hf
  refine ev_aload_n dX3_value_0 0 rfl ?_
  refine ev_getZ 5 dX3_value_1 (hS.lt (hc _ (inR_w (i_Lw0 hk) rfl rfl))) (s_Lw0 hk) (hS.mem _ (hc _ (inR_w (i_Lw0 hk) rfl rfl))) ciX3 (by decide) rfl flX3_25 ?_
  refine ev_ifb_ne 12 dX3_value_4 (by decide) (fun h1 => ?_) (fun h1 => ?_)
  · rw [if_pos h1] at hf
    refine ev_aload_n dX3_value_12 0 rfl ?_
    refine ev_iconst dX3_value_13 ?_
    obtain ⟨μ2, hμ2, hf⟩ := lt_elim hf
    refine ev_putI 4 dX3_value_14 (hS.lt (hc _ (inR_w (i_Lw0 hk) rfl rfl))) (s_Lw0 hk) ciX3 (by decide) (Or.inl rfl) rfl rfl flX3_33 (hS.up (hc _ (inR_w (i_Lw0 hk) rfl rfl)) hμ2) ?_
    refine ev_iconst dX3_value_17 ?_
    refine ev_istore (al2 := [(5, vi 0), (0, vr g k), (1, vi take), (2, vi left0), (3, vi weight), (4, vi brown)]) dX3_value_18 (by decide) rfl ?_
    obtain ⟨q24, hq24, hf⟩ := Option.bind_eq_some_iff.mp hf
    refine ev_sub [1, 2, 3, 4, 5, 0] rfl ?_
    refine loop_ev (H := (fun s : Int × Mem => Ev l D cy g K yX3_value cX3_value 8 (some .int) (rmd 3 0 0) (MX D cy g K (rmd 3 0 0) Φ) 0 0 M x (L s.2) 20 [(0, vr g k), (1, vi take), (2, vi left0), (3, vi weight), (4, vi brown), (5, vi s.1)] [])) (Hx := (fun e : Mem => Ev l D cy g K yX3_value cX3_value 8 (some .int) (rmd 3 0 0) (MX D cy g K (rmd 3 0 0) Φ) 0 0 M x (L e) 169 [(0, vr g k)] [])) (fun s o hb hr => tX3_value_b20 hS hc k take left0 weight brown s.1 s.2 hk hb hr) FU _ _ hq24 ?_
    show Ev l D cy g K yX3_value cX3_value 8 (some .int) (rmd 3 0 0) (MX D cy g K (rmd 3 0 0) Φ) 0 0 M x (L q24) 169 [(0, vr g k)] []
    refine ev_aload_n dX3_value_169 0 rfl ?_
    obtain ⟨q25, hq25, hf⟩ := lt_elim hf
    refine cl_V1 (As := []) (st := []) miX3_pop (tX3_pop hS (hc.w rfl rfl) k q24 hk hq25.symm) dX3_value_170 lkX3_44 inX3_pop rfl (hS.lt (hc _ (inR_w (i_Lw0 hk) rfl rfl))) (s_Lw0 hk) ⟨rfl, rfl⟩ ⟨⟨Nat.le_of_ble_eq_true rfl, Nat.le_of_ble_eq_true rfl⟩, Nat.zero_le _, Nat.zero_le _⟩ (Nat.le_of_ble_eq_true rfl) ?_
    obtain rfl := Option.some.inj hf
    exact ev_iret dX3_value_173 rfl ⟨Nat.zero_le _, Nat.zero_le _⟩ hr
  · rw [if_neg h1] at hf
    refine ev_aload_n dX3_value_7 0 rfl ?_
    refine ev_getI 0 dX3_value_8 (hS.lt (hc _ (inR_w (i_Lw0 hk) rfl rfl))) (s_Lw0 hk) (hS.mem _ (hc _ (inR_w (i_Lw0 hk) rfl rfl))) ciX3 (by decide) rfl flX3_18 ?_
    obtain rfl := Option.some.inj hf
    exact ev_iret dX3_value_11 rfl ⟨Nat.zero_le _, Nat.zero_le _⟩ hr
theorem tX3_value (hS : Sd M K P L) (hc : CIn P 1 39) (k : Nat) (take : Int) (left0 : Int) (weight : Int) (brown : Int) (μ : Mem) (hk : isLw k) {o : Int × Mem} (hf : fX3_value k take left0 weight brown μ = some o) : Cn l D cy g K K yX3_value cX3_value 8 (some .int) (rmd 3 0 0) [vr g k, vi take, vi left0, vi weight, vi brown] M x (L μ) (PE (some (vi o.1)) M x (L o.2)) :=
 Cn.of (by decide) (Nat.le_of_ble_eq_true rfl) (eX3_value hS hc k take left0 weight brown μ hk hf (PE_i _ _ _ _))
def fX2_bars (k : Nat) (μ : Mem) : Unit :=
  ()
set_option maxRecDepth 4000 in
theorem eX2_bars (hS : Sd M K P L) (hc : CIn P 1 39) (k : Nat) (μ : Mem) (hk : isGr k) {o : Unit} (hf : fX2_bars k μ = o) (hr : (fun o : Unit => Φ (some (vr g (k + 4))) M x (L μ)) o) : Ev l D cy g K yX2_bars cX2_bars 1 (some (.object "HotCakes$Law")) (rmd 1 0 0) (MX D cy g K (rmd 1 0 0) Φ) 0 0 M x (L μ) 0 [(0, vr g k)] [] := by
  unfold fX2_bars at hf
  refine ev_aload_n dX2_bars_0 0 rfl ?_
  refine ev_getK 5 dX2_bars_1 (hS.lt (hc _ (inR_w (i_Gr0 hk) rfl rfl))) (s_Gr0 hk) (hS.K1 (hc _ (inR_w (i_Gr0 hk) rfl rfl)) (K_Gr5 hk)) ciX2 (by decide) rfl flX2_27 ?_
  obtain rfl := hf
  exact ev_aret dX2_bars_4 rfl (by first | exact Or.inl ⟨_, rfl⟩ | exact Or.inr ⟨_, rfl⟩) ⟨Nat.zero_le _, Nat.zero_le _⟩ hr
theorem tX2_bars (hS : Sd M K P L) (hc : CIn P 1 39) (k : Nat) (μ : Mem) (hk : isGr k) {o : Unit} (hf : fX2_bars k μ = o) : Cn l D cy g K K yX2_bars cX2_bars 1 (some (.object "HotCakes$Law")) (rmd 1 0 0) [vr g k] M x (L μ) (PE (some (vr g (k + 4))) M x (L μ)) :=
 Cn.of (by decide) (Nat.le_of_ble_eq_true rfl) (eX2_bars hS hc k μ hk hf (PE_i _ _ _ _))
def fX7_learnLaws_b10 (set0 : Int) (v1 : Int) (v2 : Int) (v3 : Int) (μ : Mem) : Option ((Int × Int × Mem) ⊕ (Int × Mem)) :=
  if w32 v3 < w32 (μ 25 1) then
    if w32 (i_and (i_shr set0 v3) 1) = w32 1 then
      gd (((μ 25 0) = 5 ∨ (μ 25 0) = 15)) <|
      lt (μ 25 0).toNat fun r8 =>
      lt (v2 + (fX2_weightOf r8 v3 μ)) fun v9 =>
      some (.inl (v9, (v3 + 1), μ))
    else
      lt (v2 + 0) fun v6 =>
      some (.inl (v6, (v3 + 1), μ))
  else
    some (.inr (v2, μ))
set_option maxRecDepth 4000 in
theorem tX7_learnLaws_b10 (hS : Sd M K P L) (hc : CIn P 1 39) (set0 : Int) (v1 : Int) (v2 : Int) (v3 : Int) (μ : Mem)  {o : (Int × Int × Mem) ⊕ (Int × Mem)} (hf : fX7_learnLaws_b10 set0 v1 v2 v3 μ = some o) (hr : (Sum.elim (fun s : Int × Int × Mem => Ev l D cy g K yX7_learnLaws cX7_learnLaws 7 none (rmd 4 0 0) (MX D cy g K (rmd 4 0 0) Φ) 0 0 M x (L s.2.2) 10 [(0, vr g 25), (1, vi set0), (2, vi v1), (3, vi s.1), (4, vi s.2.1)] []) (fun e : Int × Mem => Ev l D cy g K yX7_learnLaws cX7_learnLaws 7 none (rmd 4 0 0) (MX D cy g K (rmd 4 0 0) Φ) 0 0 M x (L e.2) 51 [(0, vr g 25), (1, vi set0), (2, vi v1), (3, vi e.1)] [])) o) : Ev l D cy g K yX7_learnLaws cX7_learnLaws 7 none (rmd 4 0 0) (MX D cy g K (rmd 4 0 0) Φ) 0 0 M x (L μ) 10 [(0, vr g 25), (1, vi set0), (2, vi v1), (3, vi v2), (4, vi v3)] [] := by
  unfold fX7_learnLaws_b10 at hf
  refine ev_iload dX7_learnLaws_10 4 rfl ?_
  refine ev_aload_n dX7_learnLaws_12 0 rfl ?_
  refine ev_getI 1 dX7_learnLaws_13 (hS.lt (hc 25 rfl)) rfl (hS.mem _ (hc 25 rfl)) ciX7 (by decide) rfl flX7_65 ?_
  refine ev_icmp_ge 51 dX7_learnLaws_16 (by decide) (fun h4 => ?_) (fun h4 => ?_)
  · rw [if_neg h4] at hf
    obtain rfl := Option.some.inj hf
    refine ev_sub [0, 1, 2, 3] rfl ?_
    exact hr
  · rw [if_pos h4] at hf
    refine ev_iload_n dX7_learnLaws_19 3 rfl ?_
    refine ev_iload_n dX7_learnLaws_20 1 rfl ?_
    refine ev_iload dX7_learnLaws_21 4 rfl ?_
    refine ev_ishr dX7_learnLaws_23 ?_
    refine ev_iconst dX7_learnLaws_24 ?_
    refine ev_iand dX7_learnLaws_25 ?_
    refine ev_iconst dX7_learnLaws_26 ?_
    refine ev_icmp_ne 42 dX7_learnLaws_27 (by decide) (fun h5 => ?_) (fun h5 => ?_)
    · rw [if_neg h5] at hf
      refine ev_iconst dX7_learnLaws_42 ?_
      refine ev_iadd dX7_learnLaws_43 ?_
      obtain ⟨v6, hv6, hf⟩ := lt_elim hf
      refine ev_rni hv6 ?_
      refine ev_istore_n (al2 := [(3, vi v6), (0, vr g 25), (1, vi set0), (2, vi v1), (4, vi v3)]) dX7_learnLaws_44 3 rfl (by decide) rfl ?_
      refine ev_iinc (al2 := [(4, vi (v3 + 1)), (3, vi v6), (0, vr g 25), (1, vi set0), (2, vi v1)]) dX7_learnLaws_45 4 rfl (by decide) rfl ?_
      refine ev_goto 10 dX7_learnLaws_48 (by decide) ?_
      obtain rfl := Option.some.inj hf
      refine ev_sub [2, 3, 4, 1, 0] rfl ?_
      exact hr
    · rw [if_pos h5] at hf
      refine ev_aload_n dX7_learnLaws_30 0 rfl ?_
      obtain ⟨g7, hf⟩ := gd_elim hf
      refine ev_getR 0 dX7_learnLaws_31 (hS.lt (hc 25 rfl)) rfl (hS.mem _ (hc 25 rfl)) (hS.K0 (hc 25 rfl) rfl) (dy_Gr g7).2 ciX7 (by decide) rfl flX7_55 ?_
      obtain ⟨r8, hr8, hf⟩ := lt_elim hf
      refine ev_rn (congrArg (vr g) hr8) ?_
      have kr8 : isGr r8 := by rw [hr8]; exact (dy_Gr g7).1
      refine ev_iload dX7_learnLaws_34 4 rfl ?_
      refine cl_V1 (As := [vi v3]) (st := [vi v2]) miX2_weightOf (tX2_weightOf hS (hc.w rfl rfl) r8 v3 μ kr8 (o := (fX2_weightOf r8 v3 μ)) rfl) dX7_learnLaws_36 lkX7_127 inX2_weightOf rfl (hS.lt (hc _ (inR_w (i_Gr0 kr8) rfl rfl))) (s_Gr0 kr8) ⟨rfl, rfl⟩ ⟨⟨Nat.le_of_ble_eq_true rfl, Nat.le_of_ble_eq_true rfl⟩, Nat.zero_le _, Nat.zero_le _⟩ (Nat.le_of_ble_eq_true rfl) ?_
      refine ev_goto 43 dX7_learnLaws_39 (by decide) ?_
      refine ev_iadd dX7_learnLaws_43 ?_
      obtain ⟨v9, hv9, hf⟩ := lt_elim hf
      refine ev_rni hv9 ?_
      refine ev_istore_n (al2 := [(3, vi v9), (0, vr g 25), (1, vi set0), (2, vi v1), (4, vi v3)]) dX7_learnLaws_44 3 rfl (by decide) rfl ?_
      refine ev_iinc (al2 := [(4, vi (v3 + 1)), (3, vi v9), (0, vr g 25), (1, vi set0), (2, vi v1)]) dX7_learnLaws_45 4 rfl (by decide) rfl ?_
      refine ev_goto 10 dX7_learnLaws_48 (by decide) ?_
      obtain rfl := Option.some.inj hf
      refine ev_sub [2, 3, 4, 1, 0] rfl ?_
      exact hr
def fX7_learnLaws_b54 (set0 : Int) (v1 : Int) (c11 : Int) (v12 : Int) (μ : Mem) : Option ((Int × Mem) ⊕ (Mem)) :=
  if w32 v12 ≤ w32 v1 then
    lt ((set0 * 6) + v12) fun v14 =>
    gd (((μ 25 0) = 5 ∨ (μ 25 0) = 15)) <|
    lt (μ 25 0).toNat fun r16 =>
    (fX3_value (r16 + 7) v1 ((μ 25 1) - v1) c11 v12 μ).bind fun q17 =>
    gd (((q17.2 25 0) = 5 ∨ (q17.2 25 0) = 15)) <|
    lt (q17.2 25 0).toNat fun r19 =>
    (fX3_value (r19 + 4) v1 ((q17.2 25 1) - v1) c11 v12 q17.2).bind fun q20 =>
    lt (if w32 q20.1 = 0 then
        false
      else
        true) fun v21 =>
    lt (fX11_put 33 v14 (b2i v21) q20.2) fun μ23 =>
    lt (fX11_put 34 v14 (imax 1 (imin 9 q17.1)) μ23) fun μ24 =>
    some (.inl ((v12 + 1), μ24))
  else
    some (.inr μ)
set_option maxRecDepth 4000 in
theorem tX7_learnLaws_b54 (hS : Sd M K P L) (hc : CIn P 1 39) (set0 : Int) (v1 : Int) (c11 : Int) (v12 : Int) (μ : Mem)  {o : (Int × Mem) ⊕ (Mem)} (hf : fX7_learnLaws_b54 set0 v1 c11 v12 μ = some o) (hr : (Sum.elim (fun s : Int × Mem => Ev l D cy g K yX7_learnLaws cX7_learnLaws 7 none (rmd 4 0 0) (MX D cy g K (rmd 4 0 0) Φ) 0 0 M x (L s.2) 54 [(0, vr g 25), (1, vi set0), (2, vi v1), (3, vi c11), (4, vi s.1)] []) (fun e : Mem => Ev l D cy g K yX7_learnLaws cX7_learnLaws 7 none (rmd 4 0 0) (MX D cy g K (rmd 4 0 0) Φ) 0 0 M x (L e) 154 [] [])) o) : Ev l D cy g K yX7_learnLaws cX7_learnLaws 7 none (rmd 4 0 0) (MX D cy g K (rmd 4 0 0) Φ) 0 0 M x (L μ) 54 [(0, vr g 25), (1, vi set0), (2, vi v1), (3, vi c11), (4, vi v12)] [] := by
  unfold fX7_learnLaws_b54 at hf
  refine ev_iload dX7_learnLaws_54 4 rfl ?_
  refine ev_iload_n dX7_learnLaws_56 2 rfl ?_
  refine ev_icmp_gt 154 dX7_learnLaws_57 (by decide) (fun h13 => ?_) (fun h13 => ?_)
  · rw [if_neg h13] at hf
    obtain rfl := Option.some.inj hf
    refine ev_sub [] rfl ?_
    exact hr
  · rw [if_pos h13] at hf
    refine ev_iload_n dX7_learnLaws_60 1 rfl ?_
    refine ev_bipush dX7_learnLaws_61 (by decide) ?_
    refine ev_imul dX7_learnLaws_63 ?_
    refine ev_iload dX7_learnLaws_64 4 rfl ?_
    refine ev_iadd dX7_learnLaws_66 ?_
    obtain ⟨v14, hv14, hf⟩ := lt_elim hf
    refine ev_rni hv14 ?_
    refine ev_istore (al2 := [(5, vi v14), (0, vr g 25), (1, vi set0), (2, vi v1), (3, vi c11), (4, vi v12)]) dX7_learnLaws_67 (by decide) rfl ?_
    refine ev_aload_n dX7_learnLaws_69 1 rfl ?_
    obtain ⟨g15, hf⟩ := gd_elim hf
    refine ev_getR 0 dX7_learnLaws_70 (hS.lt (hc 25 rfl)) rfl (hS.mem _ (hc 25 rfl)) (hS.K0 (hc 25 rfl) rfl) (dy_Gr g15).2 ciX7 (by decide) rfl flX7_55 ?_
    obtain ⟨r16, hr16, hf⟩ := lt_elim hf
    refine ev_rn (congrArg (vr g) hr16) ?_
    have kr16 : isGr r16 := by rw [hr16]; exact (dy_Gr g15).1
    refine cl_V1 (As := []) (st := []) miX2_costs (tX2_costs hS (hc.w rfl rfl) r16 μ kr16 rfl) dX7_learnLaws_73 lkX7_130 inX2_costs rfl (hS.lt (hc _ (inR_w (i_Gr0 kr16) rfl rfl))) (s_Gr0 kr16) ⟨rfl, rfl⟩ ⟨⟨Nat.le_of_ble_eq_true rfl, Nat.le_of_ble_eq_true rfl⟩, Nat.zero_le _, Nat.zero_le _⟩ (Nat.le_of_ble_eq_true rfl) ?_
    refine ev_iload_n dX7_learnLaws_76 3 rfl ?_
    refine ev_aload_n dX7_learnLaws_77 1 rfl ?_
    refine ev_getI 1 dX7_learnLaws_78 (hS.lt (hc 25 rfl)) rfl (hS.mem _ (hc 25 rfl)) ciX7 (by decide) rfl flX7_65 ?_
    refine ev_iload_n dX7_learnLaws_81 3 rfl ?_
    refine ev_isub dX7_learnLaws_82 ?_
    refine ev_iload_n dX7_learnLaws_83 4 rfl ?_
    refine ev_iload dX7_learnLaws_84 5 rfl ?_
    obtain ⟨q17, hq17, hf⟩ := Option.bind_eq_some_iff.mp hf
    refine cl_V1 (As := [vi v1, vi ((μ 25 1) - v1), vi c11, vi v12]) (st := []) miX3_value (tX3_value hS (hc.w rfl rfl) (r16 + 7) v1 ((μ 25 1) - v1) c11 v12 μ (lw_Gr7 kr16) hq17) dX7_learnLaws_86 lkX7_134 inX3_value rfl (hS.lt (hc _ (inR_w (i_Lw0 (lw_Gr7 kr16)) rfl rfl))) (s_Lw0 (lw_Gr7 kr16)) ⟨rfl, rfl⟩ ⟨⟨Nat.le_of_ble_eq_true rfl, Nat.le_of_ble_eq_true rfl⟩, Nat.zero_le _, Nat.zero_le _⟩ (Nat.le_of_ble_eq_true rfl) ?_
    refine ev_istore (al2 := [(6, vi q17.1), (5, vi v14), (0, vr g 25), (1, vi set0), (2, vi v1), (3, vi c11), (4, vi v12)]) dX7_learnLaws_89 (by decide) rfl ?_
    refine ev_aload_n dX7_learnLaws_91 2 rfl ?_
    refine ev_getK 12 dX7_learnLaws_92 (hS.lt (hc 25 rfl)) rfl (hS.K1 (hc 25 rfl) rfl) ciX7 (by decide) rfl flX7_33 ?_
    refine ev_iload dX7_learnLaws_95 1 rfl ?_
    refine ev_aload_n dX7_learnLaws_97 2 rfl ?_
    obtain ⟨g18, hf⟩ := gd_elim hf
    refine ev_getR 0 dX7_learnLaws_98 (hS.lt (hc 25 rfl)) rfl (hS.mem _ (hc 25 rfl)) (hS.K0 (hc 25 rfl) rfl) (dy_Gr g18).2 ciX7 (by decide) rfl flX7_55 ?_
    obtain ⟨r19, hr19, hf⟩ := lt_elim hf
    refine ev_rn (congrArg (vr g) hr19) ?_
    have kr19 : isGr r19 := by rw [hr19]; exact (dy_Gr g18).1
    refine cl_V1 (As := []) (st := [vi v14, vr g 33]) miX2_bars (tX2_bars hS (hc.w rfl rfl) r19 q17.2 kr19 rfl) dX7_learnLaws_101 lkX7_140 inX2_bars rfl (hS.lt (hc _ (inR_w (i_Gr0 kr19) rfl rfl))) (s_Gr0 kr19) ⟨rfl, rfl⟩ ⟨⟨Nat.le_of_ble_eq_true rfl, Nat.le_of_ble_eq_true rfl⟩, Nat.zero_le _, Nat.zero_le _⟩ (Nat.le_of_ble_eq_true rfl) ?_
    refine ev_iload_n dX7_learnLaws_104 4 rfl ?_
    refine ev_aload_n dX7_learnLaws_105 2 rfl ?_
    refine ev_getI 1 dX7_learnLaws_106 (hS.lt (hc 25 rfl)) rfl (hS.mem _ (hc 25 rfl)) ciX7 (by decide) rfl flX7_65 ?_
    refine ev_iload_n dX7_learnLaws_109 4 rfl ?_
    refine ev_isub dX7_learnLaws_110 ?_
    refine ev_iload_n dX7_learnLaws_111 5 rfl ?_
    refine ev_iload dX7_learnLaws_112 6 rfl ?_
    obtain ⟨q20, hq20, hf⟩ := Option.bind_eq_some_iff.mp hf
    refine cl_V1 (As := [vi v1, vi ((q17.2 25 1) - v1), vi c11, vi v12]) (st := [vi v14, vr g 33]) miX3_value (tX3_value hS (hc.w rfl rfl) (r19 + 4) v1 ((q17.2 25 1) - v1) c11 v12 q17.2 (lw_Gr4 kr19) hq20) dX7_learnLaws_114 lkX7_134 inX3_value rfl (hS.lt (hc _ (inR_w (i_Lw0 (lw_Gr4 kr19)) rfl rfl))) (s_Lw0 (lw_Gr4 kr19)) ⟨rfl, rfl⟩ ⟨⟨Nat.le_of_ble_eq_true rfl, Nat.le_of_ble_eq_true rfl⟩, Nat.zero_le _, Nat.zero_le _⟩ (Nat.le_of_ble_eq_true rfl) ?_
    obtain ⟨v21, hv21, hf⟩ := lt_elim hf
    have hJv21 : Ev l D cy g K yX7_learnLaws cX7_learnLaws 7 none (rmd 4 0 0) (MX D cy g K (rmd 4 0 0) Φ) 0 0 M x (L q20.2) 125 [(6, vi q17.1), (5, vi v14), (0, vr g 25), (1, vi set0), (2, vi v1), (3, vi c11), (4, vi v12)] [vb v21, vi v14, vr g 33] := by
      obtain ⟨μ23, hμ23, hf⟩ := lt_elim hf
      refine cl_N0 (As := [vr g 33, vi v14, vb v21]) (st := []) (host := "HotCakes") miX11_put (tX11_put hS (hc.w rfl rfl) 33 v14 (b2i v21) q20.2 (⟨(hc 33 rfl), rfl⟩) hμ23.symm) dX7_learnLaws_125 (by decide) stX11_put rfl ⟨⟨Nat.le_of_ble_eq_true rfl, Nat.le_of_ble_eq_true rfl⟩, Nat.zero_le _, Nat.zero_le _⟩ (Nat.le_of_ble_eq_true rfl) ?_
      refine ev_aload_n dX7_learnLaws_128 2 rfl ?_
      refine ev_getK 13 dX7_learnLaws_129 (hS.lt (hc 25 rfl)) rfl (hS.K1 (hc 25 rfl) rfl) ciX7 (by decide) rfl flX7_36 ?_
      refine ev_iload dX7_learnLaws_132 1 rfl ?_
      refine ev_iconst dX7_learnLaws_134 ?_
      refine ev_bipush dX7_learnLaws_135 (by decide) ?_
      refine ev_iload dX7_learnLaws_137 0 rfl ?_
      refine ev_mmin dX7_learnLaws_139 lkX7_143 ⟨Nat.le_of_ble_eq_true rfl, Nat.le_of_ble_eq_true rfl, Nat.zero_le _, Nat.zero_le _⟩ ?_
      refine ev_mmax dX7_learnLaws_142 lkX7_148 ⟨Nat.le_of_ble_eq_true rfl, Nat.le_of_ble_eq_true rfl, Nat.zero_le _, Nat.zero_le _⟩ ?_
      obtain ⟨μ24, hμ24, hf⟩ := lt_elim hf
      refine cl_N0 (As := [vr g 34, vi v14, vi (imax 1 (imin 9 q17.1))]) (st := []) (host := "HotCakes") miX11_put (tX11_put hS (hc.w rfl rfl) 34 v14 (imax 1 (imin 9 q17.1)) μ23 (⟨(hc 34 rfl), rfl⟩) hμ24.symm) dX7_learnLaws_145 (by decide) stX11_put rfl ⟨⟨Nat.le_of_ble_eq_true rfl, Nat.le_of_ble_eq_true rfl⟩, Nat.zero_le _, Nat.zero_le _⟩ (Nat.le_of_ble_eq_true rfl) ?_
      refine ev_iinc (al2 := [(4, vi (v12 + 1)), (6, vi q17.1), (5, vi v14), (0, vr g 25), (1, vi set0), (2, vi v1), (3, vi c11)]) dX7_learnLaws_148 6 rfl (by decide) rfl ?_
      refine ev_goto 54 dX7_learnLaws_151 (by decide) ?_
      obtain rfl := Option.some.inj hf
      refine ev_sub [3, 4, 5, 6, 0] rfl ?_
      exact hr
    refine ev_if_eq 124 dX7_learnLaws_117 (by decide) (fun h22 => ?_) (fun h22 => ?_)
    · refine ev_iconst dX7_learnLaws_124 ?_
      have e9 : v21 = false := hv21.trans ((if_pos h22))
      subst e9
      exact hJv21
    · refine ev_iconst dX7_learnLaws_120 ?_
      refine ev_goto 125 dX7_learnLaws_121 (by decide) ?_
      have e9 : v21 = true := hv21.trans ((if_neg h22))
      subst e9
      exact hJv21
def fX7_learnLaws (set0 : Int) (μ : Mem) : Option (Mem) :=
  lt (fJ6_bitCount_0f7a4 set0) fun v1 =>
  (loopN (fun s => fX7_learnLaws_b10 set0 v1 s.1 s.2.1 s.2.2) FU (0, 0, μ)).bind fun q10 =>
  (loopN (fun s => fX7_learnLaws_b54 set0 v1 q10.1 s.1 s.2) FU (0, q10.2)).bind fun q25 =>
  some (q25)
set_option maxRecDepth 4000 in
theorem eX7_learnLaws (hS : Sd M K P L) (hc : CIn P 1 39) (set0 : Int) (μ : Mem)  {o : Mem} (hf : fX7_learnLaws set0 μ = some o) (hr : (fun o : Mem => Φ none M x (L o)) o) : Ev l D cy g K yX7_learnLaws cX7_learnLaws 7 none (rmd 4 0 0) (MX D cy g K (rmd 4 0 0) Φ) 0 0 M x (L μ) 0 [(0, vr g 25), (1, vi set0)] [] := by
  unfold fX7_learnLaws at hf
  refine ev_iload_n dX7_learnLaws_0 1 rfl ?_
  refine cl_S1 (As := [vi set0]) (st := []) miJ6_bitCount_0f7a4 (tJ6_bitCount_0f7a4 set0 (L μ) (o := (fJ6_bitCount_0f7a4 set0)) rfl) dX7_learnLaws_1 lkX7_122 stJ6_bitCount_0f7a4 rfl ⟨⟨Nat.le_of_ble_eq_true rfl, Nat.le_of_ble_eq_true rfl⟩, Nat.zero_le _, Nat.zero_le _⟩ (Nat.le_of_ble_eq_true rfl) ?_
  obtain ⟨v1, hv1, hf⟩ := lt_elim hf
  refine ev_rni hv1 ?_
  refine ev_istore_n (al2 := [(2, vi v1), (0, vr g 25), (1, vi set0)]) dX7_learnLaws_4 2 rfl (by decide) rfl ?_
  refine ev_iconst dX7_learnLaws_5 ?_
  refine ev_istore_n (al2 := [(3, vi 0), (2, vi v1), (0, vr g 25), (1, vi set0)]) dX7_learnLaws_6 3 rfl (by decide) rfl ?_
  refine ev_iconst dX7_learnLaws_7 ?_
  refine ev_istore (al2 := [(4, vi 0), (3, vi 0), (2, vi v1), (0, vr g 25), (1, vi set0)]) dX7_learnLaws_8 (by decide) rfl ?_
  obtain ⟨q10, hq10, hf⟩ := Option.bind_eq_some_iff.mp hf
  refine ev_sub [3, 4, 2, 1, 0] rfl ?_
  refine loop_ev (H := (fun s : Int × Int × Mem => Ev l D cy g K yX7_learnLaws cX7_learnLaws 7 none (rmd 4 0 0) (MX D cy g K (rmd 4 0 0) Φ) 0 0 M x (L s.2.2) 10 [(0, vr g 25), (1, vi set0), (2, vi v1), (3, vi s.1), (4, vi s.2.1)] [])) (Hx := (fun e : Int × Mem => Ev l D cy g K yX7_learnLaws cX7_learnLaws 7 none (rmd 4 0 0) (MX D cy g K (rmd 4 0 0) Φ) 0 0 M x (L e.2) 51 [(0, vr g 25), (1, vi set0), (2, vi v1), (3, vi e.1)] [])) (fun s o hb hr => tX7_learnLaws_b10 hS hc set0 v1 s.1 s.2.1 s.2.2 hb hr) FU _ _ hq10 ?_
  show Ev l D cy g K yX7_learnLaws cX7_learnLaws 7 none (rmd 4 0 0) (MX D cy g K (rmd 4 0 0) Φ) 0 0 M x (L q10.2) 51 [(0, vr g 25), (1, vi set0), (2, vi v1), (3, vi q10.1)] []
  refine ev_iconst dX7_learnLaws_51 ?_
  refine ev_istore (al2 := [(4, vi 0), (0, vr g 25), (1, vi set0), (2, vi v1), (3, vi q10.1)]) dX7_learnLaws_52 (by decide) rfl ?_
  obtain ⟨q25, hq25, hf⟩ := Option.bind_eq_some_iff.mp hf
  refine ev_sub [1, 2, 3, 4, 0] rfl ?_
  refine loop_ev (H := (fun s : Int × Mem => Ev l D cy g K yX7_learnLaws cX7_learnLaws 7 none (rmd 4 0 0) (MX D cy g K (rmd 4 0 0) Φ) 0 0 M x (L s.2) 54 [(0, vr g 25), (1, vi set0), (2, vi v1), (3, vi q10.1), (4, vi s.1)] [])) (Hx := (fun e : Mem => Ev l D cy g K yX7_learnLaws cX7_learnLaws 7 none (rmd 4 0 0) (MX D cy g K (rmd 4 0 0) Φ) 0 0 M x (L e) 154 [] [])) (fun s o hb hr => tX7_learnLaws_b54 hS hc set0 v1 q10.1 s.1 s.2 hb hr) FU _ _ hq25 ?_
  show Ev l D cy g K yX7_learnLaws cX7_learnLaws 7 none (rmd 4 0 0) (MX D cy g K (rmd 4 0 0) Φ) 0 0 M x (L q25) 154 [] []
  obtain rfl := Option.some.inj hf
  exact ev_vret dX7_learnLaws_154 rfl ⟨Nat.zero_le _, Nat.zero_le _⟩ hr
theorem tX7_learnLaws (hS : Sd M K P L) (hc : CIn P 1 39) (set0 : Int) (μ : Mem) {o : Mem} (hf : fX7_learnLaws set0 μ = some o) : Cn l D cy g K K yX7_learnLaws cX7_learnLaws 7 none (rmd 4 0 0) [vr g 25, vi set0] M x (L μ) (PE none M x (L o)) :=
 Cn.of (by decide) (Nat.le_of_ble_eq_true rfl) (eX7_learnLaws hS hc set0 μ hf (PE_i _ _ _ _))
def fX2_rankOf_b4 (k : Nat) (cake : Int) (v1 : Int) (v2 : Int) (μ : Mem) : Option ((Int × Int) ⊕ (Int)) :=
  if w32 v2 < w32 (μ k 0) then
    if w32 (fX11_at (k + 3) v2 μ) < w32 (fX11_at (k + 3) cake μ) then
      some (.inl ((v1 + 1), (v2 + 1)))
    else
      some (.inl (v1, (v2 + 1)))
  else
    some (.inr v1)
set_option maxRecDepth 4000 in
theorem tX2_rankOf_b4 (hS : Sd M K P L) (hc : CIn P 1 39) (k : Nat) (cake : Int) (v1 : Int) (v2 : Int) (μ : Mem) (hk : isGr k) {o : (Int × Int) ⊕ (Int)} (hf : fX2_rankOf_b4 k cake v1 v2 μ = some o) (hr : (Sum.elim (fun s : Int × Int => Ev l D cy g K yX2_rankOf cX2_rankOf 4 (some .int) (rmd 3 0 0) (MX D cy g K (rmd 3 0 0) Φ) 0 0 M x (L μ) 4 [(0, vr g k), (1, vi cake), (2, vi s.1), (3, vi s.2)] []) (fun e : Int => Ev l D cy g K yX2_rankOf cX2_rankOf 4 (some .int) (rmd 3 0 0) (MX D cy g K (rmd 3 0 0) Φ) 0 0 M x (L μ) 34 [(2, vi e)] [])) o) : Ev l D cy g K yX2_rankOf cX2_rankOf 4 (some .int) (rmd 3 0 0) (MX D cy g K (rmd 3 0 0) Φ) 0 0 M x (L μ) 4 [(0, vr g k), (1, vi cake), (2, vi v1), (3, vi v2)] [] := by
  unfold fX2_rankOf_b4 at hf
  refine ev_iload_n dX2_rankOf_4 3 rfl ?_
  refine ev_aload_n dX2_rankOf_5 0 rfl ?_
  refine ev_getI 0 dX2_rankOf_6 (hS.lt (hc _ (inR_w (i_Gr0 hk) rfl rfl))) (s_Gr0 hk) (hS.mem _ (hc _ (inR_w (i_Gr0 hk) rfl rfl))) ciX2 (by decide) rfl flX2_34 ?_
  refine ev_icmp_ge 34 dX2_rankOf_9 (by decide) (fun h3 => ?_) (fun h3 => ?_)
  · rw [if_neg h3] at hf
    obtain rfl := Option.some.inj hf
    refine ev_sub [2] rfl ?_
    exact hr
  · rw [if_pos h3] at hf
    refine ev_aload_n dX2_rankOf_12 0 rfl ?_
    refine ev_iload_n dX2_rankOf_13 3 rfl ?_
    refine cl_V1 (As := [vi v2]) (st := []) miX2_widthOf (tX2_widthOf hS (hc.w rfl rfl) k v2 μ hk (o := (fX11_at (k + 3) v2 μ)) rfl) dX2_rankOf_14 lkX2_48 inX2_widthOf rfl (hS.lt (hc _ (inR_w (i_Gr0 hk) rfl rfl))) (s_Gr0 hk) ⟨rfl, rfl⟩ ⟨⟨Nat.le_of_ble_eq_true rfl, Nat.le_of_ble_eq_true rfl⟩, Nat.zero_le _, Nat.zero_le _⟩ (Nat.le_of_ble_eq_true rfl) ?_
    refine ev_aload_n dX2_rankOf_17 0 rfl ?_
    refine ev_iload_n dX2_rankOf_18 1 rfl ?_
    refine cl_V1 (As := [vi cake]) (st := [vi (fX11_at (k + 3) v2 μ)]) miX2_widthOf (tX2_widthOf hS (hc.w rfl rfl) k cake μ hk (o := (fX11_at (k + 3) cake μ)) rfl) dX2_rankOf_19 lkX2_48 inX2_widthOf rfl (hS.lt (hc _ (inR_w (i_Gr0 hk) rfl rfl))) (s_Gr0 hk) ⟨rfl, rfl⟩ ⟨⟨Nat.le_of_ble_eq_true rfl, Nat.le_of_ble_eq_true rfl⟩, Nat.zero_le _, Nat.zero_le _⟩ (Nat.le_of_ble_eq_true rfl) ?_
    refine ev_icmp_ge 28 dX2_rankOf_22 (by decide) (fun h4 => ?_) (fun h4 => ?_)
    · rw [if_neg h4] at hf
      refine ev_iinc (al2 := [(3, vi (v2 + 1)), (0, vr g k), (1, vi cake), (2, vi v1)]) dX2_rankOf_28 3 rfl (by decide) rfl ?_
      refine ev_goto 4 dX2_rankOf_31 (by decide) ?_
      obtain rfl := Option.some.inj hf
      refine ev_sub [1, 2, 3, 0] rfl ?_
      exact hr
    · rw [if_pos h4] at hf
      refine ev_iinc (al2 := [(2, vi (v1 + 1)), (0, vr g k), (1, vi cake), (3, vi v2)]) dX2_rankOf_25 2 rfl (by decide) rfl ?_
      refine ev_iinc (al2 := [(3, vi (v2 + 1)), (2, vi (v1 + 1)), (0, vr g k), (1, vi cake)]) dX2_rankOf_28 3 rfl (by decide) rfl ?_
      refine ev_goto 4 dX2_rankOf_31 (by decide) ?_
      obtain rfl := Option.some.inj hf
      refine ev_sub [2, 3, 1, 0] rfl ?_
      exact hr
def fX2_rankOf (k : Nat) (cake : Int) (μ : Mem) : Option (Int) :=
  (loopN (fun s => fX2_rankOf_b4 k cake s.1 s.2 μ) FU (0, 0)).bind fun q5 =>
  some (q5)
set_option maxRecDepth 4000 in
theorem eX2_rankOf (hS : Sd M K P L) (hc : CIn P 1 39) (k : Nat) (cake : Int) (μ : Mem) (hk : isGr k) {o : Int} (hf : fX2_rankOf k cake μ = some o) (hr : (fun o : Int => Φ (some (vi o)) M x (L μ)) o) : Ev l D cy g K yX2_rankOf cX2_rankOf 4 (some .int) (rmd 3 0 0) (MX D cy g K (rmd 3 0 0) Φ) 0 0 M x (L μ) 0 [(0, vr g k), (1, vi cake)] [] := by
  unfold fX2_rankOf at hf
  refine ev_iconst dX2_rankOf_0 ?_
  refine ev_istore_n (al2 := [(2, vi 0), (0, vr g k), (1, vi cake)]) dX2_rankOf_1 2 rfl (by decide) rfl ?_
  refine ev_iconst dX2_rankOf_2 ?_
  refine ev_istore_n (al2 := [(3, vi 0), (2, vi 0), (0, vr g k), (1, vi cake)]) dX2_rankOf_3 3 rfl (by decide) rfl ?_
  obtain ⟨q5, hq5, hf⟩ := Option.bind_eq_some_iff.mp hf
  refine ev_sub [2, 3, 1, 0] rfl ?_
  refine loop_ev (H := (fun s : Int × Int => Ev l D cy g K yX2_rankOf cX2_rankOf 4 (some .int) (rmd 3 0 0) (MX D cy g K (rmd 3 0 0) Φ) 0 0 M x (L μ) 4 [(0, vr g k), (1, vi cake), (2, vi s.1), (3, vi s.2)] [])) (Hx := (fun e : Int => Ev l D cy g K yX2_rankOf cX2_rankOf 4 (some .int) (rmd 3 0 0) (MX D cy g K (rmd 3 0 0) Φ) 0 0 M x (L μ) 34 [(2, vi e)] [])) (fun s o hb hr => tX2_rankOf_b4 hS hc k cake s.1 s.2 μ hk hb hr) FU _ _ hq5 ?_
  show Ev l D cy g K yX2_rankOf cX2_rankOf 4 (some .int) (rmd 3 0 0) (MX D cy g K (rmd 3 0 0) Φ) 0 0 M x (L μ) 34 [(2, vi q5)] []
  refine ev_iload_n dX2_rankOf_34 0 rfl ?_
  obtain rfl := Option.some.inj hf
  exact ev_iret dX2_rankOf_35 rfl ⟨Nat.zero_le _, Nat.zero_le _⟩ hr
theorem tX2_rankOf (hS : Sd M K P L) (hc : CIn P 1 39) (k : Nat) (cake : Int) (μ : Mem) (hk : isGr k) {o : Int} (hf : fX2_rankOf k cake μ = some o) : Cn l D cy g K K yX2_rankOf cX2_rankOf 4 (some .int) (rmd 3 0 0) [vr g k, vi cake] M x (L μ) (PE (some (vi o)) M x (L μ)) :=
 Cn.of (by decide) (Nat.le_of_ble_eq_true rfl) (eX2_rankOf hS hc k cake μ hk hf (PE_i _ _ _ _))
def fX7_stackOf_b5 (cakesDown : Nat) (ups : Int) (v1 : Int) (v2 : Int) (μ : Mem) : Option ((Int × Int) ⊕ (Int)) :=
  if w32 v2 < w32 (μ 25 1) then
    lt (if w32 (i_and (i_shr ups v2) 1) = w32 1 then
        (fX11_at 26 v2 μ)
      else
        0) fun v4 =>
    lt (i_or v1 v4) fun v6 =>
    some (.inl (v6, (v2 + 1)))
  else
    some (.inr v1)
set_option maxRecDepth 4000 in
theorem tX7_stackOf_b5 (hS : Sd M K P L) (hc : CIn P 1 27) (cakesDown : Nat) (ups : Int) (v1 : Int) (v2 : Int) (μ : Mem) (hcakesDown : P cakesDown ∧ sh cakesDown = (1, alen cakesDown)) {o : (Int × Int) ⊕ (Int)} (hf : fX7_stackOf_b5 cakesDown ups v1 v2 μ = some o) (hr : (Sum.elim (fun s : Int × Int => Ev l D cy g K yX7_stackOf cX7_stackOf 5 (some .int) (rmd 3 0 0) (MX D cy g K (rmd 3 0 0) Φ) 0 0 M x (L μ) 5 [(0, vr g 25), (1, vr g cakesDown), (2, vi ups), (3, vi s.1), (4, vi s.2)] []) (fun e : Int => Ev l D cy g K yX7_stackOf cX7_stackOf 5 (some .int) (rmd 3 0 0) (MX D cy g K (rmd 3 0 0) Φ) 0 0 M x (L μ) 46 [(0, vr g 25), (1, vr g cakesDown), (3, vi e)] [])) o) : Ev l D cy g K yX7_stackOf cX7_stackOf 5 (some .int) (rmd 3 0 0) (MX D cy g K (rmd 3 0 0) Φ) 0 0 M x (L μ) 5 [(0, vr g 25), (1, vr g cakesDown), (2, vi ups), (3, vi v1), (4, vi v2)] [] := by
  unfold fX7_stackOf_b5 at hf
  refine ev_iload dX7_stackOf_5 4 rfl ?_
  refine ev_aload_n dX7_stackOf_7 0 rfl ?_
  refine ev_getI 1 dX7_stackOf_8 (hS.lt (hc 25 rfl)) rfl (hS.mem _ (hc 25 rfl)) ciX7 (by decide) rfl flX7_65 ?_
  refine ev_icmp_ge 46 dX7_stackOf_11 (by decide) (fun h3 => ?_) (fun h3 => ?_)
  · rw [if_neg h3] at hf
    obtain rfl := Option.some.inj hf
    refine ev_sub [0, 1, 3] rfl ?_
    exact hr
  · rw [if_pos h3] at hf
    refine ev_iload_n dX7_stackOf_14 3 rfl ?_
    refine ev_iload_n dX7_stackOf_15 2 rfl ?_
    refine ev_iload dX7_stackOf_16 4 rfl ?_
    refine ev_ishr dX7_stackOf_18 ?_
    refine ev_iconst dX7_stackOf_19 ?_
    refine ev_iand dX7_stackOf_20 ?_
    refine ev_iconst dX7_stackOf_21 ?_
    obtain ⟨v4, hv4, hf⟩ := lt_elim hf
    have hJv4 : Ev l D cy g K yX7_stackOf cX7_stackOf 5 (some .int) (rmd 3 0 0) (MX D cy g K (rmd 3 0 0) Φ) 0 0 M x (L μ) 38 [(0, vr g 25), (1, vr g cakesDown), (2, vi ups), (3, vi v1), (4, vi v2)] [vi v4, vi v1] := by
      refine ev_ior dX7_stackOf_38 ?_
      obtain ⟨v6, hv6, hf⟩ := lt_elim hf
      refine ev_rni hv6 ?_
      refine ev_istore_n (al2 := [(3, vi v6), (0, vr g 25), (1, vr g cakesDown), (2, vi ups), (4, vi v2)]) dX7_stackOf_39 3 rfl (by decide) rfl ?_
      refine ev_iinc (al2 := [(4, vi (v2 + 1)), (3, vi v6), (0, vr g 25), (1, vr g cakesDown), (2, vi ups)]) dX7_stackOf_40 4 rfl (by decide) rfl ?_
      refine ev_goto 5 dX7_stackOf_43 (by decide) ?_
      obtain rfl := Option.some.inj hf
      refine ev_sub [2, 3, 4, 1, 0] rfl ?_
      exact hr
    refine ev_icmp_ne 37 dX7_stackOf_22 (by decide) (fun h5 => ?_) (fun h5 => ?_)
    · refine ev_iconst dX7_stackOf_37 ?_
      have e9 : v4 = 0 := hv4.trans ((if_neg h5))
      subst e9
      exact hJv4
    · refine ev_aload_n dX7_stackOf_25 0 rfl ?_
      refine ev_getK 5 dX7_stackOf_26 (hS.lt (hc 25 rfl)) rfl (hS.K1 (hc 25 rfl) rfl) ciX7 (by decide) rfl flX7_9 ?_
      refine ev_iload dX7_stackOf_29 4 rfl ?_
      refine cl_N1 (As := [vr g 26, vi v2]) (st := [vi v1]) (host := "HotCakes") miX11_at (tX11_at hS (hc.w rfl rfl) 26 v2 μ (⟨(hc 26 rfl), rfl⟩) (o := (fX11_at 26 v2 μ)) rfl) dX7_stackOf_31 (by decide) stX11_at rfl ⟨⟨Nat.le_of_ble_eq_true rfl, Nat.le_of_ble_eq_true rfl⟩, Nat.zero_le _, Nat.zero_le _⟩ (Nat.le_of_ble_eq_true rfl) ?_
      refine ev_goto 38 dX7_stackOf_34 (by decide) ?_
      have e9 : v4 = (fX11_at 26 v2 μ) := hv4.trans ((if_pos h5))
      subst e9
      exact hJv4
def fX7_stackOf (cakesDown : Nat) (ups : Int) (μ : Mem) : Option (Int) :=
  (loopN (fun s => fX7_stackOf_b5 cakesDown ups s.1 s.2 μ) FU (0, 0)).bind fun q7 =>
  (fX7_orderOf cakesDown μ).bind fun v8 =>
  some ((i_or (i_shl v8 (μ 25 2)) q7))
set_option maxRecDepth 4000 in
theorem eX7_stackOf (hS : Sd M K P L) (hc : CIn P 1 27) (cakesDown : Nat) (ups : Int) (μ : Mem) (hcakesDown : P cakesDown ∧ sh cakesDown = (1, alen cakesDown)) {o : Int} (hf : fX7_stackOf cakesDown ups μ = some o) (hr : (fun o : Int => Φ (some (vi o)) M x (L μ)) o) : Ev l D cy g K yX7_stackOf cX7_stackOf 5 (some .int) (rmd 3 0 0) (MX D cy g K (rmd 3 0 0) Φ) 0 0 M x (L μ) 0 [(0, vr g 25), (1, vr g cakesDown), (2, vi ups)] [] := by
  unfold fX7_stackOf at hf
  refine ev_iconst dX7_stackOf_0 ?_
  refine ev_istore_n (al2 := [(3, vi 0), (0, vr g 25), (1, vr g cakesDown), (2, vi ups)]) dX7_stackOf_1 3 rfl (by decide) rfl ?_
  refine ev_iconst dX7_stackOf_2 ?_
  refine ev_istore (al2 := [(4, vi 0), (3, vi 0), (0, vr g 25), (1, vr g cakesDown), (2, vi ups)]) dX7_stackOf_3 (by decide) rfl ?_
  obtain ⟨q7, hq7, hf⟩ := Option.bind_eq_some_iff.mp hf
  refine ev_sub [2, 3, 4, 1, 0] rfl ?_
  refine loop_ev (H := (fun s : Int × Int => Ev l D cy g K yX7_stackOf cX7_stackOf 5 (some .int) (rmd 3 0 0) (MX D cy g K (rmd 3 0 0) Φ) 0 0 M x (L μ) 5 [(0, vr g 25), (1, vr g cakesDown), (2, vi ups), (3, vi s.1), (4, vi s.2)] [])) (Hx := (fun e : Int => Ev l D cy g K yX7_stackOf cX7_stackOf 5 (some .int) (rmd 3 0 0) (MX D cy g K (rmd 3 0 0) Φ) 0 0 M x (L μ) 46 [(0, vr g 25), (1, vr g cakesDown), (3, vi e)] [])) (fun s o hb hr => tX7_stackOf_b5 hS hc cakesDown ups s.1 s.2 μ hcakesDown hb hr) FU _ _ hq7 ?_
  show Ev l D cy g K yX7_stackOf cX7_stackOf 5 (some .int) (rmd 3 0 0) (MX D cy g K (rmd 3 0 0) Φ) 0 0 M x (L μ) 46 [(0, vr g 25), (1, vr g cakesDown), (3, vi q7)] []
  refine ev_aload_n dX7_stackOf_46 0 rfl ?_
  refine ev_aload_n dX7_stackOf_47 1 rfl ?_
  obtain ⟨v8, hv8, hf⟩ := Option.bind_eq_some_iff.mp hf
  refine cl_V1 (As := [vr g cakesDown]) (st := []) miX7_orderOf (tX7_orderOf hS (hc.w rfl rfl) cakesDown μ (⟨hcakesDown.1, hcakesDown.2⟩) hv8) dX7_stackOf_48 lkX7_115 inX7_orderOf rfl (hS.lt (hc 25 rfl)) rfl ⟨rfl, rfl⟩ ⟨⟨Nat.le_of_ble_eq_true rfl, Nat.le_of_ble_eq_true rfl⟩, Nat.zero_le _, Nat.zero_le _⟩ (Nat.le_of_ble_eq_true rfl) ?_
  refine ev_aload_n dX7_stackOf_51 0 rfl ?_
  refine ev_getI 2 dX7_stackOf_52 (hS.lt (hc 25 rfl)) rfl (hS.mem _ (hc 25 rfl)) ciX7 (by decide) rfl flX7_69 ?_
  refine ev_ishl dX7_stackOf_55 ?_
  refine ev_iload_n dX7_stackOf_56 2 rfl ?_
  refine ev_ior dX7_stackOf_57 ?_
  obtain rfl := Option.some.inj hf
  exact ev_iret dX7_stackOf_58 rfl ⟨Nat.zero_le _, Nat.zero_le _⟩ hr
theorem tX7_stackOf (hS : Sd M K P L) (hc : CIn P 1 27) (cakesDown : Nat) (ups : Int) (μ : Mem) (hcakesDown : P cakesDown ∧ sh cakesDown = (1, alen cakesDown)) {o : Int} (hf : fX7_stackOf cakesDown ups μ = some o) : Cn l D cy g K K yX7_stackOf cX7_stackOf 5 (some .int) (rmd 3 0 0) [vr g 25, vr g cakesDown, vi ups] M x (L μ) (PE (some (vi o)) M x (L μ)) :=
 Cn.of (by decide) (Nat.le_of_ble_eq_true rfl) (eX7_stackOf hS hc cakesDown ups μ hcakesDown hf (PE_i _ _ _ _))
def fX7_learn_b20 (told : Nat) (v4 : Int) (μ : Mem) : Option ((Int × Mem) ⊕ (Mem)) :=
  if w32 v4 < w32 (μ 25 1) then
    lt (fX2_hasSide told v4 μ) fun v6 =>
    lt (if v6 = true then
        (i_shl 1 (μ 25 2))
      else
        0) fun v7 =>
    lt (fX11_put 26 v4 v7 μ) fun μ9 =>
    lt (if v6 = true then
        1
      else
        0) fun v10 =>
    lt (upd2 μ9 25 2 ((μ9 25 2) + v10)) fun μ12 =>
    some (.inl ((v4 + 1), μ12))
  else
    some (.inr μ)
set_option maxRecDepth 4000 in
theorem tX7_learn_b20 (hS : Sd M K P L) (hc : CIn P 1 39) (told : Nat) (v4 : Int) (μ : Mem) (htold : isGr told) {o : (Int × Mem) ⊕ (Mem)} (hf : fX7_learn_b20 told v4 μ = some o) (hr : (Sum.elim (fun s : Int × Mem => Ev l D cy g K yX7_learn cX7_learn 4 none (rmd 5 0 0) (MX D cy g K (rmd 5 0 0) Φ) 0 0 M x (L s.2) 20 [(0, vr g 25), (1, vr g told), (2, vi s.1)] []) (fun e : Mem => Ev l D cy g K yX7_learn cX7_learn 4 none (rmd 5 0 0) (MX D cy g K (rmd 5 0 0) Φ) 0 0 M x (L e) 80 [(0, vr g 25), (1, vr g told)] [])) o) : Ev l D cy g K yX7_learn cX7_learn 4 none (rmd 5 0 0) (MX D cy g K (rmd 5 0 0) Φ) 0 0 M x (L μ) 20 [(0, vr g 25), (1, vr g told), (2, vi v4)] [] := by
  unfold fX7_learn_b20 at hf
  refine ev_iload_n dX7_learn_20 2 rfl ?_
  refine ev_aload_n dX7_learn_21 0 rfl ?_
  refine ev_getI 1 dX7_learn_22 (hS.lt (hc 25 rfl)) rfl (hS.mem _ (hc 25 rfl)) ciX7 (by decide) rfl flX7_65 ?_
  refine ev_icmp_ge 80 dX7_learn_25 (by decide) (fun h5 => ?_) (fun h5 => ?_)
  · rw [if_neg h5] at hf
    obtain rfl := Option.some.inj hf
    refine ev_sub [0, 1] rfl ?_
    exact hr
  · rw [if_pos h5] at hf
    refine ev_aload_n dX7_learn_28 1 rfl ?_
    refine ev_iload_n dX7_learn_29 2 rfl ?_
    refine cl_V1 (As := [vi v4]) (st := []) miX2_hasSide (tX2_hasSide hS (hc.w rfl rfl) told v4 μ htold (o := (fX2_hasSide told v4 μ)) rfl) dX7_learn_30 lkX7_72 inX2_hasSide rfl (hS.lt (hc _ (inR_w (i_Gr0 htold) rfl rfl))) (s_Gr0 htold) ⟨rfl, rfl⟩ ⟨⟨Nat.le_of_ble_eq_true rfl, Nat.le_of_ble_eq_true rfl⟩, Nat.zero_le _, Nat.zero_le _⟩ (Nat.le_of_ble_eq_true rfl) ?_
    obtain ⟨v6, hv6, hf⟩ := lt_elim hf
    refine ev_rnb hv6 ?_
    refine ev_istore_n (al2 := [(3, vb v6), (0, vr g 25), (1, vr g told), (2, vi v4)]) dX7_learn_33 3 rfl (by decide) rfl ?_
    refine ev_aload_n dX7_learn_34 1 rfl ?_
    refine ev_getK 5 dX7_learn_35 (hS.lt (hc 25 rfl)) rfl (hS.K1 (hc 25 rfl) rfl) ciX7 (by decide) rfl flX7_9 ?_
    refine ev_iload_n dX7_learn_38 3 rfl ?_
    refine ev_iload_n dX7_learn_39 0 rfl ?_
    obtain ⟨v7, hv7, hf⟩ := lt_elim hf
    have hJv7 : Ev l D cy g K yX7_learn cX7_learn 4 none (rmd 5 0 0) (MX D cy g K (rmd 5 0 0) Φ) 0 0 M x (L μ) 53 [(3, vb v6), (0, vr g 25), (1, vr g told), (2, vi v4)] [vi v7, vi v4, vr g 26] := by
      obtain ⟨μ9, hμ9, hf⟩ := lt_elim hf
      refine cl_N0 (As := [vr g 26, vi v4, vi v7]) (st := []) (host := "HotCakes") miX11_put (tX11_put hS (hc.w rfl rfl) 26 v4 v7 μ (⟨(hc 26 rfl), rfl⟩) hμ9.symm) dX7_learn_53 (by decide) stX11_put rfl ⟨⟨Nat.le_of_ble_eq_true rfl, Nat.le_of_ble_eq_true rfl⟩, Nat.zero_le _, Nat.zero_le _⟩ (Nat.le_of_ble_eq_true rfl) ?_
      refine ev_aload_n dX7_learn_56 1 rfl ?_
      refine ev_dup dX7_learn_57 rfl ?_
      refine ev_getI 2 dX7_learn_58 (hS.lt (hc 25 rfl)) rfl (hS.mem _ (hc 25 rfl)) ciX7 (by decide) rfl flX7_69 ?_
      refine ev_iload_n dX7_learn_61 0 rfl ?_
      obtain ⟨v10, hv10, hf⟩ := lt_elim hf
      have hJv10 : Ev l D cy g K yX7_learn cX7_learn 4 none (rmd 5 0 0) (MX D cy g K (rmd 5 0 0) Φ) 0 0 M x (L μ9) 70 [(3, vb v6), (0, vr g 25), (1, vr g told), (2, vi v4)] [vi v10, vi (μ9 25 2), vr g 25] := by
        refine ev_iadd dX7_learn_70 ?_
        obtain ⟨μ12, hμ12, hf⟩ := lt_elim hf
        refine ev_putI 2 dX7_learn_71 (hS.lt (hc 25 rfl)) rfl ciX7 (by decide) (Or.inl rfl) rfl rfl flX7_69 (hS.up (hc 25 rfl) hμ12) ?_
        refine ev_iinc (al2 := [(2, vi (v4 + 1)), (3, vb v6), (0, vr g 25), (1, vr g told)]) dX7_learn_74 3 rfl (by decide) rfl ?_
        refine ev_goto 20 dX7_learn_77 (by decide) ?_
        obtain rfl := Option.some.inj hf
        refine ev_sub [2, 3, 0] rfl ?_
        exact hr
      refine ev_ifb_eq 69 dX7_learn_62 (by decide) (fun h11 => ?_) (fun h11 => ?_)
      · refine ev_iconst dX7_learn_69 ?_
        have e9 : v10 = 0 := hv10.trans ((if_neg h11))
        subst e9
        exact hJv10
      · refine ev_iconst dX7_learn_65 ?_
        refine ev_goto 70 dX7_learn_66 (by decide) ?_
        have e9 : v10 = 1 := hv10.trans ((if_pos h11))
        subst e9
        exact hJv10
    refine ev_ifb_eq 52 dX7_learn_40 (by decide) (fun h8 => ?_) (fun h8 => ?_)
    · refine ev_iconst dX7_learn_52 ?_
      have e9 : v7 = 0 := hv7.trans ((if_neg h8))
      subst e9
      exact hJv7
    · refine ev_iconst dX7_learn_43 ?_
      refine ev_aload_n dX7_learn_44 1 rfl ?_
      refine ev_getI 2 dX7_learn_45 (hS.lt (hc 25 rfl)) rfl (hS.mem _ (hc 25 rfl)) ciX7 (by decide) rfl flX7_69 ?_
      refine ev_ishl dX7_learn_48 ?_
      refine ev_goto 53 dX7_learn_49 (by decide) ?_
      have e9 : v7 = (i_shl 1 (μ 25 2)) := hv7.trans ((if_pos h8))
      subst e9
      exact hJv7
def fX7_learn_b96 (told : Nat) (v15 : Int) (μ : Mem) : Option ((Int × Mem) ⊕ (Mem)) :=
  if w32 v15 < w32 (μ 25 3) then
    (fX7_learnOrder v15 μ).bind fun μ17 =>
    some (.inl ((v15 + 1), μ17))
  else
    some (.inr μ)
set_option maxRecDepth 4000 in
theorem tX7_learn_b96 (hS : Sd M K P L) (hc : CIn P 1 39) (told : Nat) (v15 : Int) (μ : Mem) (htold : isGr told) {o : (Int × Mem) ⊕ (Mem)} (hf : fX7_learn_b96 told v15 μ = some o) (hr : (Sum.elim (fun s : Int × Mem => Ev l D cy g K yX7_learn cX7_learn 4 none (rmd 5 0 0) (MX D cy g K (rmd 5 0 0) Φ) 0 0 M x (L s.2) 96 [(0, vr g 25), (1, vr g told), (2, vi s.1)] []) (fun e : Mem => Ev l D cy g K yX7_learn cX7_learn 4 none (rmd 5 0 0) (MX D cy g K (rmd 5 0 0) Φ) 0 0 M x (L e) 115 [(0, vr g 25), (1, vr g told)] [])) o) : Ev l D cy g K yX7_learn cX7_learn 4 none (rmd 5 0 0) (MX D cy g K (rmd 5 0 0) Φ) 0 0 M x (L μ) 96 [(0, vr g 25), (1, vr g told), (2, vi v15)] [] := by
  unfold fX7_learn_b96 at hf
  refine ev_iload_n dX7_learn_96 2 rfl ?_
  refine ev_aload_n dX7_learn_97 0 rfl ?_
  refine ev_getI 3 dX7_learn_98 (hS.lt (hc 25 rfl)) rfl (hS.mem _ (hc 25 rfl)) ciX7 (by decide) rfl flX7_87 ?_
  refine ev_icmp_ge 115 dX7_learn_101 (by decide) (fun h16 => ?_) (fun h16 => ?_)
  · rw [if_neg h16] at hf
    obtain rfl := Option.some.inj hf
    refine ev_sub [0, 1] rfl ?_
    exact hr
  · rw [if_pos h16] at hf
    refine ev_aload_n dX7_learn_104 0 rfl ?_
    refine ev_iload_n dX7_learn_105 2 rfl ?_
    obtain ⟨μ17, hμ17, hf⟩ := Option.bind_eq_some_iff.mp hf
    refine cl_V0 (As := [vi v15]) (st := []) miX7_learnOrder (tX7_learnOrder hS (hc.w rfl rfl) v15 μ hμ17) dX7_learn_106 lkX7_90 inX7_learnOrder rfl (hS.lt (hc 25 rfl)) rfl ⟨rfl, rfl⟩ ⟨⟨Nat.le_of_ble_eq_true rfl, Nat.le_of_ble_eq_true rfl⟩, Nat.zero_le _, Nat.zero_le _⟩ (Nat.le_of_ble_eq_true rfl) ?_
    refine ev_iinc (al2 := [(2, vi (v15 + 1)), (0, vr g 25), (1, vr g told)]) dX7_learn_109 2 rfl (by decide) rfl ?_
    refine ev_goto 96 dX7_learn_112 (by decide) ?_
    obtain rfl := Option.some.inj hf
    refine ev_sub [1, 2, 0] rfl ?_
    exact hr
def fX7_learn_b127 (told : Nat) (v19 : Int) (v21 : Int) (μ : Mem) : Option ((Int × Mem) ⊕ (Mem)) :=
  if w32 v21 ≤ w32 (μ 25 1) then
    (fX7_learnTurn v19 v21 μ).bind fun μ23 =>
    some (.inl ((v21 + 1), μ23))
  else
    some (.inr μ)
set_option maxRecDepth 4000 in
theorem tX7_learn_b127 (hS : Sd M K P L) (hc : CIn P 1 39) (told : Nat) (v19 : Int) (v21 : Int) (μ : Mem) (htold : isGr told) {o : (Int × Mem) ⊕ (Mem)} (hf : fX7_learn_b127 told v19 v21 μ = some o) (hr : (Sum.elim (fun s : Int × Mem => Ev l D cy g K yX7_learn cX7_learn 4 none (rmd 5 0 0) (MX D cy g K (rmd 5 0 0) Φ) 0 0 M x (L s.2) 127 [(0, vr g 25), (1, vr g told), (2, vi v19), (3, vi s.1)] []) (fun e : Mem => Ev l D cy g K yX7_learn cX7_learn 4 none (rmd 5 0 0) (MX D cy g K (rmd 5 0 0) Φ) 0 0 M x (L e) 147 [(0, vr g 25), (1, vr g told), (2, vi v19)] [])) o) : Ev l D cy g K yX7_learn cX7_learn 4 none (rmd 5 0 0) (MX D cy g K (rmd 5 0 0) Φ) 0 0 M x (L μ) 127 [(0, vr g 25), (1, vr g told), (2, vi v19), (3, vi v21)] [] := by
  unfold fX7_learn_b127 at hf
  refine ev_iload_n dX7_learn_127 3 rfl ?_
  refine ev_aload_n dX7_learn_128 0 rfl ?_
  refine ev_getI 1 dX7_learn_129 (hS.lt (hc 25 rfl)) rfl (hS.mem _ (hc 25 rfl)) ciX7 (by decide) rfl flX7_65 ?_
  refine ev_icmp_gt 147 dX7_learn_132 (by decide) (fun h22 => ?_) (fun h22 => ?_)
  · rw [if_neg h22] at hf
    obtain rfl := Option.some.inj hf
    refine ev_sub [0, 1, 2] rfl ?_
    exact hr
  · rw [if_pos h22] at hf
    refine ev_aload_n dX7_learn_135 0 rfl ?_
    refine ev_iload_n dX7_learn_136 2 rfl ?_
    refine ev_iload_n dX7_learn_137 3 rfl ?_
    obtain ⟨μ23, hμ23, hf⟩ := Option.bind_eq_some_iff.mp hf
    refine cl_V0 (As := [vi v19, vi v21]) (st := []) miX7_learnTurn (tX7_learnTurn hS (hc.w rfl rfl) v19 v21 μ hμ23) dX7_learn_138 lkX7_94 inX7_learnTurn rfl (hS.lt (hc 25 rfl)) rfl ⟨rfl, rfl⟩ ⟨⟨Nat.le_of_ble_eq_true rfl, Nat.le_of_ble_eq_true rfl⟩, Nat.zero_le _, Nat.zero_le _⟩ (Nat.le_of_ble_eq_true rfl) ?_
    refine ev_iinc (al2 := [(3, vi (v21 + 1)), (0, vr g 25), (1, vr g told), (2, vi v19)]) dX7_learn_141 3 rfl (by decide) rfl ?_
    refine ev_goto 127 dX7_learn_144 (by decide) ?_
    obtain rfl := Option.some.inj hf
    refine ev_sub [1, 2, 3, 0] rfl ?_
    exact hr
def fX7_learn_b117 (told : Nat) (v19 : Int) (μ : Mem) : Option ((Int × Mem) ⊕ (Mem)) :=
  if w32 v19 < w32 (μ 25 3) then
    (loopN (fun s => fX7_learn_b127 told v19 s.1 s.2) FU (1, μ)).bind fun q24 =>
    some (.inl ((v19 + 1), q24))
  else
    some (.inr μ)
set_option maxRecDepth 4000 in
theorem tX7_learn_b117 (hS : Sd M K P L) (hc : CIn P 1 39) (told : Nat) (v19 : Int) (μ : Mem) (htold : isGr told) {o : (Int × Mem) ⊕ (Mem)} (hf : fX7_learn_b117 told v19 μ = some o) (hr : (Sum.elim (fun s : Int × Mem => Ev l D cy g K yX7_learn cX7_learn 4 none (rmd 5 0 0) (MX D cy g K (rmd 5 0 0) Φ) 0 0 M x (L s.2) 117 [(0, vr g 25), (1, vr g told), (2, vi s.1)] []) (fun e : Mem => Ev l D cy g K yX7_learn cX7_learn 4 none (rmd 5 0 0) (MX D cy g K (rmd 5 0 0) Φ) 0 0 M x (L e) 153 [(0, vr g 25), (1, vr g told)] [])) o) : Ev l D cy g K yX7_learn cX7_learn 4 none (rmd 5 0 0) (MX D cy g K (rmd 5 0 0) Φ) 0 0 M x (L μ) 117 [(0, vr g 25), (1, vr g told), (2, vi v19)] [] := by
  unfold fX7_learn_b117 at hf
  refine ev_iload_n dX7_learn_117 2 rfl ?_
  refine ev_aload_n dX7_learn_118 0 rfl ?_
  refine ev_getI 3 dX7_learn_119 (hS.lt (hc 25 rfl)) rfl (hS.mem _ (hc 25 rfl)) ciX7 (by decide) rfl flX7_87 ?_
  refine ev_icmp_ge 153 dX7_learn_122 (by decide) (fun h20 => ?_) (fun h20 => ?_)
  · rw [if_neg h20] at hf
    obtain rfl := Option.some.inj hf
    refine ev_sub [0, 1] rfl ?_
    exact hr
  · rw [if_pos h20] at hf
    refine ev_iconst dX7_learn_125 ?_
    refine ev_istore_n (al2 := [(3, vi 1), (0, vr g 25), (1, vr g told), (2, vi v19)]) dX7_learn_126 3 rfl (by decide) rfl ?_
    obtain ⟨q24, hq24, hf⟩ := Option.bind_eq_some_iff.mp hf
    refine ev_sub [1, 2, 3, 0] rfl ?_
    refine loop_ev (H := (fun s : Int × Mem => Ev l D cy g K yX7_learn cX7_learn 4 none (rmd 5 0 0) (MX D cy g K (rmd 5 0 0) Φ) 0 0 M x (L s.2) 127 [(0, vr g 25), (1, vr g told), (2, vi v19), (3, vi s.1)] [])) (Hx := (fun e : Mem => Ev l D cy g K yX7_learn cX7_learn 4 none (rmd 5 0 0) (MX D cy g K (rmd 5 0 0) Φ) 0 0 M x (L e) 147 [(0, vr g 25), (1, vr g told), (2, vi v19)] [])) (fun s o hb hr => tX7_learn_b127 hS hc told v19 s.1 s.2 htold hb hr) FU _ _ hq24 ?_
    show Ev l D cy g K yX7_learn cX7_learn 4 none (rmd 5 0 0) (MX D cy g K (rmd 5 0 0) Φ) 0 0 M x (L q24) 147 [(0, vr g 25), (1, vr g told), (2, vi v19)] []
    refine ev_iinc (al2 := [(2, vi (v19 + 1)), (0, vr g 25), (1, vr g told)]) dX7_learn_147 2 rfl (by decide) rfl ?_
    refine ev_goto 117 dX7_learn_150 (by decide) ?_
    obtain rfl := Option.some.inj hf
    refine ev_sub [1, 2, 0] rfl ?_
    exact hr
def fX7_learn_b155 (told : Nat) (v26 : Int) (μ : Mem) : Option ((Int × Mem) ⊕ (Mem)) :=
  if w32 v26 < w32 (i_shl 1 (μ 25 1)) then
    (fX7_learnLaws v26 μ).bind fun μ28 =>
    some (.inl ((v26 + 1), μ28))
  else
    some (.inr μ)
set_option maxRecDepth 4000 in
theorem tX7_learn_b155 (hS : Sd M K P L) (hc : CIn P 1 39) (told : Nat) (v26 : Int) (μ : Mem) (htold : isGr told) {o : (Int × Mem) ⊕ (Mem)} (hf : fX7_learn_b155 told v26 μ = some o) (hr : (Sum.elim (fun s : Int × Mem => Ev l D cy g K yX7_learn cX7_learn 4 none (rmd 5 0 0) (MX D cy g K (rmd 5 0 0) Φ) 0 0 M x (L s.2) 155 [(0, vr g 25), (1, vr g told), (2, vi s.1)] []) (fun e : Mem => Ev l D cy g K yX7_learn cX7_learn 4 none (rmd 5 0 0) (MX D cy g K (rmd 5 0 0) Φ) 0 0 M x (L e) 176 [(0, vr g 25), (1, vr g told)] [])) o) : Ev l D cy g K yX7_learn cX7_learn 4 none (rmd 5 0 0) (MX D cy g K (rmd 5 0 0) Φ) 0 0 M x (L μ) 155 [(0, vr g 25), (1, vr g told), (2, vi v26)] [] := by
  unfold fX7_learn_b155 at hf
  refine ev_iload_n dX7_learn_155 2 rfl ?_
  refine ev_iconst dX7_learn_156 ?_
  refine ev_aload_n dX7_learn_157 0 rfl ?_
  refine ev_getI 1 dX7_learn_158 (hS.lt (hc 25 rfl)) rfl (hS.mem _ (hc 25 rfl)) ciX7 (by decide) rfl flX7_65 ?_
  refine ev_ishl dX7_learn_161 ?_
  refine ev_icmp_ge 176 dX7_learn_162 (by decide) (fun h27 => ?_) (fun h27 => ?_)
  · rw [if_neg h27] at hf
    obtain rfl := Option.some.inj hf
    refine ev_sub [0, 1] rfl ?_
    exact hr
  · rw [if_pos h27] at hf
    refine ev_aload_n dX7_learn_165 0 rfl ?_
    refine ev_iload_n dX7_learn_166 2 rfl ?_
    obtain ⟨μ28, hμ28, hf⟩ := Option.bind_eq_some_iff.mp hf
    refine cl_V0 (As := [vi v26]) (st := []) miX7_learnLaws (tX7_learnLaws hS (hc.w rfl rfl) v26 μ hμ28) dX7_learn_167 lkX7_98 inX7_learnLaws rfl (hS.lt (hc 25 rfl)) rfl ⟨rfl, rfl⟩ ⟨⟨Nat.le_of_ble_eq_true rfl, Nat.le_of_ble_eq_true rfl⟩, Nat.zero_le _, Nat.zero_le _⟩ (Nat.le_of_ble_eq_true rfl) ?_
    refine ev_iinc (al2 := [(2, vi (v26 + 1)), (0, vr g 25), (1, vr g told)]) dX7_learn_170 2 rfl (by decide) rfl ?_
    refine ev_goto 155 dX7_learn_173 (by decide) ?_
    obtain rfl := Option.some.inj hf
    refine ev_sub [1, 2, 0] rfl ?_
    exact hr
def fX7_learn_b178 (told : Nat) (v30 : Int) (μ : Mem) : Option ((Int × Mem) ⊕ (Mem)) :=
  if w32 v30 < w32 (μ 25 1) then
    (fX2_rankOf told v30 μ).bind fun v32 =>
    lt (fX11_put 27 v32 v30 μ) fun μ33 =>
    some (.inl ((v30 + 1), μ33))
  else
    some (.inr μ)
set_option maxRecDepth 4000 in
theorem tX7_learn_b178 (hS : Sd M K P L) (hc : CIn P 1 39) (told : Nat) (v30 : Int) (μ : Mem) (htold : isGr told) {o : (Int × Mem) ⊕ (Mem)} (hf : fX7_learn_b178 told v30 μ = some o) (hr : (Sum.elim (fun s : Int × Mem => Ev l D cy g K yX7_learn cX7_learn 4 none (rmd 5 0 0) (MX D cy g K (rmd 5 0 0) Φ) 0 0 M x (L s.2) 178 [(0, vr g 25), (1, vr g told), (2, vi s.1)] []) (fun e : Mem => Ev l D cy g K yX7_learn cX7_learn 4 none (rmd 5 0 0) (MX D cy g K (rmd 5 0 0) Φ) 0 0 M x (L e) 205 [(0, vr g 25)] [])) o) : Ev l D cy g K yX7_learn cX7_learn 4 none (rmd 5 0 0) (MX D cy g K (rmd 5 0 0) Φ) 0 0 M x (L μ) 178 [(0, vr g 25), (1, vr g told), (2, vi v30)] [] := by
  unfold fX7_learn_b178 at hf
  refine ev_iload_n dX7_learn_178 2 rfl ?_
  refine ev_aload_n dX7_learn_179 0 rfl ?_
  refine ev_getI 1 dX7_learn_180 (hS.lt (hc 25 rfl)) rfl (hS.mem _ (hc 25 rfl)) ciX7 (by decide) rfl flX7_65 ?_
  refine ev_icmp_ge 205 dX7_learn_183 (by decide) (fun h31 => ?_) (fun h31 => ?_)
  · rw [if_neg h31] at hf
    obtain rfl := Option.some.inj hf
    refine ev_sub [0] rfl ?_
    exact hr
  · rw [if_pos h31] at hf
    refine ev_aload_n dX7_learn_186 0 rfl ?_
    refine ev_getK 6 dX7_learn_187 (hS.lt (hc 25 rfl)) rfl (hS.K1 (hc 25 rfl) rfl) ciX7 (by decide) rfl flX7_15 ?_
    refine ev_aload_n dX7_learn_190 1 rfl ?_
    refine ev_iload_n dX7_learn_191 2 rfl ?_
    obtain ⟨v32, hv32, hf⟩ := Option.bind_eq_some_iff.mp hf
    refine cl_V1 (As := [vi v30]) (st := [vr g 27]) miX2_rankOf (tX2_rankOf hS (hc.w rfl rfl) told v30 μ htold hv32) dX7_learn_192 lkX7_101 inX2_rankOf rfl (hS.lt (hc _ (inR_w (i_Gr0 htold) rfl rfl))) (s_Gr0 htold) ⟨rfl, rfl⟩ ⟨⟨Nat.le_of_ble_eq_true rfl, Nat.le_of_ble_eq_true rfl⟩, Nat.zero_le _, Nat.zero_le _⟩ (Nat.le_of_ble_eq_true rfl) ?_
    refine ev_iload_n dX7_learn_195 2 rfl ?_
    obtain ⟨μ33, hμ33, hf⟩ := lt_elim hf
    refine cl_N0 (As := [vr g 27, vi v32, vi v30]) (st := []) (host := "HotCakes") miX11_put (tX11_put hS (hc.w rfl rfl) 27 v32 v30 μ (⟨(hc 27 rfl), rfl⟩) hμ33.symm) dX7_learn_196 (by decide) stX11_put rfl ⟨⟨Nat.le_of_ble_eq_true rfl, Nat.le_of_ble_eq_true rfl⟩, Nat.zero_le _, Nat.zero_le _⟩ (Nat.le_of_ble_eq_true rfl) ?_
    refine ev_iinc (al2 := [(2, vi (v30 + 1)), (0, vr g 25), (1, vr g told)]) dX7_learn_199 2 rfl (by decide) rfl ?_
    refine ev_goto 178 dX7_learn_202 (by decide) ?_
    obtain rfl := Option.some.inj hf
    refine ev_sub [1, 2, 0] rfl ?_
    exact hr
def fX7_learn (told : Nat) (μ : Mem) : Option (Mem) :=
  lt (upd2 μ 25 0 (told : Int)) fun μ1 =>
  lt (upd2 μ1 25 1 (μ1 told 0)) fun μ2 =>
  lt (upd2 μ2 25 2 0) fun μ3 =>
  (loopN (fun s => fX7_learn_b20 told s.1 s.2) FU (0, μ3)).bind fun q13 =>
  lt (upd2 q13 25 3 (fX11_atF (q13 25 1) q13)) fun μ14 =>
  (loopN (fun s => fX7_learn_b96 told s.1 s.2) FU (0, μ14)).bind fun q18 =>
  (loopN (fun s => fX7_learn_b117 told s.1 s.2) FU (0, q18)).bind fun q25 =>
  (loopN (fun s => fX7_learn_b155 told s.1 s.2) FU (1, q25)).bind fun q29 =>
  (loopN (fun s => fX7_learn_b178 told s.1 s.2) FU (0, q29)).bind fun q34 =>
  (fX7_stackOf 27 0 q34).bind fun v35 =>
  lt (upd2 q34 25 4 v35) fun μ36 =>
  some (μ36)
set_option maxRecDepth 4000 in
theorem eX7_learn (hS : Sd M K P L) (hc : CIn P 1 39) (told : Nat) (μ : Mem) (htold : isGr told) {o : Mem} (hf : fX7_learn told μ = some o) (hr : (fun o : Mem => Φ none M x (L o)) o) : Ev l D cy g K yX7_learn cX7_learn 4 none (rmd 5 0 0) (MX D cy g K (rmd 5 0 0) Φ) 0 0 M x (L μ) 0 [(0, vr g 25), (1, vr g told)] [] := by
  unfold fX7_learn at hf
  refine ev_aload_n dX7_learn_0 0 rfl ?_
  refine ev_aload_n dX7_learn_1 1 rfl ?_
  obtain ⟨μ1, hμ1, hf⟩ := lt_elim hf
  refine ev_putR 0 dX7_learn_2 (hS.lt (hc 25 rfl)) rfl ciX7 (by decide) (Or.inl rfl) rfl flX7_55 (hS.K0 (hc 25 rfl) rfl) (fun _ => ⟨rfl, rfl⟩) (hS.up (hc 25 rfl) hμ1) ?_
  refine ev_aload_n dX7_learn_5 0 rfl ?_
  refine ev_aload_n dX7_learn_6 1 rfl ?_
  refine cl_V1 (As := []) (st := [vr g 25]) miX2_size (tX2_size hS (hc.w rfl rfl) told μ1 htold (o := (μ1 told 0)) rfl) dX7_learn_7 lkX7_59 inX2_size rfl (hS.lt (hc _ (inR_w (i_Gr0 htold) rfl rfl))) (s_Gr0 htold) ⟨rfl, rfl⟩ ⟨⟨Nat.le_of_ble_eq_true rfl, Nat.le_of_ble_eq_true rfl⟩, Nat.zero_le _, Nat.zero_le _⟩ (Nat.le_of_ble_eq_true rfl) ?_
  obtain ⟨μ2, hμ2, hf⟩ := lt_elim hf
  refine ev_putI 1 dX7_learn_10 (hS.lt (hc 25 rfl)) rfl ciX7 (by decide) (Or.inl rfl) rfl rfl flX7_65 (hS.up (hc 25 rfl) hμ2) ?_
  refine ev_aload_n dX7_learn_13 0 rfl ?_
  refine ev_iconst dX7_learn_14 ?_
  obtain ⟨μ3, hμ3, hf⟩ := lt_elim hf
  refine ev_putI 2 dX7_learn_15 (hS.lt (hc 25 rfl)) rfl ciX7 (by decide) (Or.inl rfl) rfl rfl flX7_69 (hS.up (hc 25 rfl) hμ3) ?_
  refine ev_iconst dX7_learn_18 ?_
  refine ev_istore_n (al2 := [(2, vi 0), (0, vr g 25), (1, vr g told)]) dX7_learn_19 2 rfl (by decide) rfl ?_
  obtain ⟨q13, hq13, hf⟩ := Option.bind_eq_some_iff.mp hf
  refine ev_sub [1, 2, 0] rfl ?_
  refine loop_ev (H := (fun s : Int × Mem => Ev l D cy g K yX7_learn cX7_learn 4 none (rmd 5 0 0) (MX D cy g K (rmd 5 0 0) Φ) 0 0 M x (L s.2) 20 [(0, vr g 25), (1, vr g told), (2, vi s.1)] [])) (Hx := (fun e : Mem => Ev l D cy g K yX7_learn cX7_learn 4 none (rmd 5 0 0) (MX D cy g K (rmd 5 0 0) Φ) 0 0 M x (L e) 80 [(0, vr g 25), (1, vr g told)] [])) (fun s o hb hr => tX7_learn_b20 hS hc told s.1 s.2 htold hb hr) FU _ _ hq13 ?_
  show Ev l D cy g K yX7_learn cX7_learn 4 none (rmd 5 0 0) (MX D cy g K (rmd 5 0 0) Φ) 0 0 M x (L q13) 80 [(0, vr g 25), (1, vr g told)] []
  refine ev_aload_n dX7_learn_80 0 rfl ?_
  refine ev_getsF (host := "HotCakes") dX7_learn_81 (by decide) ?_
  refine ev_aload_n dX7_learn_84 0 rfl ?_
  refine ev_getI 1 dX7_learn_85 (hS.lt (hc 25 rfl)) rfl (hS.mem _ (hc 25 rfl)) ciX7 (by decide) rfl flX7_65 ?_
  refine cl_N1 (As := [vr g 1020, vi (q13 25 1)]) (st := [vr g 25]) (host := "HotCakes") miX11_at (tX11_atF hS (hc.w rfl rfl) (q13 25 1) q13 (o := (fX11_atF (q13 25 1) q13)) rfl) dX7_learn_88 (by decide) stX11_at rfl ⟨⟨Nat.le_of_ble_eq_true rfl, Nat.le_of_ble_eq_true rfl⟩, Nat.zero_le _, Nat.zero_le _⟩ (Nat.le_of_ble_eq_true rfl) ?_
  obtain ⟨μ14, hμ14, hf⟩ := lt_elim hf
  refine ev_putI 3 dX7_learn_91 (hS.lt (hc 25 rfl)) rfl ciX7 (by decide) (Or.inl rfl) rfl rfl flX7_87 (hS.up (hc 25 rfl) hμ14) ?_
  refine ev_iconst dX7_learn_94 ?_
  refine ev_istore_n (al2 := [(2, vi 0), (0, vr g 25), (1, vr g told)]) dX7_learn_95 2 rfl (by decide) rfl ?_
  obtain ⟨q18, hq18, hf⟩ := Option.bind_eq_some_iff.mp hf
  refine ev_sub [1, 2, 0] rfl ?_
  refine loop_ev (H := (fun s : Int × Mem => Ev l D cy g K yX7_learn cX7_learn 4 none (rmd 5 0 0) (MX D cy g K (rmd 5 0 0) Φ) 0 0 M x (L s.2) 96 [(0, vr g 25), (1, vr g told), (2, vi s.1)] [])) (Hx := (fun e : Mem => Ev l D cy g K yX7_learn cX7_learn 4 none (rmd 5 0 0) (MX D cy g K (rmd 5 0 0) Φ) 0 0 M x (L e) 115 [(0, vr g 25), (1, vr g told)] [])) (fun s o hb hr => tX7_learn_b96 hS hc told s.1 s.2 htold hb hr) FU _ _ hq18 ?_
  show Ev l D cy g K yX7_learn cX7_learn 4 none (rmd 5 0 0) (MX D cy g K (rmd 5 0 0) Φ) 0 0 M x (L q18) 115 [(0, vr g 25), (1, vr g told)] []
  refine ev_iconst dX7_learn_115 ?_
  refine ev_istore_n (al2 := [(2, vi 0), (0, vr g 25), (1, vr g told)]) dX7_learn_116 2 rfl (by decide) rfl ?_
  obtain ⟨q25, hq25, hf⟩ := Option.bind_eq_some_iff.mp hf
  refine ev_sub [1, 2, 0] rfl ?_
  refine loop_ev (H := (fun s : Int × Mem => Ev l D cy g K yX7_learn cX7_learn 4 none (rmd 5 0 0) (MX D cy g K (rmd 5 0 0) Φ) 0 0 M x (L s.2) 117 [(0, vr g 25), (1, vr g told), (2, vi s.1)] [])) (Hx := (fun e : Mem => Ev l D cy g K yX7_learn cX7_learn 4 none (rmd 5 0 0) (MX D cy g K (rmd 5 0 0) Φ) 0 0 M x (L e) 153 [(0, vr g 25), (1, vr g told)] [])) (fun s o hb hr => tX7_learn_b117 hS hc told s.1 s.2 htold hb hr) FU _ _ hq25 ?_
  show Ev l D cy g K yX7_learn cX7_learn 4 none (rmd 5 0 0) (MX D cy g K (rmd 5 0 0) Φ) 0 0 M x (L q25) 153 [(0, vr g 25), (1, vr g told)] []
  refine ev_iconst dX7_learn_153 ?_
  refine ev_istore_n (al2 := [(2, vi 1), (0, vr g 25), (1, vr g told)]) dX7_learn_154 2 rfl (by decide) rfl ?_
  obtain ⟨q29, hq29, hf⟩ := Option.bind_eq_some_iff.mp hf
  refine ev_sub [1, 2, 0] rfl ?_
  refine loop_ev (H := (fun s : Int × Mem => Ev l D cy g K yX7_learn cX7_learn 4 none (rmd 5 0 0) (MX D cy g K (rmd 5 0 0) Φ) 0 0 M x (L s.2) 155 [(0, vr g 25), (1, vr g told), (2, vi s.1)] [])) (Hx := (fun e : Mem => Ev l D cy g K yX7_learn cX7_learn 4 none (rmd 5 0 0) (MX D cy g K (rmd 5 0 0) Φ) 0 0 M x (L e) 176 [(0, vr g 25), (1, vr g told)] [])) (fun s o hb hr => tX7_learn_b155 hS hc told s.1 s.2 htold hb hr) FU _ _ hq29 ?_
  show Ev l D cy g K yX7_learn cX7_learn 4 none (rmd 5 0 0) (MX D cy g K (rmd 5 0 0) Φ) 0 0 M x (L q29) 176 [(0, vr g 25), (1, vr g told)] []
  refine ev_iconst dX7_learn_176 ?_
  refine ev_istore_n (al2 := [(2, vi 0), (0, vr g 25), (1, vr g told)]) dX7_learn_177 2 rfl (by decide) rfl ?_
  obtain ⟨q34, hq34, hf⟩ := Option.bind_eq_some_iff.mp hf
  refine ev_sub [1, 2, 0] rfl ?_
  refine loop_ev (H := (fun s : Int × Mem => Ev l D cy g K yX7_learn cX7_learn 4 none (rmd 5 0 0) (MX D cy g K (rmd 5 0 0) Φ) 0 0 M x (L s.2) 178 [(0, vr g 25), (1, vr g told), (2, vi s.1)] [])) (Hx := (fun e : Mem => Ev l D cy g K yX7_learn cX7_learn 4 none (rmd 5 0 0) (MX D cy g K (rmd 5 0 0) Φ) 0 0 M x (L e) 205 [(0, vr g 25)] [])) (fun s o hb hr => tX7_learn_b178 hS hc told s.1 s.2 htold hb hr) FU _ _ hq34 ?_
  show Ev l D cy g K yX7_learn cX7_learn 4 none (rmd 5 0 0) (MX D cy g K (rmd 5 0 0) Φ) 0 0 M x (L q34) 205 [(0, vr g 25)] []
  refine ev_aload_n dX7_learn_205 0 rfl ?_
  refine ev_aload_n dX7_learn_206 0 rfl ?_
  refine ev_aload_n dX7_learn_207 0 rfl ?_
  refine ev_getK 6 dX7_learn_208 (hS.lt (hc 25 rfl)) rfl (hS.K1 (hc 25 rfl) rfl) ciX7 (by decide) rfl flX7_15 ?_
  refine ev_iconst dX7_learn_211 ?_
  obtain ⟨v35, hv35, hf⟩ := Option.bind_eq_some_iff.mp hf
  refine cl_V1 (As := [vr g 27, vi 0]) (st := [vr g 25]) miX7_stackOf (tX7_stackOf hS (hc.w rfl rfl) 27 0 q34 (⟨(hc 27 rfl), rfl⟩) hv35) dX7_learn_212 lkX7_105 inX7_stackOf rfl (hS.lt (hc 25 rfl)) rfl ⟨rfl, rfl⟩ ⟨⟨Nat.le_of_ble_eq_true rfl, Nat.le_of_ble_eq_true rfl⟩, Nat.zero_le _, Nat.zero_le _⟩ (Nat.le_of_ble_eq_true rfl) ?_
  obtain ⟨μ36, hμ36, hf⟩ := lt_elim hf
  refine ev_putI 4 dX7_learn_215 (hS.lt (hc 25 rfl)) rfl ciX7 (by decide) (Or.inl rfl) rfl rfl flX7_108 (hS.up (hc 25 rfl) hμ36) ?_
  obtain rfl := Option.some.inj hf
  exact ev_vret dX7_learn_218 rfl ⟨Nat.zero_le _, Nat.zero_le _⟩ hr
theorem tX7_learn (hS : Sd M K P L) (hc : CIn P 1 39) (told : Nat) (μ : Mem) (htold : isGr told) {o : Mem} (hf : fX7_learn told μ = some o) : Cn l D cy g K K yX7_learn cX7_learn 4 none (rmd 5 0 0) [vr g 25, vr g told] M x (L μ) (PE none M x (L o)) :=
 Cn.of (by decide) (Nat.le_of_ble_eq_true rfl) (eX7_learn hS hc told μ htold hf (PE_i _ _ _ _))
def fX2_ups (k : Nat) (μ : Mem) : Int :=
  (μ k 4)
set_option maxRecDepth 4000 in
theorem eX2_ups (hS : Sd M K P L) (hc : CIn P 1 39) (k : Nat) (μ : Mem) (hk : isGr k) {o : Int} (hf : fX2_ups k μ = o) (hr : (fun o : Int => Φ (some (vi o)) M x (L μ)) o) : Ev l D cy g K yX2_ups cX2_ups 1 (some .int) (rmd 1 0 0) (MX D cy g K (rmd 1 0 0) Φ) 0 0 M x (L μ) 0 [(0, vr g k)] [] := by
  unfold fX2_ups at hf
  refine ev_aload_n dX2_ups_0 0 rfl ?_
  refine ev_getI 4 dX2_ups_1 (hS.lt (hc _ (inR_w (i_Gr0 hk) rfl rfl))) (s_Gr0 hk) (hS.mem _ (hc _ (inR_w (i_Gr0 hk) rfl rfl))) ciX2 (by decide) rfl flX2_38 ?_
  obtain rfl := hf
  exact ev_iret dX2_ups_4 rfl ⟨Nat.zero_le _, Nat.zero_le _⟩ hr
theorem tX2_ups (hS : Sd M K P L) (hc : CIn P 1 39) (k : Nat) (μ : Mem) (hk : isGr k) {o : Int} (hf : fX2_ups k μ = o) : Cn l D cy g K K yX2_ups cX2_ups 1 (some .int) (rmd 1 0 0) [vr g k] M x (L μ) (PE (some (vi o)) M x (L μ)) :=
 Cn.of (by decide) (Nat.le_of_ble_eq_true rfl) (eX2_ups hS hc k μ hk hf (PE_i _ _ _ _))
def fX7_told_b2 (v1 : Int) (μ : Mem) : Option ((Int × Mem) ⊕ (Mem)) :=
  if w32 v1 < w32 (μ 25 1) then
    lt (fX11_put 27 v1 v1 μ) fun μ3 =>
    some (.inl ((v1 + 1), μ3))
  else
    some (.inr μ)
set_option maxRecDepth 4000 in
theorem tX7_told_b2 (hS : Sd M K P L) (hc : CIn P 1 39) (v1 : Int) (μ : Mem)  {o : (Int × Mem) ⊕ (Mem)} (hf : fX7_told_b2 v1 μ = some o) (hr : (Sum.elim (fun s : Int × Mem => Ev l D cy g K yX7_told cX7_told 2 (some .int) (rmd 4 0 0) (MX D cy g K (rmd 4 0 0) Φ) 0 0 M x (L s.2) 2 [(0, vr g 25), (1, vi s.1)] []) (fun e : Mem => Ev l D cy g K yX7_told cX7_told 2 (some .int) (rmd 4 0 0) (MX D cy g K (rmd 4 0 0) Φ) 0 0 M x (L e) 25 [(0, vr g 25)] [])) o) : Ev l D cy g K yX7_told cX7_told 2 (some .int) (rmd 4 0 0) (MX D cy g K (rmd 4 0 0) Φ) 0 0 M x (L μ) 2 [(0, vr g 25), (1, vi v1)] [] := by
  unfold fX7_told_b2 at hf
  refine ev_iload_n dX7_told_2 1 rfl ?_
  refine ev_aload_n dX7_told_3 0 rfl ?_
  refine ev_getI 1 dX7_told_4 (hS.lt (hc 25 rfl)) rfl (hS.mem _ (hc 25 rfl)) ciX7 (by decide) rfl flX7_65 ?_
  refine ev_icmp_ge 25 dX7_told_7 (by decide) (fun h2 => ?_) (fun h2 => ?_)
  · rw [if_neg h2] at hf
    obtain rfl := Option.some.inj hf
    refine ev_sub [0] rfl ?_
    exact hr
  · rw [if_pos h2] at hf
    refine ev_aload_n dX7_told_10 0 rfl ?_
    refine ev_getK 6 dX7_told_11 (hS.lt (hc 25 rfl)) rfl (hS.K1 (hc 25 rfl) rfl) ciX7 (by decide) rfl flX7_15 ?_
    refine ev_iload_n dX7_told_14 1 rfl ?_
    refine ev_iload_n dX7_told_15 1 rfl ?_
    obtain ⟨μ3, hμ3, hf⟩ := lt_elim hf
    refine cl_N0 (As := [vr g 27, vi v1, vi v1]) (st := []) (host := "HotCakes") miX11_put (tX11_put hS (hc.w rfl rfl) 27 v1 v1 μ (⟨(hc 27 rfl), rfl⟩) hμ3.symm) dX7_told_16 (by decide) stX11_put rfl ⟨⟨Nat.le_of_ble_eq_true rfl, Nat.le_of_ble_eq_true rfl⟩, Nat.zero_le _, Nat.zero_le _⟩ (Nat.le_of_ble_eq_true rfl) ?_
    refine ev_iinc (al2 := [(1, vi (v1 + 1)), (0, vr g 25)]) dX7_told_19 1 rfl (by decide) rfl ?_
    refine ev_goto 2 dX7_told_22 (by decide) ?_
    obtain rfl := Option.some.inj hf
    refine ev_sub [1, 0] rfl ?_
    exact hr
def fX7_told  (μ : Mem) : Option (Int × Mem) :=
  (loopN (fun s => fX7_told_b2 s.1 s.2) FU (0, μ)).bind fun q4 =>
  gd (((q4 25 0) = 5 ∨ (q4 25 0) = 15)) <|
  lt (q4 25 0).toNat fun r6 =>
  (fX7_stackOf 27 (q4 r6 4) q4).bind fun v7 =>
  some ((v7, q4))
set_option maxRecDepth 4000 in
theorem eX7_told (hS : Sd M K P L) (hc : CIn P 1 39)  (μ : Mem)  {o : Int × Mem} (hf : fX7_told  μ = some o) (hr : (fun o : Int × Mem => Φ (some (vi o.1)) M x (L o.2)) o) : Ev l D cy g K yX7_told cX7_told 2 (some .int) (rmd 4 0 0) (MX D cy g K (rmd 4 0 0) Φ) 0 0 M x (L μ) 0 [(0, vr g 25)] [] := by
  unfold fX7_told at hf
  refine ev_iconst dX7_told_0 ?_
  refine ev_istore_n (al2 := [(1, vi 0), (0, vr g 25)]) dX7_told_1 1 rfl (by decide) rfl ?_
  obtain ⟨q4, hq4, hf⟩ := Option.bind_eq_some_iff.mp hf
  refine ev_sub [1, 0] rfl ?_
  refine loop_ev (H := (fun s : Int × Mem => Ev l D cy g K yX7_told cX7_told 2 (some .int) (rmd 4 0 0) (MX D cy g K (rmd 4 0 0) Φ) 0 0 M x (L s.2) 2 [(0, vr g 25), (1, vi s.1)] [])) (Hx := (fun e : Mem => Ev l D cy g K yX7_told cX7_told 2 (some .int) (rmd 4 0 0) (MX D cy g K (rmd 4 0 0) Φ) 0 0 M x (L e) 25 [(0, vr g 25)] [])) (fun s o hb hr => tX7_told_b2 hS hc s.1 s.2 hb hr) FU _ _ hq4 ?_
  show Ev l D cy g K yX7_told cX7_told 2 (some .int) (rmd 4 0 0) (MX D cy g K (rmd 4 0 0) Φ) 0 0 M x (L q4) 25 [(0, vr g 25)] []
  refine ev_aload_n dX7_told_25 0 rfl ?_
  refine ev_aload_n dX7_told_26 0 rfl ?_
  refine ev_getK 6 dX7_told_27 (hS.lt (hc 25 rfl)) rfl (hS.K1 (hc 25 rfl) rfl) ciX7 (by decide) rfl flX7_15 ?_
  refine ev_aload_n dX7_told_30 0 rfl ?_
  obtain ⟨g5, hf⟩ := gd_elim hf
  refine ev_getR 0 dX7_told_31 (hS.lt (hc 25 rfl)) rfl (hS.mem _ (hc 25 rfl)) (hS.K0 (hc 25 rfl) rfl) (dy_Gr g5).2 ciX7 (by decide) rfl flX7_55 ?_
  obtain ⟨r6, hr6, hf⟩ := lt_elim hf
  refine ev_rn (congrArg (vr g) hr6) ?_
  have kr6 : isGr r6 := by rw [hr6]; exact (dy_Gr g5).1
  refine cl_V1 (As := []) (st := [vr g 27, vr g 25]) miX2_ups (tX2_ups hS (hc.w rfl rfl) r6 q4 kr6 (o := (q4 r6 4)) rfl) dX7_told_34 lkX7_151 inX2_ups rfl (hS.lt (hc _ (inR_w (i_Gr0 kr6) rfl rfl))) (s_Gr0 kr6) ⟨rfl, rfl⟩ ⟨⟨Nat.le_of_ble_eq_true rfl, Nat.le_of_ble_eq_true rfl⟩, Nat.zero_le _, Nat.zero_le _⟩ (Nat.le_of_ble_eq_true rfl) ?_
  obtain ⟨v7, hv7, hf⟩ := Option.bind_eq_some_iff.mp hf
  refine cl_V1 (As := [vr g 27, vi (q4 r6 4)]) (st := []) miX7_stackOf (tX7_stackOf hS (hc.w rfl rfl) 27 (q4 r6 4) q4 (⟨(hc 27 rfl), rfl⟩) hv7) dX7_told_37 lkX7_105 inX7_stackOf rfl (hS.lt (hc 25 rfl)) rfl ⟨rfl, rfl⟩ ⟨⟨Nat.le_of_ble_eq_true rfl, Nat.le_of_ble_eq_true rfl⟩, Nat.zero_le _, Nat.zero_le _⟩ (Nat.le_of_ble_eq_true rfl) ?_
  obtain rfl := Option.some.inj hf
  exact ev_iret dX7_told_40 rfl ⟨Nat.zero_le _, Nat.zero_le _⟩ hr
theorem tX7_told (hS : Sd M K P L) (hc : CIn P 1 39) (μ : Mem) {o : Int × Mem} (hf : fX7_told μ = some o) : Cn l D cy g K K yX7_told cX7_told 2 (some .int) (rmd 4 0 0) [vr g 25] M x (L μ) (PE (some (vi o.1)) M x (L o.2)) :=
 Cn.of (by decide) (Nat.le_of_ble_eq_true rfl) (eX7_told hS hc μ hf (PE_i _ _ _ _))
def fX5_begin (k : Nat) (told : Int) (μ : Mem) : Mem :=
  lt (upd2 μ k 1 told) fun μ1 =>
  lt (upd2 μ1 k 2 0) fun μ2 =>
  lt (upd2 μ2 k 3 0) fun μ3 =>
  lt (upd2 μ3 k 4 0) fun μ4 =>
  μ4
set_option maxRecDepth 4000 in
theorem eX5_begin (hS : Sd M K P L) (hc : CIn P 1 75) (k : Nat) (told : Int) (μ : Mem) (hk : isMo k) {o : Mem} (hf : fX5_begin k told μ = o) (hr : (fun o : Mem => Φ none M x (L o)) o) : Ev l D cy g K yX5_begin cX5_begin 2 none (rmd 1 0 0) (MX D cy g K (rmd 1 0 0) Φ) 0 0 M x (L μ) 0 [(0, vr g k), (1, vi told)] [] := by
  unfold fX5_begin at hf
  refine ev_aload_n dX5_begin_0 0 rfl ?_
  refine ev_iload_n dX5_begin_1 1 rfl ?_
  obtain ⟨μ1, hμ1, hf⟩ := lt_elim hf
  refine ev_putI 1 dX5_begin_2 (hS.lt (hc _ (inR_w (i_Mo0 hk) rfl rfl))) (s_Mo0 hk) ciX5 (by decide) (Or.inl rfl) rfl rfl flX5_19 (hS.up (hc _ (inR_w (i_Mo0 hk) rfl rfl)) hμ1) ?_
  refine ev_aload_n dX5_begin_5 0 rfl ?_
  refine ev_iconst dX5_begin_6 ?_
  obtain ⟨μ2, hμ2, hf⟩ := lt_elim hf
  refine ev_putI 2 dX5_begin_7 (hS.lt (hc _ (inR_w (i_Mo0 hk) rfl rfl))) (s_Mo0 hk) ciX5 (by decide) (Or.inl rfl) rfl rfl flX5_23 (hS.up (hc _ (inR_w (i_Mo0 hk) rfl rfl)) hμ2) ?_
  refine ev_aload_n dX5_begin_10 0 rfl ?_
  refine ev_iconst dX5_begin_11 ?_
  obtain ⟨μ3, hμ3, hf⟩ := lt_elim hf
  refine ev_putI 3 dX5_begin_12 (hS.lt (hc _ (inR_w (i_Mo0 hk) rfl rfl))) (s_Mo0 hk) ciX5 (by decide) (Or.inl rfl) rfl rfl flX5_26 (hS.up (hc _ (inR_w (i_Mo0 hk) rfl rfl)) hμ3) ?_
  refine ev_aload_n dX5_begin_15 0 rfl ?_
  refine ev_iconst dX5_begin_16 ?_
  obtain ⟨μ4, hμ4, hf⟩ := lt_elim hf
  refine ev_putI 4 dX5_begin_17 (hS.lt (hc _ (inR_w (i_Mo0 hk) rfl rfl))) (s_Mo0 hk) ciX5 (by decide) (Or.inl rfl) rfl rfl flX5_29 (hS.up (hc _ (inR_w (i_Mo0 hk) rfl rfl)) hμ4) ?_
  obtain rfl := hf
  exact ev_vret dX5_begin_20 rfl ⟨Nat.zero_le _, Nat.zero_le _⟩ hr
theorem tX5_begin (hS : Sd M K P L) (hc : CIn P 1 75) (k : Nat) (told : Int) (μ : Mem) (hk : isMo k) {o : Mem} (hf : fX5_begin k told μ = o) : Cn l D cy g K K yX5_begin cX5_begin 2 none (rmd 1 0 0) [vr g k, vi told] M x (L μ) (PE none M x (L o)) :=
 Cn.of (by decide) (Nat.le_of_ble_eq_true rfl) (eX5_begin hS hc k told μ hk hf (PE_i _ _ _ _))
def fX9_addSign (sign : Int) (μ : Mem) : Mem :=
  lt (if w32 sign = w32 10 then
      true
    else
      if w32 sign < w32 32 then
        false
      else
        if w32 sign ≤ w32 126 then
          true
        else
          false) fun v1 =>
  if v1 = true then
    if w32 (μ 1 1) < 0 then
      μ
    else
      if w32 (μ 1 1) < w32 1000 then
        lt (upd2 μ 2 ((w32 (μ 1 1)).toNat) sign) fun μ8 =>
        lt (upd2 μ8 1 1 ((μ8 1 1) + 1)) fun μ9 =>
        μ9
      else
        μ
  else
    μ
set_option maxRecDepth 4000 in
theorem eX9_addSign (hS : Sd M K P L) (hc : CIn P 1 3) (sign : Int) (μ : Mem)  {o : Mem} (hf : fX9_addSign sign μ = o) (hr : (fun o : Mem => Φ none M x (L o)) o) : Ev l D cy g K yX9_addSign cX9_addSign 3 none (rmd 1 0 0) (MX D cy g K (rmd 1 0 0) Φ) 0 0 M x (L μ) 0 [(0, vr g 1), (1, vi sign)] [] := by
  unfold fX9_addSign at hf
  refine ev_iload_n dX9_addSign_0 1 rfl ?_
  refine ev_bipush dX9_addSign_1 (by decide) ?_
  obtain ⟨v1, hv1, hf⟩ := lt_elim hf
  have hJv1 : Ev l D cy g K yX9_addSign cX9_addSign 3 none (rmd 1 0 0) (MX D cy g K (rmd 1 0 0) Φ) 0 0 M x (L μ) 23 [(0, vr g 1), (1, vi sign)] [vb v1] := by
    refine ev_istore_n (al2 := [(2, vb v1), (0, vr g 1), (1, vi sign)]) dX9_addSign_23 2 rfl (by decide) rfl ?_
    refine ev_iload_n dX9_addSign_24 0 rfl ?_
    refine ev_ifb_eq 68 dX9_addSign_25 (by decide) (fun h5 => ?_) (fun h5 => ?_)
    · rw [if_neg h5] at hf
      obtain rfl := hf
      exact ev_vret dX9_addSign_68 rfl ⟨Nat.zero_le _, Nat.zero_le _⟩ hr
    · rw [if_pos h5] at hf
      refine ev_aload_n dX9_addSign_28 1 rfl ?_
      refine ev_getI 1 dX9_addSign_29 (hS.lt (hc 1 rfl)) rfl (hS.mem _ (hc 1 rfl)) ciX9 (by decide) rfl flX9_34 ?_
      refine ev_if_lt 68 dX9_addSign_32 (by decide) (fun h6 => ?_) (fun h6 => ?_)
      · rw [if_pos h6] at hf
        obtain rfl := hf
        exact ev_vret dX9_addSign_68 rfl ⟨Nat.zero_le _, Nat.zero_le _⟩ hr
      · rw [if_neg h6] at hf
        refine ev_aload_n dX9_addSign_35 1 rfl ?_
        refine ev_getI 1 dX9_addSign_36 (hS.lt (hc 1 rfl)) rfl (hS.mem _ (hc 1 rfl)) ciX9 (by decide) rfl flX9_34 ?_
        refine ev_aload_n dX9_addSign_39 1 rfl ?_
        refine ev_getK 0 dX9_addSign_40 (hS.lt (hc 1 rfl)) rfl (hS.K1 (hc 1 rfl) rfl) ciX9 (by decide) rfl flX9_9 ?_
        refine ev_alen dX9_addSign_43 (hS.lt (hc 2 rfl)) rfl (by decide) ?_
        refine ev_rn (w := vi 1000) rfl ?_
        refine ev_icmp_ge 68 dX9_addSign_44 (by decide) (fun h7 => ?_) (fun h7 => ?_)
        · rw [if_neg h7] at hf
          obtain rfl := hf
          exact ev_vret dX9_addSign_68 rfl ⟨Nat.zero_le _, Nat.zero_le _⟩ hr
        · rw [if_pos h7] at hf
          refine ev_aload_n dX9_addSign_47 1 rfl ?_
          refine ev_getK 0 dX9_addSign_48 (hS.lt (hc 1 rfl)) rfl (hS.K1 (hc 1 rfl) rfl) ciX9 (by decide) rfl flX9_9 ?_
          refine ev_aload_n dX9_addSign_51 1 rfl ?_
          refine ev_getI 1 dX9_addSign_52 (hS.lt (hc 1 rfl)) rfl (hS.mem _ (hc 1 rfl)) ciX9 (by decide) rfl flX9_34 ?_
          refine ev_iload_n dX9_addSign_55 2 rfl ?_
          refine ev_i2c dX9_addSign_56 ?_
          rw [i2c_eq]
          obtain ⟨μ8, hμ8, hf⟩ := lt_elim hf
          refine ev_cast dX9_addSign_57 (hS.lt (hc 2 rfl)) rfl ⟨by omega, by have h9 : w32 1000 = 1000 := (by decide); omega⟩ (hS.up (hc 2 rfl) hμ8) ?_
          refine ev_aload_n dX9_addSign_58 1 rfl ?_
          refine ev_dup dX9_addSign_59 rfl ?_
          refine ev_getI 1 dX9_addSign_60 (hS.lt (hc 1 rfl)) rfl (hS.mem _ (hc 1 rfl)) ciX9 (by decide) rfl flX9_34 ?_
          refine ev_iconst dX9_addSign_63 ?_
          refine ev_iadd dX9_addSign_64 ?_
          obtain ⟨μ9, hμ9, hf⟩ := lt_elim hf
          refine ev_putI 1 dX9_addSign_65 (hS.lt (hc 1 rfl)) rfl ciX9 (by decide) (Or.inl rfl) rfl rfl flX9_34 (hS.up (hc 1 rfl) hμ9) ?_
          obtain rfl := hf
          exact ev_vret dX9_addSign_68 rfl ⟨Nat.zero_le _, Nat.zero_le _⟩ hr
  refine ev_icmp_eq 18 dX9_addSign_3 (by decide) (fun h2 => ?_) (fun h2 => ?_)
  · refine ev_iconst dX9_addSign_18 ?_
    refine ev_goto 23 dX9_addSign_19 (by decide) ?_
    have e9 : v1 = true := hv1.trans ((if_pos h2))
    subst e9
    exact hJv1
  · refine ev_iload_n dX9_addSign_6 1 rfl ?_
    refine ev_bipush dX9_addSign_7 (by decide) ?_
    refine ev_icmp_lt 22 dX9_addSign_9 (by decide) (fun h3 => ?_) (fun h3 => ?_)
    · refine ev_iconst dX9_addSign_22 ?_
      have e9 : v1 = false := hv1.trans (((if_neg h2)).trans (if_pos h3))
      subst e9
      exact hJv1
    · refine ev_iload_n dX9_addSign_12 1 rfl ?_
      refine ev_bipush dX9_addSign_13 (by decide) ?_
      refine ev_icmp_gt 22 dX9_addSign_15 (by decide) (fun h4 => ?_) (fun h4 => ?_)
      · refine ev_iconst dX9_addSign_22 ?_
        have e9 : v1 = false := hv1.trans (((if_neg h2)).trans (((if_neg h3)).trans (if_neg h4)))
        subst e9
        exact hJv1
      · refine ev_iconst dX9_addSign_18 ?_
        refine ev_goto 23 dX9_addSign_19 (by decide) ?_
        have e9 : v1 = true := hv1.trans (((if_neg h2)).trans (((if_neg h3)).trans (if_pos h4)))
        subst e9
        exact hJv1
theorem tX9_addSign (hS : Sd M K P L) (hc : CIn P 1 3) (sign : Int) (μ : Mem) {o : Mem} (hf : fX9_addSign sign μ = o) : Cn l D cy g K K yX9_addSign cX9_addSign 3 none (rmd 1 0 0) [vr g 1, vi sign] M x (L μ) (PE none M x (L o)) :=
 Cn.of (by decide) (Nat.le_of_ble_eq_true rfl) (eX9_addSign hS hc sign μ hf (PE_i _ _ _ _))
def fX9_addBytes_b3 (bytes : Int) (v1 : Int) (μ : Mem) : Option ((Int × Mem) ⊕ (Mem)) :=
  if w32 v1 < 0 then
    some (.inr μ)
  else
    lt (fX9_addSign (l_2i (l_and (l_ushr bytes v1) 255)) μ) fun μ3 =>
    some (.inl ((v1 + (-8)), μ3))
set_option maxRecDepth 4000 in
theorem tX9_addBytes_b3 (hS : Sd M K P L) (hc : CIn P 1 3) (bytes : Int) (v1 : Int) (μ : Mem)  {o : (Int × Mem) ⊕ (Mem)} (hf : fX9_addBytes_b3 bytes v1 μ = some o) (hr : (Sum.elim (fun s : Int × Mem => Ev l D cy g K yX9_addBytes cX9_addBytes 4 none (rmd 2 0 0) (MX D cy g K (rmd 2 0 0) Φ) 0 0 M x (L s.2) 3 [(0, vr g 1), (1, vl bytes), (3, vi s.1)] []) (fun e : Mem => Ev l D cy g K yX9_addBytes cX9_addBytes 4 none (rmd 2 0 0) (MX D cy g K (rmd 2 0 0) Φ) 0 0 M x (L e) 25 [] [])) o) : Ev l D cy g K yX9_addBytes cX9_addBytes 4 none (rmd 2 0 0) (MX D cy g K (rmd 2 0 0) Φ) 0 0 M x (L μ) 3 [(0, vr g 1), (1, vl bytes), (3, vi v1)] [] := by
  unfold fX9_addBytes_b3 at hf
  refine ev_iload_n dX9_addBytes_3 2 rfl ?_
  refine ev_if_lt 25 dX9_addBytes_4 (by decide) (fun h2 => ?_) (fun h2 => ?_)
  · rw [if_pos h2] at hf
    obtain rfl := Option.some.inj hf
    refine ev_sub [] rfl ?_
    exact hr
  · rw [if_neg h2] at hf
    refine ev_aload_n dX9_addBytes_7 0 rfl ?_
    refine ev_lload_n dX9_addBytes_8 1 rfl ?_
    refine ev_iload_n dX9_addBytes_9 2 rfl ?_
    refine ev_lushr dX9_addBytes_10 ?_
    refine ev_ldc2 255 dX9_addBytes_11 klX9_28 (by decide) ?_
    refine ev_land dX9_addBytes_14 ?_
    refine ev_l2i dX9_addBytes_15 ?_
    obtain ⟨μ3, hμ3, hf⟩ := lt_elim hf
    refine cl_V0 (As := [vi (l_2i (l_and (l_ushr bytes v1) 255))]) (st := []) miX9_addSign (tX9_addSign hS (hc.w rfl rfl) (l_2i (l_and (l_ushr bytes v1) 255)) μ hμ3.symm) dX9_addBytes_16 lkX9_30 inX9_addSign rfl (hS.lt (hc 1 rfl)) rfl ⟨rfl, rfl⟩ ⟨⟨Nat.le_of_ble_eq_true rfl, Nat.le_of_ble_eq_true rfl⟩, Nat.zero_le _, Nat.zero_le _⟩ (Nat.le_of_ble_eq_true rfl) ?_
    refine ev_iinc (al2 := [(3, vi (v1 + (-8))), (0, vr g 1), (1, vl bytes)]) dX9_addBytes_19 2 rfl (by decide) rfl ?_
    refine ev_goto 3 dX9_addBytes_22 (by decide) ?_
    obtain rfl := Option.some.inj hf
    refine ev_sub [1, 2, 0] rfl ?_
    exact hr
def fX9_addBytes (bytes : Int) (μ : Mem) : Option (Mem) :=
  (loopN (fun s => fX9_addBytes_b3 bytes s.1 s.2) FU (56, μ)).bind fun q4 =>
  some (q4)
set_option maxRecDepth 4000 in
theorem eX9_addBytes (hS : Sd M K P L) (hc : CIn P 1 3) (bytes : Int) (μ : Mem)  {o : Mem} (hf : fX9_addBytes bytes μ = some o) (hr : (fun o : Mem => Φ none M x (L o)) o) : Ev l D cy g K yX9_addBytes cX9_addBytes 4 none (rmd 2 0 0) (MX D cy g K (rmd 2 0 0) Φ) 0 0 M x (L μ) 0 [(0, vr g 1), (1, vl bytes)] [] := by
  unfold fX9_addBytes at hf
  refine ev_bipush dX9_addBytes_0 (by decide) ?_
  refine ev_istore_n (al2 := [(3, vi 56), (0, vr g 1), (1, vl bytes)]) dX9_addBytes_2 3 rfl (by decide) rfl ?_
  obtain ⟨q4, hq4, hf⟩ := Option.bind_eq_some_iff.mp hf
  refine ev_sub [1, 2, 0] rfl ?_
  refine loop_ev (H := (fun s : Int × Mem => Ev l D cy g K yX9_addBytes cX9_addBytes 4 none (rmd 2 0 0) (MX D cy g K (rmd 2 0 0) Φ) 0 0 M x (L s.2) 3 [(0, vr g 1), (1, vl bytes), (3, vi s.1)] [])) (Hx := (fun e : Mem => Ev l D cy g K yX9_addBytes cX9_addBytes 4 none (rmd 2 0 0) (MX D cy g K (rmd 2 0 0) Φ) 0 0 M x (L e) 25 [] [])) (fun s o hb hr => tX9_addBytes_b3 hS hc bytes s.1 s.2 hb hr) FU _ _ hq4 ?_
  show Ev l D cy g K yX9_addBytes cX9_addBytes 4 none (rmd 2 0 0) (MX D cy g K (rmd 2 0 0) Φ) 0 0 M x (L q4) 25 [] []
  obtain rfl := Option.some.inj hf
  exact ev_vret dX9_addBytes_25 rfl ⟨Nat.zero_le _, Nat.zero_le _⟩ hr
theorem tX9_addBytes (hS : Sd M K P L) (hc : CIn P 1 3) (bytes : Int) (μ : Mem) {o : Mem} (hf : fX9_addBytes bytes μ = some o) : Cn l D cy g K K yX9_addBytes cX9_addBytes 4 none (rmd 2 0 0) [vr g 1, vl bytes] M x (L μ) (PE none M x (L o)) :=
 Cn.of (by decide) (Nat.le_of_ble_eq_true rfl) (eX9_addBytes hS hc bytes μ hf (PE_i _ _ _ _))
def fX9_signs  (μ : Mem) : Int :=
  (μ 1 1)
set_option maxRecDepth 4000 in
theorem eX9_signs (hS : Sd M K P L) (hc : CIn P 1 2)  (μ : Mem)  {o : Int} (hf : fX9_signs  μ = o) (hr : (fun o : Int => Φ (some (vi o)) M x (L μ)) o) : Ev l D cy g K yX9_signs cX9_signs 1 (some .int) (rmd 1 0 0) (MX D cy g K (rmd 1 0 0) Φ) 0 0 M x (L μ) 0 [(0, vr g 1)] [] := by
  unfold fX9_signs at hf
  refine ev_aload_n dX9_signs_0 0 rfl ?_
  refine ev_getI 1 dX9_signs_1 (hS.lt (hc 1 rfl)) rfl (hS.mem _ (hc 1 rfl)) ciX9 (by decide) rfl flX9_34 ?_
  obtain rfl := hf
  exact ev_iret dX9_signs_4 rfl ⟨Nat.zero_le _, Nat.zero_le _⟩ hr
theorem tX9_signs (hS : Sd M K P L) (hc : CIn P 1 2) (μ : Mem) {o : Int} (hf : fX9_signs μ = o) : Cn l D cy g K K yX9_signs cX9_signs 1 (some .int) (rmd 1 0 0) [vr g 1] M x (L μ) (PE (some (vi o)) M x (L μ)) :=
 Cn.of (by decide) (Nat.le_of_ble_eq_true rfl) (eX9_signs hS hc μ hf (PE_i _ _ _ _))
def fX11_feed (a0 : Int) (b0 : Int) (c0 : Int) (μ : Mem) : Option (Int × Mem) :=
  (fX9_addBytes a0 μ).bind fun μ1 =>
  (fX9_addBytes b0 μ1).bind fun μ2 =>
  (fX9_addBytes c0 μ2).bind fun μ3 =>
  some (((μ3 1 1), μ3))
set_option maxRecDepth 4000 in
theorem eX11_feed (hS : Sd M K P L) (hc : CIn P 0 3) (a0 : Int) (b0 : Int) (c0 : Int) (μ : Mem)  {o : Int × Mem} (hf : fX11_feed a0 b0 c0 μ = some o) (hr : (fun o : Int × Mem => Φ (some (vi o.1)) M x (L o.2)) o) : Ev l D cy g K yX11_feed cX11_feed 7 (some .int) (rmd 3 0 0) (MX D cy g K (rmd 3 0 0) Φ) 0 0 M x (L μ) 0 [(0, vr g 0), (1, vl a0), (3, vl b0), (5, vl c0)] [] := by
  unfold fX11_feed at hf
  refine ev_aload_n dX11_feed_0 0 rfl ?_
  refine ev_getK 0 dX11_feed_1 (hS.lt (hc 0 rfl)) rfl (hS.K1 (hc 0 rfl) rfl) ciX11 (by decide) rfl flX11_10 ?_
  refine ev_lload_n dX11_feed_4 1 rfl ?_
  obtain ⟨μ1, hμ1, hf⟩ := Option.bind_eq_some_iff.mp hf
  refine cl_V0 (As := [vl a0]) (st := []) miX9_addBytes (tX9_addBytes hS (hc.w rfl rfl) a0 μ hμ1) dX11_feed_5 lkX11_116 inX9_addBytes rfl (hS.lt (hc 1 rfl)) rfl ⟨rfl, rfl⟩ ⟨⟨Nat.le_of_ble_eq_true rfl, Nat.le_of_ble_eq_true rfl⟩, Nat.zero_le _, Nat.zero_le _⟩ (Nat.le_of_ble_eq_true rfl) ?_
  refine ev_aload_n dX11_feed_8 0 rfl ?_
  refine ev_getK 0 dX11_feed_9 (hS.lt (hc 0 rfl)) rfl (hS.K1 (hc 0 rfl) rfl) ciX11 (by decide) rfl flX11_10 ?_
  refine ev_lload_n dX11_feed_12 2 rfl ?_
  obtain ⟨μ2, hμ2, hf⟩ := Option.bind_eq_some_iff.mp hf
  refine cl_V0 (As := [vl b0]) (st := []) miX9_addBytes (tX9_addBytes hS (hc.w rfl rfl) b0 μ1 hμ2) dX11_feed_13 lkX11_116 inX9_addBytes rfl (hS.lt (hc 1 rfl)) rfl ⟨rfl, rfl⟩ ⟨⟨Nat.le_of_ble_eq_true rfl, Nat.le_of_ble_eq_true rfl⟩, Nat.zero_le _, Nat.zero_le _⟩ (Nat.le_of_ble_eq_true rfl) ?_
  refine ev_aload_n dX11_feed_16 0 rfl ?_
  refine ev_getK 0 dX11_feed_17 (hS.lt (hc 0 rfl)) rfl (hS.K1 (hc 0 rfl) rfl) ciX11 (by decide) rfl flX11_10 ?_
  refine ev_lload dX11_feed_20 3 rfl ?_
  obtain ⟨μ3, hμ3, hf⟩ := Option.bind_eq_some_iff.mp hf
  refine cl_V0 (As := [vl c0]) (st := []) miX9_addBytes (tX9_addBytes hS (hc.w rfl rfl) c0 μ2 hμ3) dX11_feed_22 lkX11_116 inX9_addBytes rfl (hS.lt (hc 1 rfl)) rfl ⟨rfl, rfl⟩ ⟨⟨Nat.le_of_ble_eq_true rfl, Nat.le_of_ble_eq_true rfl⟩, Nat.zero_le _, Nat.zero_le _⟩ (Nat.le_of_ble_eq_true rfl) ?_
  refine ev_aload_n dX11_feed_25 0 rfl ?_
  refine ev_getK 0 dX11_feed_26 (hS.lt (hc 0 rfl)) rfl (hS.K1 (hc 0 rfl) rfl) ciX11 (by decide) rfl flX11_10 ?_
  refine cl_V1 (As := []) (st := []) miX9_signs (tX9_signs hS (hc.w rfl rfl) μ3 (o := (μ3 1 1)) rfl) dX11_feed_29 lkX11_120 inX9_signs rfl (hS.lt (hc 1 rfl)) rfl ⟨rfl, rfl⟩ ⟨⟨Nat.le_of_ble_eq_true rfl, Nat.le_of_ble_eq_true rfl⟩, Nat.zero_le _, Nat.zero_le _⟩ (Nat.le_of_ble_eq_true rfl) ?_
  obtain rfl := Option.some.inj hf
  exact ev_iret dX11_feed_32 rfl ⟨Nat.zero_le _, Nat.zero_le _⟩ hr
theorem tX11_feed (hS : Sd M K P L) (hc : CIn P 0 3) (a0 : Int) (b0 : Int) (c0 : Int) (μ : Mem) {o : Int × Mem} (hf : fX11_feed a0 b0 c0 μ = some o) : Cn l D cy g K K yX11_feed cX11_feed 7 (some .int) (rmd 3 0 0) [vr g 0, vl a0, vl b0, vl c0] M x (L μ) (PE (some (vi o.1)) M x (L o.2)) :=
 Cn.of (by decide) (Nat.le_of_ble_eq_true rfl) (eX11_feed hS hc a0 b0 c0 μ hf (PE_i _ _ _ _))
def fX3_clear (k : Nat) (μ : Mem) : Mem :=
  lt (upd2 μ k 3 0) fun μ1 =>
  lt (upd2 μ1 k 5 0) fun μ2 =>
  μ2
set_option maxRecDepth 4000 in
theorem eX3_clear (hS : Sd M K P L) (hc : CIn P 1 39) (k : Nat) (μ : Mem) (hk : isLw k) {o : Mem} (hf : fX3_clear k μ = o) (hr : (fun o : Mem => Φ none M x (L o)) o) : Ev l D cy g K yX3_clear cX3_clear 1 none (rmd 1 0 0) (MX D cy g K (rmd 1 0 0) Φ) 0 0 M x (L μ) 0 [(0, vr g k)] [] := by
  unfold fX3_clear at hf
  refine ev_aload_n dX3_clear_0 0 rfl ?_
  refine ev_iconst dX3_clear_1 ?_
  obtain ⟨μ1, hμ1, hf⟩ := lt_elim hf
  refine ev_putI 3 dX3_clear_2 (hS.lt (hc _ (inR_w (i_Lw0 hk) rfl rfl))) (s_Lw0 hk) ciX3 (by decide) (Or.inl rfl) rfl rfl flX3_22 (hS.up (hc _ (inR_w (i_Lw0 hk) rfl rfl)) hμ1) ?_
  refine ev_aload_n dX3_clear_5 0 rfl ?_
  refine ev_iconst dX3_clear_6 ?_
  obtain ⟨μ2, hμ2, hf⟩ := lt_elim hf
  refine ev_putZ (b := false) 5 dX3_clear_7 (hS.lt (hc _ (inR_w (i_Lw0 hk) rfl rfl))) (s_Lw0 hk) ciX3 (by decide) (Or.inl rfl) rfl rfl flX3_25 (hS.up (hc _ (inR_w (i_Lw0 hk) rfl rfl)) hμ2) ?_
  obtain rfl := hf
  exact ev_vret dX3_clear_10 rfl ⟨Nat.zero_le _, Nat.zero_le _⟩ hr
theorem tX3_clear (hS : Sd M K P L) (hc : CIn P 1 39) (k : Nat) (μ : Mem) (hk : isLw k) {o : Mem} (hf : fX3_clear k μ = o) : Cn l D cy g K K yX3_clear cX3_clear 1 none (rmd 1 0 0) [vr g k] M x (L μ) (PE none M x (L o)) :=
 Cn.of (by decide) (Nat.le_of_ble_eq_true rfl) (eX3_clear hS hc k μ hk hf (PE_i _ _ _ _))
def fX2_clear (k : Nat) (μ : Mem) : Mem :=
  lt (upd2 μ k 0 0) fun μ1 =>
  lt (upd2 μ1 k 4 0) fun μ2 =>
  lt (fX3_clear (k + 4) μ2) fun μ3 =>
  lt (fX3_clear (k + 7) μ3) fun μ4 =>
  μ4
set_option maxRecDepth 4000 in
theorem eX2_clear (hS : Sd M K P L) (hc : CIn P 1 39) (k : Nat) (μ : Mem) (hk : isGr k) {o : Mem} (hf : fX2_clear k μ = o) (hr : (fun o : Mem => Φ none M x (L o)) o) : Ev l D cy g K yX2_clear cX2_clear 1 none (rmd 2 0 0) (MX D cy g K (rmd 2 0 0) Φ) 0 0 M x (L μ) 0 [(0, vr g k)] [] := by
  unfold fX2_clear at hf
  refine ev_aload_n dX2_clear_0 0 rfl ?_
  refine ev_iconst dX2_clear_1 ?_
  obtain ⟨μ1, hμ1, hf⟩ := lt_elim hf
  refine ev_putI 0 dX2_clear_2 (hS.lt (hc _ (inR_w (i_Gr0 hk) rfl rfl))) (s_Gr0 hk) ciX2 (by decide) (Or.inl rfl) rfl rfl flX2_34 (hS.up (hc _ (inR_w (i_Gr0 hk) rfl rfl)) hμ1) ?_
  refine ev_aload_n dX2_clear_5 0 rfl ?_
  refine ev_iconst dX2_clear_6 ?_
  obtain ⟨μ2, hμ2, hf⟩ := lt_elim hf
  refine ev_putI 4 dX2_clear_7 (hS.lt (hc _ (inR_w (i_Gr0 hk) rfl rfl))) (s_Gr0 hk) ciX2 (by decide) (Or.inl rfl) rfl rfl flX2_38 (hS.up (hc _ (inR_w (i_Gr0 hk) rfl rfl)) hμ2) ?_
  refine ev_aload_n dX2_clear_10 0 rfl ?_
  refine ev_getK 5 dX2_clear_11 (hS.lt (hc _ (inR_w (i_Gr0 hk) rfl rfl))) (s_Gr0 hk) (hS.K1 (hc _ (inR_w (i_Gr0 hk) rfl rfl)) (K_Gr5 hk)) ciX2 (by decide) rfl flX2_27 ?_
  obtain ⟨μ3, hμ3, hf⟩ := lt_elim hf
  refine cl_V0 (As := []) (st := []) miX3_clear (tX3_clear hS (hc.w rfl rfl) (k + 4) μ2 (lw_Gr4 hk) hμ3.symm) dX2_clear_14 lkX2_41 inX3_clear rfl (hS.lt (hc _ (inR_w (i_Lw0 (lw_Gr4 hk)) rfl rfl))) (s_Lw0 (lw_Gr4 hk)) ⟨rfl, rfl⟩ ⟨⟨Nat.le_of_ble_eq_true rfl, Nat.le_of_ble_eq_true rfl⟩, Nat.zero_le _, Nat.zero_le _⟩ (Nat.le_of_ble_eq_true rfl) ?_
  refine ev_aload_n dX2_clear_17 0 rfl ?_
  refine ev_getK 6 dX2_clear_18 (hS.lt (hc _ (inR_w (i_Gr0 hk) rfl rfl))) (s_Gr0 hk) (hS.K1 (hc _ (inR_w (i_Gr0 hk) rfl rfl)) (K_Gr6 hk)) ciX2 (by decide) rfl flX2_31 ?_
  obtain ⟨μ4, hμ4, hf⟩ := lt_elim hf
  refine cl_V0 (As := []) (st := []) miX3_clear (tX3_clear hS (hc.w rfl rfl) (k + 7) μ3 (lw_Gr7 hk) hμ4.symm) dX2_clear_21 lkX2_41 inX3_clear rfl (hS.lt (hc _ (inR_w (i_Lw0 (lw_Gr7 hk)) rfl rfl))) (s_Lw0 (lw_Gr7 hk)) ⟨rfl, rfl⟩ ⟨⟨Nat.le_of_ble_eq_true rfl, Nat.le_of_ble_eq_true rfl⟩, Nat.zero_le _, Nat.zero_le _⟩ (Nat.le_of_ble_eq_true rfl) ?_
  obtain rfl := hf
  exact ev_vret dX2_clear_24 rfl ⟨Nat.zero_le _, Nat.zero_le _⟩ hr
theorem tX2_clear (hS : Sd M K P L) (hc : CIn P 1 39) (k : Nat) (μ : Mem) (hk : isGr k) {o : Mem} (hf : fX2_clear k μ = o) : Cn l D cy g K K yX2_clear cX2_clear 1 none (rmd 2 0 0) [vr g k] M x (L μ) (PE none M x (L o)) :=
 Cn.of (by decide) (Nat.le_of_ble_eq_true rfl) (eX2_clear hS hc k μ hk hf (PE_i _ _ _ _))
def fX9_signAt (i0 : Int) (μ : Mem) : Int :=
  lt (if w32 i0 < 0 then
      32
    else
      if w32 i0 < w32 (μ 1 1) then
        if w32 i0 < w32 1000 then
          ((μ 2 (w32 i0).toNat) % 65536)
        else
          32
      else
        32) fun v1 =>
  v1
set_option maxRecDepth 4000 in
theorem eX9_signAt (hS : Sd M K P L) (hc : CIn P 1 3) (i0 : Int) (μ : Mem)  {o : Int} (hf : fX9_signAt i0 μ = o) (hr : (fun o : Int => Φ (some (vi o)) M x (L μ)) o) : Ev l D cy g K yX9_signAt cX9_signAt 2 (some .char) (rmd 1 0 0) (MX D cy g K (rmd 1 0 0) Φ) 0 0 M x (L μ) 0 [(0, vr g 1), (1, vi i0)] [] := by
  unfold fX9_signAt at hf
  refine ev_iload_n dX9_signAt_0 1 rfl ?_
  obtain ⟨v1, hv1, hf⟩ := lt_elim hf
  have hJv1 : Ev l D cy g K yX9_signAt cX9_signAt 2 (some .char) (rmd 1 0 0) (MX D cy g K (rmd 1 0 0) Φ) 0 0 M x (L μ) 32 [(0, vr g 1), (1, vi i0)] [vi v1] := by
    obtain rfl := hf
    exact ev_cret dX9_signAt_32 rfl ⟨Nat.zero_le _, Nat.zero_le _⟩ (by rw [hv1]; (repeat' split); all_goals first | decide | exact ⟨by decide, by decide⟩ | exact ⟨by decide, by decide⟩ | exact ⟨by decide, by decide⟩ | exact (c_rng _)) hr
  refine ev_if_lt 30 dX9_signAt_1 (by decide) (fun h2 => ?_) (fun h2 => ?_)
  · refine ev_bipush dX9_signAt_30 (by decide) ?_
    have e9 : v1 = 32 := hv1.trans ((if_pos h2))
    subst e9
    exact hJv1
  · refine ev_iload_n dX9_signAt_4 1 rfl ?_
    refine ev_aload_n dX9_signAt_5 0 rfl ?_
    refine ev_getI 1 dX9_signAt_6 (hS.lt (hc 1 rfl)) rfl (hS.mem _ (hc 1 rfl)) ciX9 (by decide) rfl flX9_34 ?_
    refine ev_icmp_ge 30 dX9_signAt_9 (by decide) (fun h3 => ?_) (fun h3 => ?_)
    · refine ev_bipush dX9_signAt_30 (by decide) ?_
      have e9 : v1 = 32 := hv1.trans (((if_neg h2)).trans (if_neg h3))
      subst e9
      exact hJv1
    · refine ev_iload_n dX9_signAt_12 1 rfl ?_
      refine ev_aload_n dX9_signAt_13 0 rfl ?_
      refine ev_getK 0 dX9_signAt_14 (hS.lt (hc 1 rfl)) rfl (hS.K1 (hc 1 rfl) rfl) ciX9 (by decide) rfl flX9_9 ?_
      refine ev_alen dX9_signAt_17 (hS.lt (hc 2 rfl)) rfl (by decide) ?_
      refine ev_rn (w := vi 1000) rfl ?_
      refine ev_icmp_ge 30 dX9_signAt_18 (by decide) (fun h4 => ?_) (fun h4 => ?_)
      · refine ev_bipush dX9_signAt_30 (by decide) ?_
        have e9 : v1 = 32 := hv1.trans (((if_neg h2)).trans (((if_pos h3)).trans (if_neg h4)))
        subst e9
        exact hJv1
      · refine ev_aload_n dX9_signAt_21 0 rfl ?_
        refine ev_getK 0 dX9_signAt_22 (hS.lt (hc 1 rfl)) rfl (hS.K1 (hc 1 rfl) rfl) ciX9 (by decide) rfl flX9_9 ?_
        refine ev_iload_n dX9_signAt_25 1 rfl ?_
        refine ev_cald dX9_signAt_26 (hS.lt (hc 2 rfl)) rfl (hS.mem _ (hc 2 rfl)) ⟨by omega, by have h9 : w32 1000 = 1000 := (by decide); omega⟩ ?_
        refine ev_goto 32 dX9_signAt_27 (by decide) ?_
        have e9 : v1 = ((μ 2 (w32 i0).toNat) % 65536) := hv1.trans (((if_neg h2)).trans (((if_pos h3)).trans (if_pos h4)))
        subst e9
        exact hJv1
theorem tX9_signAt (hS : Sd M K P L) (hc : CIn P 1 3) (i0 : Int) (μ : Mem) {o : Int} (hf : fX9_signAt i0 μ = o) : Cn l D cy g K K yX9_signAt cX9_signAt 2 (some .char) (rmd 1 0 0) [vr g 1, vi i0] M x (L μ) (PE (some (vi o)) M x (L μ)) :=
 Cn.of (by decide) (Nat.le_of_ble_eq_true rfl) (eX9_signAt hS hc i0 μ hf (PE_i _ _ _ _))
theorem rng_fX9_signAt (i : Int) (μ : Mem) : 0 ≤ fX9_signAt i μ ∧ fX9_signAt i μ < 65536 := by
  unfold fX9_signAt lt
  dsimp only
  repeat' split
  all_goals first | decide | omega
def fX9_isBlank (sign : Int) : Bool :=
  lt (if w32 sign = w32 10 then
      true
    else
      if w32 sign = w32 32 then
        true
      else
        false) fun v1 =>
  v1
set_option maxRecDepth 4000 in
theorem eX9_isBlank  (sign : Int) (μ : Mem)  {o : Bool} (hf : fX9_isBlank sign = o) (hr : (fun o : Bool => Φ (some (vb o)) M x μ) o) : Ev l D cy g K yX9_isBlank cX9_isBlank 1 (some .boolean) (rmd 1 0 0) (MX D cy g K (rmd 1 0 0) Φ) 0 0 M x μ 0 [(0, vi sign)] [] := by
  unfold fX9_isBlank at hf
  refine ev_iload_n dX9_isBlank_0 0 rfl ?_
  refine ev_bipush dX9_isBlank_1 (by decide) ?_
  obtain ⟨v1, hv1, hf⟩ := lt_elim hf
  have hJv1 : Ev l D cy g K yX9_isBlank cX9_isBlank 1 (some .boolean) (rmd 1 0 0) (MX D cy g K (rmd 1 0 0) Φ) 0 0 M x μ 17 [(0, vi sign)] [vb v1] := by
    obtain rfl := hf
    exact ev_bret (b := v1) dX9_isBlank_17 rfl ⟨Nat.zero_le _, Nat.zero_le _⟩ hr
  refine ev_icmp_eq 12 dX9_isBlank_3 (by decide) (fun h2 => ?_) (fun h2 => ?_)
  · refine ev_iconst dX9_isBlank_12 ?_
    refine ev_goto 17 dX9_isBlank_13 (by decide) ?_
    have e9 : v1 = true := hv1.trans ((if_pos h2))
    subst e9
    exact hJv1
  · refine ev_iload_n dX9_isBlank_6 0 rfl ?_
    refine ev_bipush dX9_isBlank_7 (by decide) ?_
    refine ev_icmp_ne 16 dX9_isBlank_9 (by decide) (fun h3 => ?_) (fun h3 => ?_)
    · refine ev_iconst dX9_isBlank_16 ?_
      have e9 : v1 = false := hv1.trans (((if_neg h2)).trans (if_neg h3))
      subst e9
      exact hJv1
    · refine ev_iconst dX9_isBlank_12 ?_
      refine ev_goto 17 dX9_isBlank_13 (by decide) ?_
      have e9 : v1 = true := hv1.trans (((if_neg h2)).trans (if_pos h3))
      subst e9
      exact hJv1
theorem tX9_isBlank (sign : Int) (μ : Mem) {o : Bool} (hf : fX9_isBlank sign = o) : Cn l D cy g K K yX9_isBlank cX9_isBlank 1 (some .boolean) (rmd 1 0 0) [vi sign] M x μ (PE (some (vb o)) M x μ) :=
 Cn.of (by decide) (Nat.le_of_ble_eq_true rfl) (eX9_isBlank sign μ hf (PE_i _ _ _ _))
def fX9_isLetter (sign : Int) : Bool :=
  lt (if w32 sign < w32 97 then
      false
    else
      if w32 sign ≤ w32 122 then
        true
      else
        false) fun v1 =>
  v1
set_option maxRecDepth 4000 in
theorem eX9_isLetter  (sign : Int) (μ : Mem)  {o : Bool} (hf : fX9_isLetter sign = o) (hr : (fun o : Bool => Φ (some (vb o)) M x μ) o) : Ev l D cy g K yX9_isLetter cX9_isLetter 1 (some .boolean) (rmd 1 0 0) (MX D cy g K (rmd 1 0 0) Φ) 0 0 M x μ 0 [(0, vi sign)] [] := by
  unfold fX9_isLetter at hf
  refine ev_iload_n dX9_isLetter_0 0 rfl ?_
  refine ev_bipush dX9_isLetter_1 (by decide) ?_
  obtain ⟨v1, hv1, hf⟩ := lt_elim hf
  have hJv1 : Ev l D cy g K yX9_isLetter cX9_isLetter 1 (some .boolean) (rmd 1 0 0) (MX D cy g K (rmd 1 0 0) Φ) 0 0 M x μ 17 [(0, vi sign)] [vb v1] := by
    obtain rfl := hf
    exact ev_bret (b := v1) dX9_isLetter_17 rfl ⟨Nat.zero_le _, Nat.zero_le _⟩ hr
  refine ev_icmp_lt 16 dX9_isLetter_3 (by decide) (fun h2 => ?_) (fun h2 => ?_)
  · refine ev_iconst dX9_isLetter_16 ?_
    have e9 : v1 = false := hv1.trans ((if_pos h2))
    subst e9
    exact hJv1
  · refine ev_iload_n dX9_isLetter_6 0 rfl ?_
    refine ev_bipush dX9_isLetter_7 (by decide) ?_
    refine ev_icmp_gt 16 dX9_isLetter_9 (by decide) (fun h3 => ?_) (fun h3 => ?_)
    · refine ev_iconst dX9_isLetter_16 ?_
      have e9 : v1 = false := hv1.trans (((if_neg h2)).trans (if_neg h3))
      subst e9
      exact hJv1
    · refine ev_iconst dX9_isLetter_12 ?_
      refine ev_goto 17 dX9_isLetter_13 (by decide) ?_
      have e9 : v1 = true := hv1.trans (((if_neg h2)).trans (if_pos h3))
      subst e9
      exact hJv1
theorem tX9_isLetter (sign : Int) (μ : Mem) {o : Bool} (hf : fX9_isLetter sign = o) : Cn l D cy g K K yX9_isLetter cX9_isLetter 1 (some .boolean) (rmd 1 0 0) [vi sign] M x μ (PE (some (vb o)) M x μ) :=
 Cn.of (by decide) (Nat.le_of_ble_eq_true rfl) (eX9_isLetter sign μ hf (PE_i _ _ _ _))
def fX10_withLetter (packed : Int) (letter : Int) : Int :=
  ((packed * 32) + (w32 ((letter - 97) + 1)))
set_option maxRecDepth 4000 in
theorem eX10_withLetter  (packed : Int) (letter : Int) (μ : Mem)  {o : Int} (hf : fX10_withLetter packed letter = o) (hr : (fun o : Int => Φ (some (vl o)) M x μ) o) : Ev l D cy g K yX10_withLetter cX10_withLetter 3 (some .long) (rmd 1 0 0) (MX D cy g K (rmd 1 0 0) Φ) 0 0 M x μ 0 [(0, vl packed), (2, vi letter)] [] := by
  unfold fX10_withLetter at hf
  refine ev_lload_n dX10_withLetter_0 0 rfl ?_
  refine ev_ldc2 32 dX10_withLetter_1 klX10_106 (by decide) ?_
  refine ev_lmul dX10_withLetter_4 ?_
  refine ev_iload_n dX10_withLetter_5 1 rfl ?_
  refine ev_bipush dX10_withLetter_6 (by decide) ?_
  refine ev_isub dX10_withLetter_8 ?_
  refine ev_iconst dX10_withLetter_9 ?_
  refine ev_iadd dX10_withLetter_10 ?_
  refine ev_i2l dX10_withLetter_11 ?_
  refine ev_ladd dX10_withLetter_12 ?_
  obtain rfl := hf
  exact ev_lret dX10_withLetter_13 rfl ⟨Nat.zero_le _, Nat.zero_le _⟩ hr
theorem tX10_withLetter (packed : Int) (letter : Int) (μ : Mem) {o : Int} (hf : fX10_withLetter packed letter = o) : Cn l D cy g K K yX10_withLetter cX10_withLetter 3 (some .long) (rmd 1 0 0) [vl packed, vi letter] M x μ (PE (some (vl o)) M x μ) :=
 Cn.of (by decide) (Nat.le_of_ble_eq_true rfl) (eX10_withLetter packed letter μ hf (PE_i _ _ _ _))
def fX10_of_b2 (letters : Int) (v1 : Int) (μ : Mem) : Option ((Int) ⊕ (Nat)) :=
  if w32 v1 < w32 19 then
    gd (0 ≤ w32 v1 ∧ w32 v1 < 19) <|
    lt (1000 + (w32 v1).toNat) fun r4 =>
    if w64 (wlet.getD (r4 - 1000) 0) = w64 letters then
      gd (0 ≤ w32 v1 ∧ w32 v1 < 19) <|
      lt (1000 + (w32 v1).toNat) fun r7 =>
      some (.inr r7)
    else
      some (.inl (v1 + 1))
  else
    some (.inr 1000)
set_option maxRecDepth 4000 in
theorem tX10_of_b2 (hS : Sd M K P L) (hc : CIn P 1 1) (letters : Int) (v1 : Int) (μ : Mem)  {o : (Int) ⊕ (Nat)} (hf : fX10_of_b2 letters v1 μ = some o) (hr : (Sum.elim (fun s : Int => Ev l D cy g K yX10_of cX10_of 3 (some (.object "HotCakes$Word")) (rmd 1 0 0) (MX D cy g K (rmd 1 0 0) Φ) 0 0 M x (L μ) 2 [(0, vl letters), (2, vi s)] []) (fun o : Nat => Φ (some (vr g o)) M x (L μ))) o) : Ev l D cy g K yX10_of cX10_of 3 (some (.object "HotCakes$Word")) (rmd 1 0 0) (MX D cy g K (rmd 1 0 0) Φ) 0 0 M x (L μ) 2 [(0, vl letters), (2, vi v1)] [] := by
  unfold fX10_of_b2 at hf
  refine ev_iload_n dX10_of_2 1 rfl ?_
  refine ev_getsWs (host := "HotCakes") dX10_of_3 (by decide) ?_
  refine ev_alenW dX10_of_6 ?_
  refine ev_rn (w := vi 19) rfl ?_
  refine ev_icmp_ge 35 dX10_of_7 (by decide) (fun h2 => ?_) (fun h2 => ?_)
  · rw [if_neg h2] at hf
    refine ev_getsW 0 dX10_of_35 (by decide) rfl flX10_3 ?_
    obtain rfl := Option.some.inj hf
    exact ev_aret dX10_of_38 rfl (by first | exact Or.inl ⟨_, rfl⟩ | exact Or.inr ⟨_, rfl⟩) ⟨Nat.zero_le _, Nat.zero_le _⟩ hr
  · rw [if_pos h2] at hf
    refine ev_getsWs (host := "HotCakes") dX10_of_10 (by decide) ?_
    refine ev_iload_n dX10_of_13 1 rfl ?_
    obtain ⟨g3, hf⟩ := gd_elim hf
    refine ev_aaldW dX10_of_14 g3 ?_
    obtain ⟨r4, hr4, hf⟩ := lt_elim hf
    refine ev_rn (congrArg (vr g) hr4) ?_
    have kr4 : isWd r4 := wd_of g3 hr4
    refine ev_getWJ dX10_of_15 kr4 flX10_94 ?_
    refine ev_lload_n dX10_of_18 0 rfl ?_
    refine ev_lcmp_ne 29 dX10_of_19 dX10_of_20 (by decide) (fun h5 => ?_) (fun h5 => ?_)
    · rw [if_neg h5] at hf
      refine ev_iinc (al2 := [(2, vi (v1 + 1)), (0, vl letters)]) dX10_of_29 1 rfl (by decide) rfl ?_
      refine ev_goto 2 dX10_of_32 (by decide) ?_
      obtain rfl := Option.some.inj hf
      refine ev_sub [1, 0] rfl ?_
      exact hr
    · rw [if_pos h5] at hf
      refine ev_getsWs (host := "HotCakes") dX10_of_23 (by decide) ?_
      refine ev_iload_n dX10_of_26 1 rfl ?_
      obtain ⟨g6, hf⟩ := gd_elim hf
      refine ev_aaldW dX10_of_27 g6 ?_
      obtain ⟨r7, hr7, hf⟩ := lt_elim hf
      refine ev_rn (congrArg (vr g) hr7) ?_
      have kr7 : isWd r7 := wd_of g6 hr7
      obtain rfl := Option.some.inj hf
      exact ev_aret dX10_of_28 rfl (by first | exact Or.inl ⟨_, rfl⟩ | exact Or.inr ⟨_, rfl⟩) ⟨Nat.zero_le _, Nat.zero_le _⟩ hr
def fX10_of (letters : Int) (μ : Mem) : Option (Nat) :=
  loopN (fun s => fX10_of_b2 letters s μ) FU 0
set_option maxRecDepth 4000 in
theorem eX10_of (hS : Sd M K P L) (hc : CIn P 1 1) (letters : Int) (μ : Mem)  {o : Nat} (hf : fX10_of letters μ = some o) (hr : (fun o : Nat => Φ (some (vr g o)) M x (L μ)) o) : Ev l D cy g K yX10_of cX10_of 3 (some (.object "HotCakes$Word")) (rmd 1 0 0) (MX D cy g K (rmd 1 0 0) Φ) 0 0 M x (L μ) 0 [(0, vl letters)] [] := by
  unfold fX10_of at hf
  refine ev_iconst dX10_of_0 ?_
  refine ev_istore_n (al2 := [(2, vi 0), (0, vl letters)]) dX10_of_1 2 rfl (by decide) rfl ?_
  refine ev_sub [1, 0] rfl ?_
  exact loop_ev (H := (fun s : Int => Ev l D cy g K yX10_of cX10_of 3 (some (.object "HotCakes$Word")) (rmd 1 0 0) (MX D cy g K (rmd 1 0 0) Φ) 0 0 M x (L μ) 2 [(0, vl letters), (2, vi s)] [])) (Hx := (fun o : Nat => Φ (some (vr g o)) M x (L μ))) (fun s o hb hr => tX10_of_b2 hS hc letters s μ hb hr) FU _ _ hf hr
theorem tX10_of (hS : Sd M K P L) (hc : CIn P 1 1) (letters : Int) (μ : Mem) {o : Nat} (hf : fX10_of letters μ = some o) : Cn l D cy g K K yX10_of cX10_of 3 (some (.object "HotCakes$Word")) (rmd 1 0 0) [vl letters] M x (L μ) (PE (some (vr g o)) M x (L μ)) :=
 Cn.of (by decide) (Nat.le_of_ble_eq_true rfl) (eX10_of hS hc letters μ hf (PE_i _ _ _ _))
theorem loop_res {S R : Type} {body : S → Option (S ⊕ R)} {Q : R → Prop} (hb : ∀ s r, body s = some (.inr r) → Q r) : ∀ (n : Nat) (s : S) (r : R), loopN body n s = some r → Q r
  | 0, s, r => fun h => by simp [loopN] at h
  | n + 1, s, r => fun h => by
    unfold loopN at h
    split at h
    · cases h
    · exact loop_res hb n _ r h
    · rename_i he
      cases h
      exact hb s r he
theorem rk_fX10_of {a : Int} {μ : Mem} {o : Nat} (h : fX10_of a μ = some o) : isWd o := by
  unfold fX10_of at h
  refine loop_res (Q := isWd) (fun s r hb => ?_) _ _ _ h
  unfold fX10_of_b2 at hb
  split at hb
  · obtain ⟨g1, hb⟩ := gd_elim hb
    obtain ⟨r1, hr1, hb⟩ := lt_elim hb
    split at hb
    · obtain ⟨g2, hb⟩ := gd_elim hb
      obtain ⟨r2, hr2, hb⟩ := lt_elim hb
      cases hb
      exact wd_of g2 hr2
    · cases hb
  · cases hb
    exact ⟨by decide, by decide⟩
def fX9_readWord_b5  (μ : Mem) : Option ((Mem) ⊕ (Mem)) :=
  if w32 (μ 1 3) < w32 (μ 1 1) then
    lt (fX9_isLetter (fX9_signAt (μ 1 3) μ)) fun v3 =>
    if v3 = true then
      lt (fX10_withLetter (μ 1 6) (fX9_signAt (μ 1 3) μ)) fun v5 =>
      lt (upd2 μ 1 6 v5) fun μ6 =>
      lt (upd2 μ6 1 3 ((μ6 1 3) + 1)) fun μ7 =>
      some (.inl μ7)
    else
      some (.inr μ)
  else
    some (.inr μ)
set_option maxRecDepth 4000 in
theorem tX9_readWord_b5 (hS : Sd M K P L) (hc : CIn P 1 3)  (μ : Mem)  {o : (Mem) ⊕ (Mem)} (hf : fX9_readWord_b5 μ = some o) (hr : (Sum.elim (fun s : Mem => Ev l D cy g K yX9_readWord cX9_readWord 2 none (rmd 2 0 0) (MX D cy g K (rmd 2 0 0) Φ) 0 0 M x (L s) 5 [(0, vr g 1)] []) (fun e : Mem => Ev l D cy g K yX9_readWord cX9_readWord 2 none (rmd 2 0 0) (MX D cy g K (rmd 2 0 0) Φ) 0 0 M x (L e) 62 [(0, vr g 1)] [])) o) : Ev l D cy g K yX9_readWord cX9_readWord 2 none (rmd 2 0 0) (MX D cy g K (rmd 2 0 0) Φ) 0 0 M x (L μ) 5 [(0, vr g 1)] [] := by
  unfold fX9_readWord_b5 at hf
  refine ev_aload_n dX9_readWord_5 0 rfl ?_
  refine ev_getI 3 dX9_readWord_6 (hS.lt (hc 1 rfl)) rfl (hS.mem _ (hc 1 rfl)) ciX9 (by decide) rfl flX9_38 ?_
  refine ev_aload_n dX9_readWord_9 0 rfl ?_
  refine ev_getI 1 dX9_readWord_10 (hS.lt (hc 1 rfl)) rfl (hS.mem _ (hc 1 rfl)) ciX9 (by decide) rfl flX9_34 ?_
  refine ev_icmp_ge 62 dX9_readWord_13 (by decide) (fun h2 => ?_) (fun h2 => ?_)
  · rw [if_neg h2] at hf
    obtain rfl := Option.some.inj hf
    refine ev_sub [0] rfl ?_
    exact hr
  · rw [if_pos h2] at hf
    refine ev_aload_n dX9_readWord_16 0 rfl ?_
    refine ev_aload_n dX9_readWord_17 0 rfl ?_
    refine ev_getI 3 dX9_readWord_18 (hS.lt (hc 1 rfl)) rfl (hS.mem _ (hc 1 rfl)) ciX9 (by decide) rfl flX9_38 ?_
    refine cl_V1 (As := [vi (μ 1 3)]) (st := []) miX9_signAt (tX9_signAt hS (hc.w rfl rfl) (μ 1 3) μ (o := (fX9_signAt (μ 1 3) μ)) rfl) dX9_readWord_21 lkX9_47 inX9_signAt rfl (hS.lt (hc 1 rfl)) rfl ⟨rfl, rfl⟩ ⟨⟨Nat.le_of_ble_eq_true rfl, Nat.le_of_ble_eq_true rfl⟩, Nat.zero_le _, Nat.zero_le _⟩ (Nat.le_of_ble_eq_true rfl) ?_
    obtain ⟨v3, hv3, hf⟩ := lt_elim hf
    refine cl_S1 (As := [vi (fX9_signAt (μ 1 3) μ)]) (st := []) miX9_isLetter (tX9_isLetter (fX9_signAt (μ 1 3) μ) (L μ) hv3.symm) dX9_readWord_24 lkX9_55 stX9_isLetter rfl ⟨⟨Nat.le_of_ble_eq_true rfl, Nat.le_of_ble_eq_true rfl⟩, Nat.zero_le _, Nat.zero_le _⟩ (Nat.le_of_ble_eq_true rfl) ?_
    refine ev_ifb_eq 62 dX9_readWord_27 (by decide) (fun h4 => ?_) (fun h4 => ?_)
    · rw [if_neg h4] at hf
      obtain rfl := Option.some.inj hf
      refine ev_sub [0] rfl ?_
      exact hr
    · rw [if_pos h4] at hf
      refine ev_aload_n dX9_readWord_30 0 rfl ?_
      refine ev_aload_n dX9_readWord_31 0 rfl ?_
      refine ev_getJ 6 dX9_readWord_32 (hS.lt (hc 1 rfl)) rfl (hS.mem _ (hc 1 rfl)) ciX9 (by decide) rfl flX9_75 ?_
      refine ev_aload_n dX9_readWord_35 0 rfl ?_
      refine ev_aload_n dX9_readWord_36 0 rfl ?_
      refine ev_getI 3 dX9_readWord_37 (hS.lt (hc 1 rfl)) rfl (hS.mem _ (hc 1 rfl)) ciX9 (by decide) rfl flX9_38 ?_
      refine cl_V1 (As := [vi (μ 1 3)]) (st := [vl (μ 1 6), vr g 1]) miX9_signAt (tX9_signAt hS (hc.w rfl rfl) (μ 1 3) μ (o := (fX9_signAt (μ 1 3) μ)) rfl) dX9_readWord_40 lkX9_47 inX9_signAt rfl (hS.lt (hc 1 rfl)) rfl ⟨rfl, rfl⟩ ⟨⟨Nat.le_of_ble_eq_true rfl, Nat.le_of_ble_eq_true rfl⟩, Nat.zero_le _, Nat.zero_le _⟩ (Nat.le_of_ble_eq_true rfl) ?_
      obtain ⟨v5, hv5, hf⟩ := lt_elim hf
      refine cl_S1 (As := [vl (μ 1 6), vi (fX9_signAt (μ 1 3) μ)]) (st := [vr g 1]) miX10_withLetter (tX10_withLetter (μ 1 6) (fX9_signAt (μ 1 3) μ) (L μ) hv5.symm) dX9_readWord_43 lkX9_79 stX10_withLetter rfl ⟨⟨Nat.le_of_ble_eq_true rfl, Nat.le_of_ble_eq_true rfl⟩, Nat.zero_le _, Nat.zero_le _⟩ (Nat.le_of_ble_eq_true rfl) ?_
      obtain ⟨μ6, hμ6, hf⟩ := lt_elim hf
      refine ev_putJ 6 dX9_readWord_46 (hS.lt (hc 1 rfl)) rfl ciX9 (by decide) (Or.inl rfl) rfl rfl flX9_75 (hS.up (hc 1 rfl) hμ6) ?_
      refine ev_aload_n dX9_readWord_49 0 rfl ?_
      refine ev_dup dX9_readWord_50 rfl ?_
      refine ev_getI 3 dX9_readWord_51 (hS.lt (hc 1 rfl)) rfl (hS.mem _ (hc 1 rfl)) ciX9 (by decide) rfl flX9_38 ?_
      refine ev_iconst dX9_readWord_54 ?_
      refine ev_iadd dX9_readWord_55 ?_
      obtain ⟨μ7, hμ7, hf⟩ := lt_elim hf
      refine ev_putI 3 dX9_readWord_56 (hS.lt (hc 1 rfl)) rfl ciX9 (by decide) (Or.inl rfl) rfl rfl flX9_38 (hS.up (hc 1 rfl) hμ7) ?_
      refine ev_goto 5 dX9_readWord_59 (by decide) ?_
      obtain rfl := Option.some.inj hf
      refine ev_sub [0] rfl ?_
      exact hr
def fX9_readWord_j62  (μ : Mem) : Option (Mem) :=
  lt (if w32 ((μ 1 3) - (μ 1 2)) ≤ w32 8 then
      false
    else
      true) fun v9 =>
  lt (if v9 = true then
      115
    else
      119) fun v11 =>
  lt (upd2 μ 1 4 v11) fun μ13 =>
  if v9 = true then
    lt (upd2 μ13 1 7 1000) fun μ18 =>
    some (μ18)
  else
    (fX10_of (μ13 1 6) μ13).bind fun v15 =>
    lt (upd2 μ13 1 7 (v15 : Int)) fun μ17 =>
    some (μ17)
set_option maxRecDepth 4000 in
theorem tX9_readWord_j62 (hS : Sd M K P L) (hc : CIn P 1 3)  (μ : Mem)  {o : Mem} (hf : fX9_readWord_j62 μ = some o) (hr : (fun o : Mem => Φ none M x (L o)) o) : Ev l D cy g K yX9_readWord cX9_readWord 2 none (rmd 2 0 0) (MX D cy g K (rmd 2 0 0) Φ) 0 0 M x (L μ) 62 [(0, vr g 1)] [] := by
  unfold fX9_readWord_j62 at hf
  refine ev_aload_n dX9_readWord_62 0 rfl ?_
  refine ev_getI 3 dX9_readWord_63 (hS.lt (hc 1 rfl)) rfl (hS.mem _ (hc 1 rfl)) ciX9 (by decide) rfl flX9_38 ?_
  refine ev_aload_n dX9_readWord_66 0 rfl ?_
  refine ev_getI 2 dX9_readWord_67 (hS.lt (hc 1 rfl)) rfl (hS.mem _ (hc 1 rfl)) ciX9 (by decide) rfl flX9_44 ?_
  refine ev_isub dX9_readWord_70 ?_
  refine ev_bipush dX9_readWord_71 (by decide) ?_
  obtain ⟨v9, hv9, hf⟩ := lt_elim hf
  have hJv9 : Ev l D cy g K yX9_readWord cX9_readWord 2 none (rmd 2 0 0) (MX D cy g K (rmd 2 0 0) Φ) 0 0 M x (L μ) 81 [(0, vr g 1)] [vb v9] := by
    refine ev_istore_n (al2 := [(1, vb v9), (0, vr g 1)]) dX9_readWord_81 1 rfl (by decide) rfl ?_
    refine ev_aload_n dX9_readWord_82 1 rfl ?_
    refine ev_iload_n dX9_readWord_83 0 rfl ?_
    obtain ⟨v11, hv11, hf⟩ := lt_elim hf
    have hJv11 : Ev l D cy g K yX9_readWord cX9_readWord 2 none (rmd 2 0 0) (MX D cy g K (rmd 2 0 0) Φ) 0 0 M x (L μ) 94 [(1, vb v9), (0, vr g 1)] [vi v11, vr g 1] := by
      obtain ⟨μ13, hμ13, hf⟩ := lt_elim hf
      refine ev_putC 4 dX9_readWord_94 (hS.lt (hc 1 rfl)) rfl ciX9 (by decide) (Or.inl rfl) rfl rfl flX9_15 (by rw [hv11]; (repeat' split); all_goals first | decide | exact ⟨by decide, by decide⟩ | exact ⟨by decide, by decide⟩) (hS.up (hc 1 rfl) hμ13) ?_
      refine ev_aload_n dX9_readWord_97 1 rfl ?_
      refine ev_iload_n dX9_readWord_98 0 rfl ?_
      refine ev_ifb_eq 108 dX9_readWord_99 (by decide) (fun h14 => ?_) (fun h14 => ?_)
      · rw [if_neg h14] at hf
        refine ev_aload_n dX9_readWord_108 1 rfl ?_
        refine ev_getJ 6 dX9_readWord_109 (hS.lt (hc 1 rfl)) rfl (hS.mem _ (hc 1 rfl)) ciX9 (by decide) rfl flX9_75 ?_
        obtain ⟨v15, hv15, hf⟩ := Option.bind_eq_some_iff.mp hf
        refine cl_S1 (As := [vl (μ13 1 6)]) (st := [vr g 1]) miX10_of (tX10_of hS (hc.w rfl rfl) (μ13 1 6) μ13 hv15) dX9_readWord_112 lkX9_83 stX10_of rfl ⟨⟨Nat.le_of_ble_eq_true rfl, Nat.le_of_ble_eq_true rfl⟩, Nat.zero_le _, Nat.zero_le _⟩ (Nat.le_of_ble_eq_true rfl) ?_
        obtain ⟨μ17, hμ17, hf⟩ := lt_elim hf
        refine ev_putR 7 dX9_readWord_115 (hS.lt (hc 1 rfl)) rfl ciX9 (by decide) (Or.inl rfl) rfl flX9_25 (hS.K0 (hc 1 rfl) rfl) (fun _ => ⟨rfl, rfl⟩) (hS.up (hc 1 rfl) hμ17) ?_
        obtain rfl := Option.some.inj hf
        exact ev_vret dX9_readWord_118 rfl ⟨Nat.zero_le _, Nat.zero_le _⟩ hr
      · rw [if_pos h14] at hf
        refine ev_getsW 0 dX9_readWord_102 (by decide) rfl flX9_19 ?_
        refine ev_goto 115 dX9_readWord_105 (by decide) ?_
        obtain ⟨μ18, hμ18, hf⟩ := lt_elim hf
        refine ev_putR 7 dX9_readWord_115 (hS.lt (hc 1 rfl)) rfl ciX9 (by decide) (Or.inl rfl) rfl flX9_25 (hS.K0 (hc 1 rfl) rfl) (fun _ => ⟨rfl, rfl⟩) (hS.up (hc 1 rfl) hμ18) ?_
        obtain rfl := Option.some.inj hf
        exact ev_vret dX9_readWord_118 rfl ⟨Nat.zero_le _, Nat.zero_le _⟩ hr
    refine ev_ifb_eq 92 dX9_readWord_84 (by decide) (fun h12 => ?_) (fun h12 => ?_)
    · refine ev_bipush dX9_readWord_92 (by decide) ?_
      have e9 : v11 = 119 := hv11.trans ((if_neg h12))
      subst e9
      exact hJv11
    · refine ev_bipush dX9_readWord_87 (by decide) ?_
      refine ev_goto 94 dX9_readWord_89 (by decide) ?_
      have e9 : v11 = 115 := hv11.trans ((if_pos h12))
      subst e9
      exact hJv11
  refine ev_icmp_le 80 dX9_readWord_73 (by decide) (fun h10 => ?_) (fun h10 => ?_)
  · refine ev_iconst dX9_readWord_80 ?_
    have e9 : v9 = false := hv9.trans ((if_pos h10))
    subst e9
    exact hJv9
  · refine ev_iconst dX9_readWord_76 ?_
    refine ev_goto 81 dX9_readWord_77 (by decide) ?_
    have e9 : v9 = true := hv9.trans ((if_neg h10))
    subst e9
    exact hJv9
def fX9_readWord  (μ : Mem) : Option (Mem) :=
  lt (upd2 μ 1 6 0) fun μ1 =>
  (loopN (fun s => fX9_readWord_b5 s) FU μ1).bind fun q8 =>
  fX9_readWord_j62 q8
set_option maxRecDepth 4000 in
theorem eX9_readWord (hS : Sd M K P L) (hc : CIn P 1 3)  (μ : Mem)  {o : Mem} (hf : fX9_readWord  μ = some o) (hr : (fun o : Mem => Φ none M x (L o)) o) : Ev l D cy g K yX9_readWord cX9_readWord 2 none (rmd 2 0 0) (MX D cy g K (rmd 2 0 0) Φ) 0 0 M x (L μ) 0 [(0, vr g 1)] [] := by
  unfold fX9_readWord at hf
  refine ev_aload_n dX9_readWord_0 0 rfl ?_
  refine ev_lconst 0 dX9_readWord_1 rfl ?_
  obtain ⟨μ1, hμ1, hf⟩ := lt_elim hf
  refine ev_putJ 6 dX9_readWord_2 (hS.lt (hc 1 rfl)) rfl ciX9 (by decide) (Or.inl rfl) rfl rfl flX9_75 (hS.up (hc 1 rfl) hμ1) ?_
  obtain ⟨q8, hq8, hf⟩ := Option.bind_eq_some_iff.mp hf
  refine ev_sub [0] rfl ?_
  refine loop_ev (H := (fun s : Mem => Ev l D cy g K yX9_readWord cX9_readWord 2 none (rmd 2 0 0) (MX D cy g K (rmd 2 0 0) Φ) 0 0 M x (L s) 5 [(0, vr g 1)] [])) (Hx := (fun e : Mem => Ev l D cy g K yX9_readWord cX9_readWord 2 none (rmd 2 0 0) (MX D cy g K (rmd 2 0 0) Φ) 0 0 M x (L e) 62 [(0, vr g 1)] [])) (fun s o hb hr => tX9_readWord_b5 hS hc s hb hr) FU _ _ hq8 ?_
  show Ev l D cy g K yX9_readWord cX9_readWord 2 none (rmd 2 0 0) (MX D cy g K (rmd 2 0 0) Φ) 0 0 M x (L q8) 62 [(0, vr g 1)] []
  refine ev_sub [0] rfl ?_
  exact tX9_readWord_j62 hS hc q8 hf hr
theorem tX9_readWord (hS : Sd M K P L) (hc : CIn P 1 3) (μ : Mem) {o : Mem} (hf : fX9_readWord μ = some o) : Cn l D cy g K K yX9_readWord cX9_readWord 2 none (rmd 2 0 0) [vr g 1] M x (L μ) (PE none M x (L o)) :=
 Cn.of (by decide) (Nat.le_of_ble_eq_true rfl) (eX9_readWord hS hc μ hf (PE_i _ _ _ _))
def fX9_isFigure (sign : Int) : Bool :=
  lt (if w32 sign < w32 48 then
      false
    else
      if w32 sign ≤ w32 57 then
        true
      else
        false) fun v1 =>
  v1
set_option maxRecDepth 4000 in
theorem eX9_isFigure  (sign : Int) (μ : Mem)  {o : Bool} (hf : fX9_isFigure sign = o) (hr : (fun o : Bool => Φ (some (vb o)) M x μ) o) : Ev l D cy g K yX9_isFigure cX9_isFigure 1 (some .boolean) (rmd 1 0 0) (MX D cy g K (rmd 1 0 0) Φ) 0 0 M x μ 0 [(0, vi sign)] [] := by
  unfold fX9_isFigure at hf
  refine ev_iload_n dX9_isFigure_0 0 rfl ?_
  refine ev_bipush dX9_isFigure_1 (by decide) ?_
  obtain ⟨v1, hv1, hf⟩ := lt_elim hf
  have hJv1 : Ev l D cy g K yX9_isFigure cX9_isFigure 1 (some .boolean) (rmd 1 0 0) (MX D cy g K (rmd 1 0 0) Φ) 0 0 M x μ 17 [(0, vi sign)] [vb v1] := by
    obtain rfl := hf
    exact ev_bret (b := v1) dX9_isFigure_17 rfl ⟨Nat.zero_le _, Nat.zero_le _⟩ hr
  refine ev_icmp_lt 16 dX9_isFigure_3 (by decide) (fun h2 => ?_) (fun h2 => ?_)
  · refine ev_iconst dX9_isFigure_16 ?_
    have e9 : v1 = false := hv1.trans ((if_pos h2))
    subst e9
    exact hJv1
  · refine ev_iload_n dX9_isFigure_6 0 rfl ?_
    refine ev_bipush dX9_isFigure_7 (by decide) ?_
    refine ev_icmp_gt 16 dX9_isFigure_9 (by decide) (fun h3 => ?_) (fun h3 => ?_)
    · refine ev_iconst dX9_isFigure_16 ?_
      have e9 : v1 = false := hv1.trans (((if_neg h2)).trans (if_neg h3))
      subst e9
      exact hJv1
    · refine ev_iconst dX9_isFigure_12 ?_
      refine ev_goto 17 dX9_isFigure_13 (by decide) ?_
      have e9 : v1 = true := hv1.trans (((if_neg h2)).trans (if_pos h3))
      subst e9
      exact hJv1
theorem tX9_isFigure (sign : Int) (μ : Mem) {o : Bool} (hf : fX9_isFigure sign = o) : Cn l D cy g K K yX9_isFigure cX9_isFigure 1 (some .boolean) (rmd 1 0 0) [vi sign] M x μ (PE (some (vb o)) M x μ) :=
 Cn.of (by decide) (Nat.le_of_ble_eq_true rfl) (eX9_isFigure sign μ hf (PE_i _ _ _ _))
def fX9_readNumber_b5  (μ : Mem) : Option ((Mem) ⊕ (Mem)) :=
  if w32 (μ 1 3) < w32 (μ 1 1) then
    lt (fX9_isFigure (fX9_signAt (μ 1 3) μ)) fun v3 =>
    if v3 = true then
      lt (upd2 μ 1 5 (((μ 1 5) * 10) + ((fX9_signAt (μ 1 3) μ) - 48))) fun μ5 =>
      lt (upd2 μ5 1 3 ((μ5 1 3) + 1)) fun μ6 =>
      some (.inl μ6)
    else
      some (.inr μ)
  else
    some (.inr μ)
set_option maxRecDepth 4000 in
theorem tX9_readNumber_b5 (hS : Sd M K P L) (hc : CIn P 1 3)  (μ : Mem)  {o : (Mem) ⊕ (Mem)} (hf : fX9_readNumber_b5 μ = some o) (hr : (Sum.elim (fun s : Mem => Ev l D cy g K yX9_readNumber cX9_readNumber 1 none (rmd 2 0 0) (MX D cy g K (rmd 2 0 0) Φ) 0 0 M x (L s) 5 [(0, vr g 1)] []) (fun e : Mem => Ev l D cy g K yX9_readNumber cX9_readNumber 1 none (rmd 2 0 0) (MX D cy g K (rmd 2 0 0) Φ) 0 0 M x (L e) 66 [(0, vr g 1)] [])) o) : Ev l D cy g K yX9_readNumber cX9_readNumber 1 none (rmd 2 0 0) (MX D cy g K (rmd 2 0 0) Φ) 0 0 M x (L μ) 5 [(0, vr g 1)] [] := by
  unfold fX9_readNumber_b5 at hf
  refine ev_aload_n dX9_readNumber_5 0 rfl ?_
  refine ev_getI 3 dX9_readNumber_6 (hS.lt (hc 1 rfl)) rfl (hS.mem _ (hc 1 rfl)) ciX9 (by decide) rfl flX9_38 ?_
  refine ev_aload_n dX9_readNumber_9 0 rfl ?_
  refine ev_getI 1 dX9_readNumber_10 (hS.lt (hc 1 rfl)) rfl (hS.mem _ (hc 1 rfl)) ciX9 (by decide) rfl flX9_34 ?_
  refine ev_icmp_ge 66 dX9_readNumber_13 (by decide) (fun h2 => ?_) (fun h2 => ?_)
  · rw [if_neg h2] at hf
    obtain rfl := Option.some.inj hf
    refine ev_sub [0] rfl ?_
    exact hr
  · rw [if_pos h2] at hf
    refine ev_aload_n dX9_readNumber_16 0 rfl ?_
    refine ev_aload_n dX9_readNumber_17 0 rfl ?_
    refine ev_getI 3 dX9_readNumber_18 (hS.lt (hc 1 rfl)) rfl (hS.mem _ (hc 1 rfl)) ciX9 (by decide) rfl flX9_38 ?_
    refine cl_V1 (As := [vi (μ 1 3)]) (st := []) miX9_signAt (tX9_signAt hS (hc.w rfl rfl) (μ 1 3) μ (o := (fX9_signAt (μ 1 3) μ)) rfl) dX9_readNumber_21 lkX9_47 inX9_signAt rfl (hS.lt (hc 1 rfl)) rfl ⟨rfl, rfl⟩ ⟨⟨Nat.le_of_ble_eq_true rfl, Nat.le_of_ble_eq_true rfl⟩, Nat.zero_le _, Nat.zero_le _⟩ (Nat.le_of_ble_eq_true rfl) ?_
    obtain ⟨v3, hv3, hf⟩ := lt_elim hf
    refine cl_S1 (As := [vi (fX9_signAt (μ 1 3) μ)]) (st := []) miX9_isFigure (tX9_isFigure (fX9_signAt (μ 1 3) μ) (L μ) hv3.symm) dX9_readNumber_24 lkX9_61 stX9_isFigure rfl ⟨⟨Nat.le_of_ble_eq_true rfl, Nat.le_of_ble_eq_true rfl⟩, Nat.zero_le _, Nat.zero_le _⟩ (Nat.le_of_ble_eq_true rfl) ?_
    refine ev_ifb_eq 66 dX9_readNumber_27 (by decide) (fun h4 => ?_) (fun h4 => ?_)
    · rw [if_neg h4] at hf
      obtain rfl := Option.some.inj hf
      refine ev_sub [0] rfl ?_
      exact hr
    · rw [if_pos h4] at hf
      refine ev_aload_n dX9_readNumber_30 0 rfl ?_
      refine ev_aload_n dX9_readNumber_31 0 rfl ?_
      refine ev_getI 5 dX9_readNumber_32 (hS.lt (hc 1 rfl)) rfl (hS.mem _ (hc 1 rfl)) ciX9 (by decide) rfl flX9_87 ?_
      refine ev_bipush dX9_readNumber_35 (by decide) ?_
      refine ev_imul dX9_readNumber_37 ?_
      refine ev_aload_n dX9_readNumber_38 0 rfl ?_
      refine ev_aload_n dX9_readNumber_39 0 rfl ?_
      refine ev_getI 3 dX9_readNumber_40 (hS.lt (hc 1 rfl)) rfl (hS.mem _ (hc 1 rfl)) ciX9 (by decide) rfl flX9_38 ?_
      refine cl_V1 (As := [vi (μ 1 3)]) (st := [vi ((μ 1 5) * 10), vr g 1]) miX9_signAt (tX9_signAt hS (hc.w rfl rfl) (μ 1 3) μ (o := (fX9_signAt (μ 1 3) μ)) rfl) dX9_readNumber_43 lkX9_47 inX9_signAt rfl (hS.lt (hc 1 rfl)) rfl ⟨rfl, rfl⟩ ⟨⟨Nat.le_of_ble_eq_true rfl, Nat.le_of_ble_eq_true rfl⟩, Nat.zero_le _, Nat.zero_le _⟩ (Nat.le_of_ble_eq_true rfl) ?_
      refine ev_bipush dX9_readNumber_46 (by decide) ?_
      refine ev_isub dX9_readNumber_48 ?_
      refine ev_iadd dX9_readNumber_49 ?_
      obtain ⟨μ5, hμ5, hf⟩ := lt_elim hf
      refine ev_putI 5 dX9_readNumber_50 (hS.lt (hc 1 rfl)) rfl ciX9 (by decide) (Or.inl rfl) rfl rfl flX9_87 (hS.up (hc 1 rfl) hμ5) ?_
      refine ev_aload_n dX9_readNumber_53 0 rfl ?_
      refine ev_dup dX9_readNumber_54 rfl ?_
      refine ev_getI 3 dX9_readNumber_55 (hS.lt (hc 1 rfl)) rfl (hS.mem _ (hc 1 rfl)) ciX9 (by decide) rfl flX9_38 ?_
      refine ev_iconst dX9_readNumber_58 ?_
      refine ev_iadd dX9_readNumber_59 ?_
      obtain ⟨μ6, hμ6, hf⟩ := lt_elim hf
      refine ev_putI 3 dX9_readNumber_60 (hS.lt (hc 1 rfl)) rfl ciX9 (by decide) (Or.inl rfl) rfl rfl flX9_38 (hS.up (hc 1 rfl) hμ6) ?_
      refine ev_goto 5 dX9_readNumber_63 (by decide) ?_
      obtain rfl := Option.some.inj hf
      refine ev_sub [0] rfl ?_
      exact hr
def fX9_readNumber_j66  (μ : Mem) : Option (Mem) :=
  lt (if w32 ((μ 1 3) - (μ 1 2)) ≤ w32 4 then
      110
    else
      115) fun v8 =>
  lt (upd2 μ 1 4 v8) fun μ10 =>
  some (μ10)
set_option maxRecDepth 4000 in
theorem tX9_readNumber_j66 (hS : Sd M K P L) (hc : CIn P 1 3)  (μ : Mem)  {o : Mem} (hf : fX9_readNumber_j66 μ = some o) (hr : (fun o : Mem => Φ none M x (L o)) o) : Ev l D cy g K yX9_readNumber cX9_readNumber 1 none (rmd 2 0 0) (MX D cy g K (rmd 2 0 0) Φ) 0 0 M x (L μ) 66 [(0, vr g 1)] [] := by
  unfold fX9_readNumber_j66 at hf
  refine ev_aload_n dX9_readNumber_66 0 rfl ?_
  refine ev_aload_n dX9_readNumber_67 0 rfl ?_
  refine ev_getI 3 dX9_readNumber_68 (hS.lt (hc 1 rfl)) rfl (hS.mem _ (hc 1 rfl)) ciX9 (by decide) rfl flX9_38 ?_
  refine ev_aload_n dX9_readNumber_71 0 rfl ?_
  refine ev_getI 2 dX9_readNumber_72 (hS.lt (hc 1 rfl)) rfl (hS.mem _ (hc 1 rfl)) ciX9 (by decide) rfl flX9_44 ?_
  refine ev_isub dX9_readNumber_75 ?_
  refine ev_iconst dX9_readNumber_76 ?_
  obtain ⟨v8, hv8, hf⟩ := lt_elim hf
  have hJv8 : Ev l D cy g K yX9_readNumber cX9_readNumber 1 none (rmd 2 0 0) (MX D cy g K (rmd 2 0 0) Φ) 0 0 M x (L μ) 87 [(0, vr g 1)] [vi v8, vr g 1] := by
    obtain ⟨μ10, hμ10, hf⟩ := lt_elim hf
    refine ev_putC 4 dX9_readNumber_87 (hS.lt (hc 1 rfl)) rfl ciX9 (by decide) (Or.inl rfl) rfl rfl flX9_15 (by rw [hv8]; (repeat' split); all_goals first | decide | exact ⟨by decide, by decide⟩ | exact ⟨by decide, by decide⟩) (hS.up (hc 1 rfl) hμ10) ?_
    obtain rfl := Option.some.inj hf
    exact ev_vret dX9_readNumber_90 rfl ⟨Nat.zero_le _, Nat.zero_le _⟩ hr
  refine ev_icmp_le 85 dX9_readNumber_77 (by decide) (fun h9 => ?_) (fun h9 => ?_)
  · refine ev_bipush dX9_readNumber_85 (by decide) ?_
    have e9 : v8 = 110 := hv8.trans ((if_pos h9))
    subst e9
    exact hJv8
  · refine ev_bipush dX9_readNumber_80 (by decide) ?_
    refine ev_goto 87 dX9_readNumber_82 (by decide) ?_
    have e9 : v8 = 115 := hv8.trans ((if_neg h9))
    subst e9
    exact hJv8
def fX9_readNumber  (μ : Mem) : Option (Mem) :=
  lt (upd2 μ 1 5 0) fun μ1 =>
  (loopN (fun s => fX9_readNumber_b5 s) FU μ1).bind fun q7 =>
  fX9_readNumber_j66 q7
set_option maxRecDepth 4000 in
theorem eX9_readNumber (hS : Sd M K P L) (hc : CIn P 1 3)  (μ : Mem)  {o : Mem} (hf : fX9_readNumber  μ = some o) (hr : (fun o : Mem => Φ none M x (L o)) o) : Ev l D cy g K yX9_readNumber cX9_readNumber 1 none (rmd 2 0 0) (MX D cy g K (rmd 2 0 0) Φ) 0 0 M x (L μ) 0 [(0, vr g 1)] [] := by
  unfold fX9_readNumber at hf
  refine ev_aload_n dX9_readNumber_0 0 rfl ?_
  refine ev_iconst dX9_readNumber_1 ?_
  obtain ⟨μ1, hμ1, hf⟩ := lt_elim hf
  refine ev_putI 5 dX9_readNumber_2 (hS.lt (hc 1 rfl)) rfl ciX9 (by decide) (Or.inl rfl) rfl rfl flX9_87 (hS.up (hc 1 rfl) hμ1) ?_
  obtain ⟨q7, hq7, hf⟩ := Option.bind_eq_some_iff.mp hf
  refine ev_sub [0] rfl ?_
  refine loop_ev (H := (fun s : Mem => Ev l D cy g K yX9_readNumber cX9_readNumber 1 none (rmd 2 0 0) (MX D cy g K (rmd 2 0 0) Φ) 0 0 M x (L s) 5 [(0, vr g 1)] [])) (Hx := (fun e : Mem => Ev l D cy g K yX9_readNumber cX9_readNumber 1 none (rmd 2 0 0) (MX D cy g K (rmd 2 0 0) Φ) 0 0 M x (L e) 66 [(0, vr g 1)] [])) (fun s o hb hr => tX9_readNumber_b5 hS hc s hb hr) FU _ _ hq7 ?_
  show Ev l D cy g K yX9_readNumber cX9_readNumber 1 none (rmd 2 0 0) (MX D cy g K (rmd 2 0 0) Φ) 0 0 M x (L q7) 66 [(0, vr g 1)] []
  refine ev_sub [0] rfl ?_
  exact tX9_readNumber_j66 hS hc q7 hf hr
theorem tX9_readNumber (hS : Sd M K P L) (hc : CIn P 1 3) (μ : Mem) {o : Mem} (hf : fX9_readNumber μ = some o) : Cn l D cy g K K yX9_readNumber cX9_readNumber 1 none (rmd 2 0 0) [vr g 1] M x (L μ) (PE none M x (L o)) :=
 Cn.of (by decide) (Nat.le_of_ble_eq_true rfl) (eX9_readNumber hS hc μ hf (PE_i _ _ _ _))
def fJ0_isLatin1_aae02  (μ : Mem) : Bool :=
  lt (if w32 1 = 0 then
      false
    else
      if w32 0 = 0 then
        true
      else
        false) fun v1 =>
  v1
set_option maxRecDepth 4000 in
theorem eJ0_isLatin1_aae02 (hS : Sd M K P L) (hc : CIn P 1 1)  (μ : Mem)  {o : Bool} (hf : fJ0_isLatin1_aae02  μ = o) (hr : (fun o : Bool => Φ (some (vb o)) M x (L μ)) o) : Ev l D cy g K yJ0_isLatin1_aae02 cJ0_isLatin1_aae02 1 (some .boolean) (rmd 1 0 0) (MX D cy g K (rmd 1 0 0) Φ) 0 0 M x (L μ) 0 [(0, vr g 1022)] [] := by
  unfold fJ0_isLatin1_aae02 at hf
  refine ev_getsCS dJ0_isLatin1_aae02_0 flJ0_38 ?_
  obtain ⟨v1, hv1, hf⟩ := lt_elim hf
  have hJv1 : Ev l D cy g K yJ0_isLatin1_aae02 cJ0_isLatin1_aae02 1 (some .boolean) (rmd 1 0 0) (MX D cy g K (rmd 1 0 0) Φ) 0 0 M x (L μ) 18 [(0, vr g 1022)] [vb v1] := by
    obtain rfl := hf
    exact ev_bret (b := v1) dJ0_isLatin1_aae02_18 rfl ⟨Nat.zero_le _, Nat.zero_le _⟩ hr
  refine ev_if_eq 17 dJ0_isLatin1_aae02_3 (by decide) (fun h2 => ?_) (fun h2 => ?_)
  · refine ev_iconst dJ0_isLatin1_aae02_17 ?_
    have e9 : v1 = false := hv1.trans ((if_pos h2))
    subst e9
    exact hJv1
  · refine ev_aload_n dJ0_isLatin1_aae02_6 0 rfl ?_
    refine ev_strcoder dJ0_isLatin1_aae02_7 flJ0_15 ?_
    refine ev_if_ne 17 dJ0_isLatin1_aae02_10 (by decide) (fun h3 => ?_) (fun h3 => ?_)
    · refine ev_iconst dJ0_isLatin1_aae02_17 ?_
      have e9 : v1 = false := hv1.trans (((if_neg h2)).trans (if_neg h3))
      subst e9
      exact hJv1
    · refine ev_iconst dJ0_isLatin1_aae02_13 ?_
      refine ev_goto 18 dJ0_isLatin1_aae02_14 (by decide) ?_
      have e9 : v1 = true := hv1.trans (((if_neg h2)).trans (if_pos h3))
      subst e9
      exact hJv1
theorem tJ0_isLatin1_aae02 (hS : Sd M K P L) (hc : CIn P 1 1) (μ : Mem) {o : Bool} (hf : fJ0_isLatin1_aae02 μ = o) : Cn l D cy g K K yJ0_isLatin1_aae02 cJ0_isLatin1_aae02 1 (some .boolean) (rmd 1 0 0) [vr g 1022] M x (L μ) (PE (some (vb o)) M x (L μ)) :=
 Cn.ofF (by decide) (Nat.le_of_ble_eq_true rfl) (eJ0_isLatin1_aae02 hS hc μ hf (PE_i _ _ _ _))
def fJ0_coder_7d493  (μ : Mem) : Int :=
  lt (if w32 1 = 0 then
      1
    else
      0) fun v1 =>
  v1
set_option maxRecDepth 4000 in
theorem eJ0_coder_7d493 (hS : Sd M K P L) (hc : CIn P 1 1)  (μ : Mem)  {o : Int} (hf : fJ0_coder_7d493  μ = o) (hr : (fun o : Int => Φ (some (vi o)) M x (L μ)) o) : Ev l D cy g K yJ0_coder_7d493 cJ0_coder_7d493 1 (some .byte) (rmd 1 0 0) (MX D cy g K (rmd 1 0 0) Φ) 0 0 M x (L μ) 0 [(0, vr g 1022)] [] := by
  unfold fJ0_coder_7d493 at hf
  refine ev_getsCS dJ0_coder_7d493_0 flJ0_38 ?_
  obtain ⟨v1, hv1, hf⟩ := lt_elim hf
  have hJv1 : Ev l D cy g K yJ0_coder_7d493 cJ0_coder_7d493 1 (some .byte) (rmd 1 0 0) (MX D cy g K (rmd 1 0 0) Φ) 0 0 M x (L μ) 14 [(0, vr g 1022)] [vi v1] := by
    obtain rfl := hf
    exact ev_yret dJ0_coder_7d493_14 rfl ⟨Nat.zero_le _, Nat.zero_le _⟩ (by rw [hv1]; decide) hr
  refine ev_if_eq 13 dJ0_coder_7d493_3 (by decide) (fun h2 => ?_) (fun h2 => ?_)
  · refine ev_iconst dJ0_coder_7d493_13 ?_
    have e9 : v1 = 1 := hv1.trans ((if_pos h2))
    subst e9
    exact hJv1
  · refine ev_aload_n dJ0_coder_7d493_6 0 rfl ?_
    refine ev_strcoder dJ0_coder_7d493_7 flJ0_15 ?_
    refine ev_goto 14 dJ0_coder_7d493_10 (by decide) ?_
    have e9 : v1 = 0 := hv1.trans ((if_neg h2))
    subst e9
    exact hJv1
theorem tJ0_coder_7d493 (hS : Sd M K P L) (hc : CIn P 1 1) (μ : Mem) {o : Int} (hf : fJ0_coder_7d493 μ = o) : Cn l D cy g K K yJ0_coder_7d493 cJ0_coder_7d493 1 (some .byte) (rmd 1 0 0) [vr g 1022] M x (L μ) (PE (some (vi o)) M x (L μ)) :=
 Cn.ofF (by decide) (Nat.le_of_ble_eq_true rfl) (eJ0_coder_7d493 hS hc μ hf (PE_i _ _ _ _))
def fJ0_length_8abf5  (μ : Mem) : Int :=
  (i_shr 8 (fJ0_coder_7d493 μ))
set_option maxRecDepth 4000 in
theorem eJ0_length_8abf5 (hS : Sd M K P L) (hc : CIn P 1 1)  (μ : Mem)  {o : Int} (hf : fJ0_length_8abf5  μ = o) (hr : (fun o : Int => Φ (some (vi o)) M x (L μ)) o) : Ev l D cy g K yJ0_length_8abf5 cJ0_length_8abf5 1 (some .int) (rmd 2 0 0) (MX D cy g K (rmd 2 0 0) Φ) 0 0 M x (L μ) 0 [(0, vr g 1022)] [] := by
  unfold fJ0_length_8abf5 at hf
  refine ev_aload_n dJ0_length_8abf5_0 0 rfl ?_
  refine ev_strvalue dJ0_length_8abf5_1 flJ0_9 ?_
  refine ev_alenV dJ0_length_8abf5_4 ?_
  refine ev_rn (w := vi 8) rfl ?_
  refine ev_aload_n dJ0_length_8abf5_5 0 rfl ?_
  refine cl_T1 (As := []) (st := [vi 8]) miJ0_coder_7d493 (tJ0_coder_7d493 hS (hc.w rfl rfl) μ (o := (fJ0_coder_7d493 μ)) rfl) dJ0_length_8abf5_6 lkJ0_335 inJ0_coder_7d493 rfl rfl ⟨⟨Nat.le_of_ble_eq_true rfl, Nat.le_of_ble_eq_true rfl⟩, Nat.zero_le _, Nat.zero_le _⟩ (Nat.le_of_ble_eq_true rfl) ?_
  refine ev_ishr dJ0_length_8abf5_9 ?_
  obtain rfl := hf
  exact ev_iret dJ0_length_8abf5_10 rfl ⟨Nat.zero_le _, Nat.zero_le _⟩ hr
theorem tJ0_length_8abf5 (hS : Sd M K P L) (hc : CIn P 1 1) (μ : Mem) {o : Int} (hf : fJ0_length_8abf5 μ = o) : Cn l D cy g K K yJ0_length_8abf5 cJ0_length_8abf5 1 (some .int) (rmd 2 0 0) [vr g 1022] M x (L μ) (PE (some (vi o)) M x (L μ)) :=
 Cn.ofF (by decide) (Nat.le_of_ble_eq_true rfl) (eJ0_length_8abf5 hS hc μ hf (PE_i _ _ _ _))
def fJ1_canEncode_9a6ad (p00 : Int) : Bool :=
  lt (if w32 p00 < 0 then
      false
    else
      if w32 p00 ≤ w32 255 then
        true
      else
        false) fun v1 =>
  v1
set_option maxRecDepth 4000 in
theorem eJ1_canEncode_9a6ad  (p00 : Int) (μ : Mem)  {o : Bool} (hf : fJ1_canEncode_9a6ad p00 = o) (hr : (fun o : Bool => Φ (some (vb o)) M x μ) o) : Ev l D cy g K yJ1_canEncode_9a6ad cJ1_canEncode_9a6ad 1 (some .boolean) (rmd 1 0 0) (MX D cy g K (rmd 1 0 0) Φ) 0 0 M x μ 0 [(0, vi p00)] [] := by
  unfold fJ1_canEncode_9a6ad at hf
  refine ev_iload_n dJ1_canEncode_9a6ad_0 0 rfl ?_
  obtain ⟨v1, hv1, hf⟩ := lt_elim hf
  have hJv1 : Ev l D cy g K yJ1_canEncode_9a6ad cJ1_canEncode_9a6ad 1 (some .boolean) (rmd 1 0 0) (MX D cy g K (rmd 1 0 0) Φ) 0 0 M x μ 16 [(0, vi p00)] [vb v1] := by
    obtain rfl := hf
    exact ev_bret (b := v1) dJ1_canEncode_9a6ad_16 rfl ⟨Nat.zero_le _, Nat.zero_le _⟩ hr
  refine ev_if_lt 15 dJ1_canEncode_9a6ad_1 (by decide) (fun h2 => ?_) (fun h2 => ?_)
  · refine ev_iconst dJ1_canEncode_9a6ad_15 ?_
    have e9 : v1 = false := hv1.trans ((if_pos h2))
    subst e9
    exact hJv1
  · refine ev_iload_n dJ1_canEncode_9a6ad_4 0 rfl ?_
    refine ev_sipush dJ1_canEncode_9a6ad_5 (by decide) ?_
    refine ev_icmp_gt 15 dJ1_canEncode_9a6ad_8 (by decide) (fun h3 => ?_) (fun h3 => ?_)
    · refine ev_iconst dJ1_canEncode_9a6ad_15 ?_
      have e9 : v1 = false := hv1.trans (((if_neg h2)).trans (if_neg h3))
      subst e9
      exact hJv1
    · refine ev_iconst dJ1_canEncode_9a6ad_11 ?_
      refine ev_goto 16 dJ1_canEncode_9a6ad_12 (by decide) ?_
      have e9 : v1 = true := hv1.trans (((if_neg h2)).trans (if_pos h3))
      subst e9
      exact hJv1
theorem tJ1_canEncode_9a6ad (p00 : Int) (μ : Mem) {o : Bool} (hf : fJ1_canEncode_9a6ad p00 = o) : Cn l D cy g K K yJ1_canEncode_9a6ad cJ1_canEncode_9a6ad 1 (some .boolean) (rmd 1 0 0) [vi p00] M x μ (PE (some (vb o)) M x μ) :=
 Cn.ofF (by decide) (Nat.le_of_ble_eq_true rfl) (eJ1_canEncode_9a6ad p00 μ hf (PE_i _ _ _ _))
def fJ1_indexOfChar_4cfef_b7 (p10 : Int) (p20 : Int) (p30 : Int) (v1 : Int) (v2 : Int) (μ : Mem) : Option ((Int) ⊕ (Int)) :=
  if w32 v2 < w32 p30 then
    gd (0 ≤ w32 v2 ∧ w32 v2 < 8) <|
    if w32 (sgnL.getD (w32 v2).toNat 0) = w32 v1 then
      some (.inr v2)
    else
      some (.inl (v2 + 1))
  else
    some (.inr (-1))
set_option maxRecDepth 4000 in
theorem tJ1_indexOfChar_4cfef_b7 (hS : Sd M K P L) (hc : CIn P 1 1) (p10 : Int) (p20 : Int) (p30 : Int) (v1 : Int) (v2 : Int) (μ : Mem)  {o : (Int) ⊕ (Int)} (hf : fJ1_indexOfChar_4cfef_b7 p10 p20 p30 v1 v2 μ = some o) (hr : (Sum.elim (fun s : Int => Ev l D cy g K yJ1_indexOfChar_4cfef cJ1_indexOfChar_4cfef 6 (some .int) (rmd 1 0 0) (MX D cy g K (rmd 1 0 0) Φ) 0 0 M x (L μ) 7 [(0, vr g 1023), (3, vi p30), (4, vi v1), (5, vi s)] []) (fun o : Int => Φ (some (vi o)) M x (L μ))) o) : Ev l D cy g K yJ1_indexOfChar_4cfef cJ1_indexOfChar_4cfef 6 (some .int) (rmd 1 0 0) (MX D cy g K (rmd 1 0 0) Φ) 0 0 M x (L μ) 7 [(0, vr g 1023), (3, vi p30), (4, vi v1), (5, vi v2)] [] := by
  unfold fJ1_indexOfChar_4cfef_b7 at hf
  refine ev_iload dJ1_indexOfChar_4cfef_7 3 rfl ?_
  refine ev_iload_n dJ1_indexOfChar_4cfef_9 1 rfl ?_
  refine ev_icmp_ge 31 dJ1_indexOfChar_4cfef_10 (by decide) (fun h3 => ?_) (fun h3 => ?_)
  · rw [if_neg h3] at hf
    refine ev_iconst dJ1_indexOfChar_4cfef_31 ?_
    obtain rfl := Option.some.inj hf
    exact ev_iret dJ1_indexOfChar_4cfef_32 rfl ⟨Nat.zero_le _, Nat.zero_le _⟩ hr
  · rw [if_pos h3] at hf
    refine ev_aload_n dJ1_indexOfChar_4cfef_13 0 rfl ?_
    refine ev_iload dJ1_indexOfChar_4cfef_14 3 rfl ?_
    obtain ⟨g4, hf⟩ := gd_elim hf
    refine ev_baldV dJ1_indexOfChar_4cfef_16 g4 ?_
    refine ev_iload dJ1_indexOfChar_4cfef_17 2 rfl ?_
    refine ev_icmp_ne 25 dJ1_indexOfChar_4cfef_19 (by decide) (fun h5 => ?_) (fun h5 => ?_)
    · rw [if_neg h5] at hf
      refine ev_iinc (al2 := [(5, vi (v2 + 1)), (0, vr g 1023), (3, vi p30), (4, vi v1)]) dJ1_indexOfChar_4cfef_25 3 rfl (by decide) rfl ?_
      refine ev_goto 7 dJ1_indexOfChar_4cfef_28 (by decide) ?_
      obtain rfl := Option.some.inj hf
      refine ev_sub [1, 2, 3, 0] rfl ?_
      exact hr
    · rw [if_pos h5] at hf
      refine ev_iload dJ1_indexOfChar_4cfef_22 3 rfl ?_
      obtain rfl := Option.some.inj hf
      exact ev_iret dJ1_indexOfChar_4cfef_24 rfl ⟨Nat.zero_le _, Nat.zero_le _⟩ hr
def fJ1_indexOfChar_4cfef (p10 : Int) (p20 : Int) (p30 : Int) (μ : Mem) : Option (Int) :=
  lt (i_2b p10) fun v1 =>
  loopN (fun s => fJ1_indexOfChar_4cfef_b7 p10 p20 p30 v1 s μ) FU p20
set_option maxRecDepth 4000 in
theorem eJ1_indexOfChar_4cfef (hS : Sd M K P L) (hc : CIn P 1 1) (p10 : Int) (p20 : Int) (p30 : Int) (μ : Mem)  {o : Int} (hf : fJ1_indexOfChar_4cfef p10 p20 p30 μ = some o) (hr : (fun o : Int => Φ (some (vi o)) M x (L μ)) o) : Ev l D cy g K yJ1_indexOfChar_4cfef cJ1_indexOfChar_4cfef 6 (some .int) (rmd 1 0 0) (MX D cy g K (rmd 1 0 0) Φ) 0 0 M x (L μ) 0 [(0, vr g 1023), (1, vi p10), (2, vi p20), (3, vi p30)] [] := by
  unfold fJ1_indexOfChar_4cfef at hf
  refine ev_iload_n dJ1_indexOfChar_4cfef_0 1 rfl ?_
  refine ev_i2b dJ1_indexOfChar_4cfef_1 ?_
  obtain ⟨v1, hv1, hf⟩ := lt_elim hf
  refine ev_rni hv1 ?_
  refine ev_istore (al2 := [(4, vi v1), (0, vr g 1023), (1, vi p10), (2, vi p20), (3, vi p30)]) dJ1_indexOfChar_4cfef_2 (by decide) rfl ?_
  refine ev_iload_n dJ1_indexOfChar_4cfef_4 3 rfl ?_
  refine ev_istore (al2 := [(5, vi p20), (4, vi v1), (0, vr g 1023), (1, vi p10), (2, vi p20), (3, vi p30)]) dJ1_indexOfChar_4cfef_5 (by decide) rfl ?_
  refine ev_sub [2, 5, 1, 0] rfl ?_
  exact loop_ev (H := (fun s : Int => Ev l D cy g K yJ1_indexOfChar_4cfef cJ1_indexOfChar_4cfef 6 (some .int) (rmd 1 0 0) (MX D cy g K (rmd 1 0 0) Φ) 0 0 M x (L μ) 7 [(0, vr g 1023), (3, vi p30), (4, vi v1), (5, vi s)] [])) (Hx := (fun o : Int => Φ (some (vi o)) M x (L μ))) (fun s o hb hr => tJ1_indexOfChar_4cfef_b7 hS hc p10 p20 p30 v1 s μ hb hr) FU _ _ hf hr
theorem tJ1_indexOfChar_4cfef (hS : Sd M K P L) (hc : CIn P 1 1) (p10 : Int) (p20 : Int) (p30 : Int) (μ : Mem) {o : Int} (hf : fJ1_indexOfChar_4cfef p10 p20 p30 μ = some o) : Cn l D cy g K K yJ1_indexOfChar_4cfef cJ1_indexOfChar_4cfef 6 (some .int) (rmd 1 0 0) [vr g 1023, vi p10, vi p20, vi p30] M x (L μ) (PE (some (vi o)) M x (L μ)) :=
 Cn.ofF (by decide) (Nat.le_of_ble_eq_true rfl) (eJ1_indexOfChar_4cfef hS hc p10 p20 p30 μ hf (PE_i _ _ _ _))
def fJ1_indexOf_4cfef (p10 : Int) (p20 : Int) (p30 : Int) (μ : Mem) : Option (Int) :=
  if (fJ1_canEncode_9a6ad p10) = true then
    lt (imax p20 0) fun v2 =>
    lt (imin p30 8) fun v3 =>
    if w32 v2 < w32 v3 then
      (fJ1_indexOfChar_4cfef p10 v2 v3 μ).bind fun v5 =>
      some (v5)
    else
      some ((-1))
  else
    some ((-1))
set_option maxRecDepth 4000 in
theorem eJ1_indexOf_4cfef (hS : Sd M K P L) (hc : CIn P 1 1) (p10 : Int) (p20 : Int) (p30 : Int) (μ : Mem)  {o : Int} (hf : fJ1_indexOf_4cfef p10 p20 p30 μ = some o) (hr : (fun o : Int => Φ (some (vi o)) M x (L μ)) o) : Ev l D cy g K yJ1_indexOf_4cfef cJ1_indexOf_4cfef 4 (some .int) (rmd 2 0 0) (MX D cy g K (rmd 2 0 0) Φ) 0 0 M x (L μ) 0 [(0, vr g 1023), (1, vi p10), (2, vi p20), (3, vi p30)] [] := by
  unfold fJ1_indexOf_4cfef at hf
  refine ev_iload_n dJ1_indexOf_4cfef_0 1 rfl ?_
  refine cl_S1 (As := [vi p10]) (st := []) miJ1_canEncode_9a6ad (tJ1_canEncode_9a6ad p10 (L μ) (o := (fJ1_canEncode_9a6ad p10)) rfl) dJ1_indexOf_4cfef_1 lkJ1_88 stJ1_canEncode_9a6ad rfl ⟨⟨Nat.le_of_ble_eq_true rfl, Nat.le_of_ble_eq_true rfl⟩, Nat.zero_le _, Nat.zero_le _⟩ (Nat.le_of_ble_eq_true rfl) ?_
  refine ev_ifb_ne 9 dJ1_indexOf_4cfef_4 (by decide) (fun h1 => ?_) (fun h1 => ?_)
  · rw [if_pos h1] at hf
    refine ev_iload_n dJ1_indexOf_4cfef_9 2 rfl ?_
    refine ev_iconst dJ1_indexOf_4cfef_10 ?_
    refine ev_mmax dJ1_indexOf_4cfef_11 lkJ1_92 ⟨Nat.le_of_ble_eq_true rfl, Nat.le_of_ble_eq_true rfl, Nat.zero_le _, Nat.zero_le _⟩ ?_
    obtain ⟨v2, hv2, hf⟩ := lt_elim hf
    refine ev_rni hv2 ?_
    refine ev_istore_n (al2 := [(2, vi v2), (0, vr g 1023), (1, vi p10), (3, vi p30)]) dJ1_indexOf_4cfef_14 2 rfl (by decide) rfl ?_
    refine ev_iload_n dJ1_indexOf_4cfef_15 3 rfl ?_
    refine ev_aload_n dJ1_indexOf_4cfef_16 1 rfl ?_
    refine ev_alenV dJ1_indexOf_4cfef_17 ?_
    refine ev_rn (w := vi 8) rfl ?_
    refine ev_mmin dJ1_indexOf_4cfef_18 lkJ1_38 ⟨Nat.le_of_ble_eq_true rfl, Nat.le_of_ble_eq_true rfl, Nat.zero_le _, Nat.zero_le _⟩ ?_
    obtain ⟨v3, hv3, hf⟩ := lt_elim hf
    refine ev_rni hv3 ?_
    refine ev_istore_n (al2 := [(3, vi v3), (2, vi v2), (0, vr g 1023), (1, vi p10)]) dJ1_indexOf_4cfef_21 3 rfl (by decide) rfl ?_
    refine ev_iload_n dJ1_indexOf_4cfef_22 1 rfl ?_
    refine ev_iload_n dJ1_indexOf_4cfef_23 0 rfl ?_
    refine ev_icmp_lt 29 dJ1_indexOf_4cfef_24 (by decide) (fun h4 => ?_) (fun h4 => ?_)
    · rw [if_pos h4] at hf
      refine ev_aload_n dJ1_indexOf_4cfef_29 2 rfl ?_
      refine ev_iload_n dJ1_indexOf_4cfef_30 3 rfl ?_
      refine ev_iload_n dJ1_indexOf_4cfef_31 1 rfl ?_
      refine ev_iload_n dJ1_indexOf_4cfef_32 0 rfl ?_
      obtain ⟨v5, hv5, hf⟩ := Option.bind_eq_some_iff.mp hf
      refine cl_S1 (As := [vr g 1023, vi p10, vi v2, vi v3]) (st := []) miJ1_indexOfChar_4cfef (tJ1_indexOfChar_4cfef hS (hc.w rfl rfl) p10 v2 v3 μ hv5) dJ1_indexOf_4cfef_33 lkJ1_95 stJ1_indexOfChar_4cfef rfl ⟨⟨Nat.le_of_ble_eq_true rfl, Nat.le_of_ble_eq_true rfl⟩, Nat.zero_le _, Nat.zero_le _⟩ (Nat.le_of_ble_eq_true rfl) ?_
      obtain rfl := Option.some.inj hf
      exact ev_iret dJ1_indexOf_4cfef_36 rfl ⟨Nat.zero_le _, Nat.zero_le _⟩ hr
    · rw [if_neg h4] at hf
      refine ev_iconst dJ1_indexOf_4cfef_27 ?_
      obtain rfl := Option.some.inj hf
      exact ev_iret dJ1_indexOf_4cfef_28 rfl ⟨Nat.zero_le _, Nat.zero_le _⟩ hr
  · rw [if_neg h1] at hf
    refine ev_iconst dJ1_indexOf_4cfef_7 ?_
    obtain rfl := Option.some.inj hf
    exact ev_iret dJ1_indexOf_4cfef_8 rfl ⟨Nat.zero_le _, Nat.zero_le _⟩ hr
theorem tJ1_indexOf_4cfef (hS : Sd M K P L) (hc : CIn P 1 1) (p10 : Int) (p20 : Int) (p30 : Int) (μ : Mem) {o : Int} (hf : fJ1_indexOf_4cfef p10 p20 p30 μ = some o) : Cn l D cy g K K yJ1_indexOf_4cfef cJ1_indexOf_4cfef 4 (some .int) (rmd 2 0 0) [vr g 1023, vi p10, vi p20, vi p30] M x (L μ) (PE (some (vi o)) M x (L μ)) :=
 Cn.ofF (by decide) (Nat.le_of_ble_eq_true rfl) (eJ1_indexOf_4cfef hS hc p10 p20 p30 μ hf (PE_i _ _ _ _))
def fJ0_indexOf_7cf53 (p00 : Int) (p10 : Int) (μ : Mem) : Option (Int) :=
  if (fJ0_isLatin1_aae02 μ) = true then
    (fJ1_indexOf_4cfef p00 p10 (i_shr 8 (fJ0_coder_7d493 μ)) μ).bind fun v2 =>
    some (v2)
  else
    none
set_option maxRecDepth 4000 in
theorem eJ0_indexOf_7cf53 (hS : Sd M K P L) (hc : CIn P 1 1) (p00 : Int) (p10 : Int) (μ : Mem)  {o : Int} (hf : fJ0_indexOf_7cf53 p00 p10 μ = some o) (hr : (fun o : Int => Φ (some (vi o)) M x (L μ)) o) : Ev l D cy g K yJ0_indexOf_7cf53 cJ0_indexOf_7cf53 3 (some .int) (rmd 3 0 0) (MX D cy g K (rmd 3 0 0) Φ) 0 0 M x (L μ) 0 [(0, vr g 1022), (1, vi p00), (2, vi p10)] [] := by
  unfold fJ0_indexOf_7cf53 at hf
  refine ev_aload_n dJ0_indexOf_7cf53_0 0 rfl ?_
  refine cl_T1 (As := []) (st := []) miJ0_isLatin1_aae02 (tJ0_isLatin1_aae02 hS (hc.w rfl rfl) μ (o := (fJ0_isLatin1_aae02 μ)) rfl) dJ0_indexOf_7cf53_1 lkJ0_492 inJ0_isLatin1_aae02 rfl rfl ⟨⟨Nat.le_of_ble_eq_true rfl, Nat.le_of_ble_eq_true rfl⟩, Nat.zero_le _, Nat.zero_le _⟩ (Nat.le_of_ble_eq_true rfl) ?_
  refine ev_ifb_eq 23 dJ0_indexOf_7cf53_4 (by decide) (fun h1 => ?_) (fun h1 => ?_)
  · rw [if_neg h1] at hf
    refine ev_aload_n dJ0_indexOf_7cf53_23 0 rfl ?_
    refine ev_strvalue dJ0_indexOf_7cf53_24 flJ0_9 ?_
    refine ev_iload_n dJ0_indexOf_7cf53_27 1 rfl ?_
    refine ev_iload_n dJ0_indexOf_7cf53_28 2 rfl ?_
    refine ev_aload_n dJ0_indexOf_7cf53_29 0 rfl ?_
    refine cl_T1 (As := []) (st := [vi p10, vi p00, vr g 1023]) miJ0_length_8abf5 (tJ0_length_8abf5 hS (hc.w rfl rfl) μ (o := (i_shr 8 (fJ0_coder_7d493 μ))) rfl) dJ0_indexOf_7cf53_30 lkJ0_505 inJ0_length_8abf5 rfl rfl ⟨⟨Nat.le_of_ble_eq_true rfl, Nat.le_of_ble_eq_true rfl⟩, Nat.zero_le _, Nat.zero_le _⟩ (Nat.le_of_ble_eq_true rfl) ?_
    cases hf
  · rw [if_pos h1] at hf
    refine ev_aload_n dJ0_indexOf_7cf53_7 0 rfl ?_
    refine ev_strvalue dJ0_indexOf_7cf53_8 flJ0_9 ?_
    refine ev_iload_n dJ0_indexOf_7cf53_11 1 rfl ?_
    refine ev_iload_n dJ0_indexOf_7cf53_12 2 rfl ?_
    refine ev_aload_n dJ0_indexOf_7cf53_13 0 rfl ?_
    refine cl_T1 (As := []) (st := [vi p10, vi p00, vr g 1023]) miJ0_length_8abf5 (tJ0_length_8abf5 hS (hc.w rfl rfl) μ (o := (i_shr 8 (fJ0_coder_7d493 μ))) rfl) dJ0_indexOf_7cf53_14 lkJ0_505 inJ0_length_8abf5 rfl rfl ⟨⟨Nat.le_of_ble_eq_true rfl, Nat.le_of_ble_eq_true rfl⟩, Nat.zero_le _, Nat.zero_le _⟩ (Nat.le_of_ble_eq_true rfl) ?_
    obtain ⟨v2, hv2, hf⟩ := Option.bind_eq_some_iff.mp hf
    refine cl_S1 (As := [vr g 1023, vi p00, vi p10, vi (i_shr 8 (fJ0_coder_7d493 μ))]) (st := []) miJ1_indexOf_4cfef (tJ1_indexOf_4cfef hS (hc.w rfl rfl) p00 p10 (i_shr 8 (fJ0_coder_7d493 μ)) μ hv2) dJ0_indexOf_7cf53_17 lkJ0_637 stJ1_indexOf_4cfef rfl ⟨⟨Nat.le_of_ble_eq_true rfl, Nat.le_of_ble_eq_true rfl⟩, Nat.zero_le _, Nat.zero_le _⟩ (Nat.le_of_ble_eq_true rfl) ?_
    refine ev_goto 36 dJ0_indexOf_7cf53_20 (by decide) ?_
    obtain rfl := Option.some.inj hf
    exact ev_iret dJ0_indexOf_7cf53_36 rfl ⟨Nat.zero_le _, Nat.zero_le _⟩ hr
theorem tJ0_indexOf_7cf53 (hS : Sd M K P L) (hc : CIn P 1 1) (p00 : Int) (p10 : Int) (μ : Mem) {o : Int} (hf : fJ0_indexOf_7cf53 p00 p10 μ = some o) : Cn l D cy g K K yJ0_indexOf_7cf53 cJ0_indexOf_7cf53 3 (some .int) (rmd 3 0 0) [vr g 1022, vi p00, vi p10] M x (L μ) (PE (some (vi o)) M x (L μ)) :=
 Cn.ofF (by decide) (Nat.le_of_ble_eq_true rfl) (eJ0_indexOf_7cf53 hS hc p00 p10 μ hf (PE_i _ _ _ _))
def fJ0_indexOf_0f7a4 (p00 : Int) (μ : Mem) : Option (Int) :=
  (fJ0_indexOf_7cf53 p00 0 μ).bind fun v1 =>
  some (v1)
set_option maxRecDepth 4000 in
theorem eJ0_indexOf_0f7a4 (hS : Sd M K P L) (hc : CIn P 1 1) (p00 : Int) (μ : Mem)  {o : Int} (hf : fJ0_indexOf_0f7a4 p00 μ = some o) (hr : (fun o : Int => Φ (some (vi o)) M x (L μ)) o) : Ev l D cy g K yJ0_indexOf_0f7a4 cJ0_indexOf_0f7a4 2 (some .int) (rmd 4 0 0) (MX D cy g K (rmd 4 0 0) Φ) 0 0 M x (L μ) 0 [(0, vr g 1022), (1, vi p00)] [] := by
  unfold fJ0_indexOf_0f7a4 at hf
  refine ev_aload_n dJ0_indexOf_0f7a4_0 0 rfl ?_
  refine ev_iload_n dJ0_indexOf_0f7a4_1 1 rfl ?_
  refine ev_iconst dJ0_indexOf_0f7a4_2 ?_
  obtain ⟨v1, hv1, hf⟩ := Option.bind_eq_some_iff.mp hf
  refine cl_T1 (As := [vi p00, vi 0]) (st := []) miJ0_indexOf_7cf53 (tJ0_indexOf_7cf53 hS (hc.w rfl rfl) p00 0 μ hv1) dJ0_indexOf_0f7a4_3 lkJ0_633 inJ0_indexOf_7cf53 rfl rfl ⟨⟨Nat.le_of_ble_eq_true rfl, Nat.le_of_ble_eq_true rfl⟩, Nat.zero_le _, Nat.zero_le _⟩ (Nat.le_of_ble_eq_true rfl) ?_
  obtain rfl := Option.some.inj hf
  exact ev_iret dJ0_indexOf_0f7a4_6 rfl ⟨Nat.zero_le _, Nat.zero_le _⟩ hr
theorem tJ0_indexOf_0f7a4 (hS : Sd M K P L) (hc : CIn P 1 1) (p00 : Int) (μ : Mem) {o : Int} (hf : fJ0_indexOf_0f7a4 p00 μ = some o) : Cn l D cy g K K yJ0_indexOf_0f7a4 cJ0_indexOf_0f7a4 2 (some .int) (rmd 4 0 0) [vr g 1022, vi p00] M x (L μ) (PE (some (vi o)) M x (L μ)) :=
 Cn.ofF (by decide) (Nat.le_of_ble_eq_true rfl) (eJ0_indexOf_0f7a4 hS hc p00 μ hf (PE_i _ _ _ _))
def fX9_step_b8  (μ : Mem) : Option ((Mem) ⊕ (Mem)) :=
  if w32 (μ 1 2) < w32 (μ 1 1) then
    lt (fX9_isBlank (fX9_signAt (μ 1 2) μ)) fun v3 =>
    if v3 = true then
      lt (upd2 μ 1 2 ((μ 1 2) + 1)) fun μ5 =>
      some (.inl μ5)
    else
      some (.inr μ)
  else
    some (.inr μ)
set_option maxRecDepth 4000 in
theorem tX9_step_b8 (hS : Sd M K P L) (hc : CIn P 1 3)  (μ : Mem)  {o : (Mem) ⊕ (Mem)} (hf : fX9_step_b8 μ = some o) (hr : (Sum.elim (fun s : Mem => Ev l D cy g K yX9_step cX9_step 2 none (rmd 5 0 0) (MX D cy g K (rmd 5 0 0) Φ) 0 0 M x (L s) 8 [(0, vr g 1)] []) (fun e : Mem => Ev l D cy g K yX9_step cX9_step 2 none (rmd 5 0 0) (MX D cy g K (rmd 5 0 0) Φ) 0 0 M x (L e) 46 [(0, vr g 1)] [])) o) : Ev l D cy g K yX9_step cX9_step 2 none (rmd 5 0 0) (MX D cy g K (rmd 5 0 0) Φ) 0 0 M x (L μ) 8 [(0, vr g 1)] [] := by
  unfold fX9_step_b8 at hf
  refine ev_aload_n dX9_step_8 0 rfl ?_
  refine ev_getI 2 dX9_step_9 (hS.lt (hc 1 rfl)) rfl (hS.mem _ (hc 1 rfl)) ciX9 (by decide) rfl flX9_44 ?_
  refine ev_aload_n dX9_step_12 0 rfl ?_
  refine ev_getI 1 dX9_step_13 (hS.lt (hc 1 rfl)) rfl (hS.mem _ (hc 1 rfl)) ciX9 (by decide) rfl flX9_34 ?_
  refine ev_icmp_ge 46 dX9_step_16 (by decide) (fun h2 => ?_) (fun h2 => ?_)
  · rw [if_neg h2] at hf
    obtain rfl := Option.some.inj hf
    refine ev_sub [0] rfl ?_
    exact hr
  · rw [if_pos h2] at hf
    refine ev_aload_n dX9_step_19 0 rfl ?_
    refine ev_aload_n dX9_step_20 0 rfl ?_
    refine ev_getI 2 dX9_step_21 (hS.lt (hc 1 rfl)) rfl (hS.mem _ (hc 1 rfl)) ciX9 (by decide) rfl flX9_44 ?_
    refine cl_V1 (As := [vi (μ 1 2)]) (st := []) miX9_signAt (tX9_signAt hS (hc.w rfl rfl) (μ 1 2) μ (o := (fX9_signAt (μ 1 2) μ)) rfl) dX9_step_24 lkX9_47 inX9_signAt rfl (hS.lt (hc 1 rfl)) rfl ⟨rfl, rfl⟩ ⟨⟨Nat.le_of_ble_eq_true rfl, Nat.le_of_ble_eq_true rfl⟩, Nat.zero_le _, Nat.zero_le _⟩ (Nat.le_of_ble_eq_true rfl) ?_
    obtain ⟨v3, hv3, hf⟩ := lt_elim hf
    refine cl_S1 (As := [vi (fX9_signAt (μ 1 2) μ)]) (st := []) miX9_isBlank (tX9_isBlank (fX9_signAt (μ 1 2) μ) (L μ) hv3.symm) dX9_step_27 lkX9_51 stX9_isBlank rfl ⟨⟨Nat.le_of_ble_eq_true rfl, Nat.le_of_ble_eq_true rfl⟩, Nat.zero_le _, Nat.zero_le _⟩ (Nat.le_of_ble_eq_true rfl) ?_
    refine ev_ifb_eq 46 dX9_step_30 (by decide) (fun h4 => ?_) (fun h4 => ?_)
    · rw [if_neg h4] at hf
      obtain rfl := Option.some.inj hf
      refine ev_sub [0] rfl ?_
      exact hr
    · rw [if_pos h4] at hf
      refine ev_aload_n dX9_step_33 0 rfl ?_
      refine ev_dup dX9_step_34 rfl ?_
      refine ev_getI 2 dX9_step_35 (hS.lt (hc 1 rfl)) rfl (hS.mem _ (hc 1 rfl)) ciX9 (by decide) rfl flX9_44 ?_
      refine ev_iconst dX9_step_38 ?_
      refine ev_iadd dX9_step_39 ?_
      obtain ⟨μ5, hμ5, hf⟩ := lt_elim hf
      refine ev_putI 2 dX9_step_40 (hS.lt (hc 1 rfl)) rfl ciX9 (by decide) (Or.inl rfl) rfl rfl flX9_44 (hS.up (hc 1 rfl) hμ5) ?_
      refine ev_goto 8 dX9_step_43 (by decide) ?_
      obtain rfl := Option.some.inj hf
      refine ev_sub [0] rfl ?_
      exact hr
def fX9_step_j46  (μ : Mem) : Option (Mem) :=
  lt (upd2 μ 1 3 (μ 1 2)) fun μ7 =>
  lt (upd2 μ7 1 7 1000) fun μ8 =>
  lt (fX9_signAt (μ8 1 2) μ8) fun v9 =>
  if w32 (μ8 1 2) < w32 (μ8 1 1) then
    if (fX9_isLetter v9) = true then
      (fX9_readWord μ8).bind fun μ19 =>
      some (μ19)
    else
      if (fX9_isFigure v9) = true then
        (fX9_readNumber μ8).bind fun μ18 =>
        some (μ18)
      else
        (fJ0_indexOf_0f7a4 v9 μ8).bind fun v13 =>
        lt (if w32 v13 < 0 then
            115
          else
            v9) fun v14 =>
        lt (upd2 μ8 1 4 v14) fun μ16 =>
        lt (upd2 μ16 1 3 ((μ16 1 2) + 1)) fun μ17 =>
        some (μ17)
  else
    lt (upd2 μ8 1 4 101) fun μ20 =>
    some (μ20)
set_option maxRecDepth 4000 in
theorem tX9_step_j46 (hS : Sd M K P L) (hc : CIn P 1 3)  (μ : Mem)  {o : Mem} (hf : fX9_step_j46 μ = some o) (hr : (fun o : Mem => Φ none M x (L o)) o) : Ev l D cy g K yX9_step cX9_step 2 none (rmd 5 0 0) (MX D cy g K (rmd 5 0 0) Φ) 0 0 M x (L μ) 46 [(0, vr g 1)] [] := by
  unfold fX9_step_j46 at hf
  refine ev_aload_n dX9_step_46 0 rfl ?_
  refine ev_aload_n dX9_step_47 0 rfl ?_
  refine ev_getI 2 dX9_step_48 (hS.lt (hc 1 rfl)) rfl (hS.mem _ (hc 1 rfl)) ciX9 (by decide) rfl flX9_44 ?_
  obtain ⟨μ7, hμ7, hf⟩ := lt_elim hf
  refine ev_putI 3 dX9_step_51 (hS.lt (hc 1 rfl)) rfl ciX9 (by decide) (Or.inl rfl) rfl rfl flX9_38 (hS.up (hc 1 rfl) hμ7) ?_
  refine ev_aload_n dX9_step_54 0 rfl ?_
  refine ev_getsW 0 dX9_step_55 (by decide) rfl flX9_19 ?_
  obtain ⟨μ8, hμ8, hf⟩ := lt_elim hf
  refine ev_putR 7 dX9_step_58 (hS.lt (hc 1 rfl)) rfl ciX9 (by decide) (Or.inl rfl) rfl flX9_25 (hS.K0 (hc 1 rfl) rfl) (fun _ => ⟨rfl, rfl⟩) (hS.up (hc 1 rfl) hμ8) ?_
  refine ev_aload_n dX9_step_61 0 rfl ?_
  refine ev_aload_n dX9_step_62 0 rfl ?_
  refine ev_getI 2 dX9_step_63 (hS.lt (hc 1 rfl)) rfl (hS.mem _ (hc 1 rfl)) ciX9 (by decide) rfl flX9_44 ?_
  refine cl_V1 (As := [vi (μ8 1 2)]) (st := []) miX9_signAt (tX9_signAt hS (hc.w rfl rfl) (μ8 1 2) μ8 (o := (fX9_signAt (μ8 1 2) μ8)) rfl) dX9_step_66 lkX9_47 inX9_signAt rfl (hS.lt (hc 1 rfl)) rfl ⟨rfl, rfl⟩ ⟨⟨Nat.le_of_ble_eq_true rfl, Nat.le_of_ble_eq_true rfl⟩, Nat.zero_le _, Nat.zero_le _⟩ (Nat.le_of_ble_eq_true rfl) ?_
  obtain ⟨v9, hv9, hf⟩ := lt_elim hf
  refine ev_rni hv9 ?_
  refine ev_istore_n (al2 := [(1, vi v9), (0, vr g 1)]) dX9_step_69 1 rfl (by decide) rfl ?_
  refine ev_aload_n dX9_step_70 1 rfl ?_
  refine ev_getI 2 dX9_step_71 (hS.lt (hc 1 rfl)) rfl (hS.mem _ (hc 1 rfl)) ciX9 (by decide) rfl flX9_44 ?_
  refine ev_aload_n dX9_step_74 1 rfl ?_
  refine ev_getI 1 dX9_step_75 (hS.lt (hc 1 rfl)) rfl (hS.mem _ (hc 1 rfl)) ciX9 (by decide) rfl flX9_34 ?_
  refine ev_icmp_lt 90 dX9_step_78 (by decide) (fun h10 => ?_) (fun h10 => ?_)
  · rw [if_pos h10] at hf
    refine ev_iload_n dX9_step_90 0 rfl ?_
    refine cl_S1 (As := [vi v9]) (st := []) miX9_isLetter (tX9_isLetter v9 (L μ8) (o := (fX9_isLetter v9)) rfl) dX9_step_91 lkX9_55 stX9_isLetter rfl ⟨⟨Nat.le_of_ble_eq_true rfl, Nat.le_of_ble_eq_true rfl⟩, Nat.zero_le _, Nat.zero_le _⟩ (Nat.le_of_ble_eq_true rfl) ?_
    refine ev_ifb_eq 104 dX9_step_94 (by decide) (fun h11 => ?_) (fun h11 => ?_)
    · rw [if_neg h11] at hf
      refine ev_iload_n dX9_step_104 0 rfl ?_
      refine cl_S1 (As := [vi v9]) (st := []) miX9_isFigure (tX9_isFigure v9 (L μ8) (o := (fX9_isFigure v9)) rfl) dX9_step_105 lkX9_61 stX9_isFigure rfl ⟨⟨Nat.le_of_ble_eq_true rfl, Nat.le_of_ble_eq_true rfl⟩, Nat.zero_le _, Nat.zero_le _⟩ (Nat.le_of_ble_eq_true rfl) ?_
      refine ev_ifb_eq 118 dX9_step_108 (by decide) (fun h12 => ?_) (fun h12 => ?_)
      · rw [if_neg h12] at hf
        refine ev_aload_n dX9_step_118 1 rfl ?_
        refine ev_ldcS dX9_step_119 rfl ?_
        refine ev_iload_n dX9_step_121 0 rfl ?_
        obtain ⟨v13, hv13, hf⟩ := Option.bind_eq_some_iff.mp hf
        refine cl_T1 (As := [vi v9]) (st := [vr g 1]) miJ0_indexOf_0f7a4 (tJ0_indexOf_0f7a4 hS (hc.w rfl rfl) v9 μ8 hv13) dX9_step_122 lkX9_69 inJ0_indexOf_0f7a4 rfl rfl ⟨⟨Nat.le_of_ble_eq_true rfl, Nat.le_of_ble_eq_true rfl⟩, Nat.zero_le _, Nat.zero_le _⟩ (Nat.le_of_ble_eq_true rfl) ?_
        obtain ⟨v14, hv14, hf⟩ := lt_elim hf
        have hJv14 : Ev l D cy g K yX9_step cX9_step 2 none (rmd 5 0 0) (MX D cy g K (rmd 5 0 0) Φ) 0 0 M x (L μ8) 134 [(1, vi v9), (0, vr g 1)] [vi v14, vr g 1] := by
          obtain ⟨μ16, hμ16, hf⟩ := lt_elim hf
          refine ev_putC 4 dX9_step_134 (hS.lt (hc 1 rfl)) rfl ciX9 (by decide) (Or.inl rfl) rfl rfl flX9_15 (by rw [hv14]; (repeat' split); all_goals first | decide | exact ⟨by decide, by decide⟩ | exact (by rw [hv9]; exact (rng_fX9_signAt _ _))) (hS.up (hc 1 rfl) hμ16) ?_
          refine ev_aload_n dX9_step_137 1 rfl ?_
          refine ev_aload_n dX9_step_138 1 rfl ?_
          refine ev_getI 2 dX9_step_139 (hS.lt (hc 1 rfl)) rfl (hS.mem _ (hc 1 rfl)) ciX9 (by decide) rfl flX9_44 ?_
          refine ev_iconst dX9_step_142 ?_
          refine ev_iadd dX9_step_143 ?_
          obtain ⟨μ17, hμ17, hf⟩ := lt_elim hf
          refine ev_putI 3 dX9_step_144 (hS.lt (hc 1 rfl)) rfl ciX9 (by decide) (Or.inl rfl) rfl rfl flX9_38 (hS.up (hc 1 rfl) hμ17) ?_
          obtain rfl := Option.some.inj hf
          exact ev_vret dX9_step_147 rfl ⟨Nat.zero_le _, Nat.zero_le _⟩ hr
        refine ev_if_lt 132 dX9_step_125 (by decide) (fun h15 => ?_) (fun h15 => ?_)
        · refine ev_bipush dX9_step_132 (by decide) ?_
          have e9 : v14 = 115 := hv14.trans ((if_pos h15))
          subst e9
          exact hJv14
        · refine ev_iload_n dX9_step_128 0 rfl ?_
          refine ev_goto 134 dX9_step_129 (by decide) ?_
          have e9 : v14 = v9 := hv14.trans ((if_neg h15))
          subst e9
          exact hJv14
      · rw [if_pos h12] at hf
        refine ev_aload_n dX9_step_111 1 rfl ?_
        obtain ⟨μ18, hμ18, hf⟩ := Option.bind_eq_some_iff.mp hf
        refine cl_V0 (As := []) (st := []) miX9_readNumber (tX9_readNumber hS (hc.w rfl rfl) μ8 hμ18) dX9_step_112 lkX9_64 inX9_readNumber rfl (hS.lt (hc 1 rfl)) rfl ⟨rfl, rfl⟩ ⟨⟨Nat.le_of_ble_eq_true rfl, Nat.le_of_ble_eq_true rfl⟩, Nat.zero_le _, Nat.zero_le _⟩ (Nat.le_of_ble_eq_true rfl) ?_
        refine ev_goto 147 dX9_step_115 (by decide) ?_
        obtain rfl := Option.some.inj hf
        exact ev_vret dX9_step_147 rfl ⟨Nat.zero_le _, Nat.zero_le _⟩ hr
    · rw [if_pos h11] at hf
      refine ev_aload_n dX9_step_97 1 rfl ?_
      obtain ⟨μ19, hμ19, hf⟩ := Option.bind_eq_some_iff.mp hf
      refine cl_V0 (As := []) (st := []) miX9_readWord (tX9_readWord hS (hc.w rfl rfl) μ8 hμ19) dX9_step_98 lkX9_58 inX9_readWord rfl (hS.lt (hc 1 rfl)) rfl ⟨rfl, rfl⟩ ⟨⟨Nat.le_of_ble_eq_true rfl, Nat.le_of_ble_eq_true rfl⟩, Nat.zero_le _, Nat.zero_le _⟩ (Nat.le_of_ble_eq_true rfl) ?_
      refine ev_goto 147 dX9_step_101 (by decide) ?_
      obtain rfl := Option.some.inj hf
      exact ev_vret dX9_step_147 rfl ⟨Nat.zero_le _, Nat.zero_le _⟩ hr
  · rw [if_neg h10] at hf
    refine ev_aload_n dX9_step_81 1 rfl ?_
    refine ev_bipush dX9_step_82 (by decide) ?_
    obtain ⟨μ20, hμ20, hf⟩ := lt_elim hf
    refine ev_putC 4 dX9_step_84 (hS.lt (hc 1 rfl)) rfl ciX9 (by decide) (Or.inl rfl) rfl rfl flX9_15 (by decide) (hS.up (hc 1 rfl) hμ20) ?_
    refine ev_goto 147 dX9_step_87 (by decide) ?_
    obtain rfl := Option.some.inj hf
    exact ev_vret dX9_step_147 rfl ⟨Nat.zero_le _, Nat.zero_le _⟩ hr
def fX9_step  (μ : Mem) : Option (Mem) :=
  lt (upd2 μ 1 2 (μ 1 3)) fun μ1 =>
  (loopN (fun s => fX9_step_b8 s) FU μ1).bind fun q6 =>
  fX9_step_j46 q6
set_option maxRecDepth 4000 in
theorem eX9_step (hS : Sd M K P L) (hc : CIn P 1 3)  (μ : Mem)  {o : Mem} (hf : fX9_step  μ = some o) (hr : (fun o : Mem => Φ none M x (L o)) o) : Ev l D cy g K yX9_step cX9_step 2 none (rmd 5 0 0) (MX D cy g K (rmd 5 0 0) Φ) 0 0 M x (L μ) 0 [(0, vr g 1)] [] := by
  unfold fX9_step at hf
  refine ev_aload_n dX9_step_0 0 rfl ?_
  refine ev_aload_n dX9_step_1 0 rfl ?_
  refine ev_getI 3 dX9_step_2 (hS.lt (hc 1 rfl)) rfl (hS.mem _ (hc 1 rfl)) ciX9 (by decide) rfl flX9_38 ?_
  obtain ⟨μ1, hμ1, hf⟩ := lt_elim hf
  refine ev_putI 2 dX9_step_5 (hS.lt (hc 1 rfl)) rfl ciX9 (by decide) (Or.inl rfl) rfl rfl flX9_44 (hS.up (hc 1 rfl) hμ1) ?_
  obtain ⟨q6, hq6, hf⟩ := Option.bind_eq_some_iff.mp hf
  refine ev_sub [0] rfl ?_
  refine loop_ev (H := (fun s : Mem => Ev l D cy g K yX9_step cX9_step 2 none (rmd 5 0 0) (MX D cy g K (rmd 5 0 0) Φ) 0 0 M x (L s) 8 [(0, vr g 1)] [])) (Hx := (fun e : Mem => Ev l D cy g K yX9_step cX9_step 2 none (rmd 5 0 0) (MX D cy g K (rmd 5 0 0) Φ) 0 0 M x (L e) 46 [(0, vr g 1)] [])) (fun s o hb hr => tX9_step_b8 hS hc s hb hr) FU _ _ hq6 ?_
  show Ev l D cy g K yX9_step cX9_step 2 none (rmd 5 0 0) (MX D cy g K (rmd 5 0 0) Φ) 0 0 M x (L q6) 46 [(0, vr g 1)] []
  refine ev_sub [0] rfl ?_
  exact tX9_step_j46 hS hc q6 hf hr
theorem tX9_step (hS : Sd M K P L) (hc : CIn P 1 3) (μ : Mem) {o : Mem} (hf : fX9_step μ = some o) : Cn l D cy g K K yX9_step cX9_step 2 none (rmd 5 0 0) [vr g 1] M x (L μ) (PE none M x (L o)) :=
 Cn.of (by decide) (Nat.le_of_ble_eq_true rfl) (eX9_step hS hc μ hf (PE_i _ _ _ _))
def fX9_rewind  (μ : Mem) : Option (Mem) :=
  lt (upd2 μ 1 3 0) fun μ1 =>
  (fX9_step μ1).bind fun μ2 =>
  some (μ2)
set_option maxRecDepth 4000 in
theorem eX9_rewind (hS : Sd M K P L) (hc : CIn P 1 3)  (μ : Mem)  {o : Mem} (hf : fX9_rewind  μ = some o) (hr : (fun o : Mem => Φ none M x (L o)) o) : Ev l D cy g K yX9_rewind cX9_rewind 1 none (rmd 6 0 0) (MX D cy g K (rmd 6 0 0) Φ) 0 0 M x (L μ) 0 [(0, vr g 1)] [] := by
  unfold fX9_rewind at hf
  refine ev_aload_n dX9_rewind_0 0 rfl ?_
  refine ev_iconst dX9_rewind_1 ?_
  obtain ⟨μ1, hμ1, hf⟩ := lt_elim hf
  refine ev_putI 3 dX9_rewind_2 (hS.lt (hc 1 rfl)) rfl ciX9 (by decide) (Or.inl rfl) rfl rfl flX9_38 (hS.up (hc 1 rfl) hμ1) ?_
  refine ev_aload_n dX9_rewind_5 0 rfl ?_
  obtain ⟨μ2, hμ2, hf⟩ := Option.bind_eq_some_iff.mp hf
  refine cl_V0 (As := []) (st := []) miX9_step (tX9_step hS (hc.w rfl rfl) μ1 hμ2) dX9_rewind_6 lkX9_41 inX9_step rfl (hS.lt (hc 1 rfl)) rfl ⟨rfl, rfl⟩ ⟨⟨Nat.le_of_ble_eq_true rfl, Nat.le_of_ble_eq_true rfl⟩, Nat.zero_le _, Nat.zero_le _⟩ (Nat.le_of_ble_eq_true rfl) ?_
  obtain rfl := Option.some.inj hf
  exact ev_vret dX9_rewind_9 rfl ⟨Nat.zero_le _, Nat.zero_le _⟩ hr
theorem tX9_rewind (hS : Sd M K P L) (hc : CIn P 1 3) (μ : Mem) {o : Mem} (hf : fX9_rewind μ = some o) : Cn l D cy g K K yX9_rewind cX9_rewind 1 none (rmd 6 0 0) [vr g 1] M x (L μ) (PE none M x (L o)) :=
 Cn.of (by decide) (Nat.le_of_ble_eq_true rfl) (eX9_rewind hS hc μ hf (PE_i _ _ _ _))
def fX6_begin  (μ : Mem) : Option (Mem) :=
  lt (upd2 μ 3 1 0) fun μ1 =>
  lt (upd2 μ1 3 3 0) fun μ2 =>
  lt (upd2 μ2 3 4 0) fun μ3 =>
  (fX9_rewind μ3).bind fun μ4 =>
  some (μ4)
set_option maxRecDepth 4000 in
theorem eX6_begin (hS : Sd M K P L) (hc : CIn P 1 4)  (μ : Mem)  {o : Mem} (hf : fX6_begin  μ = some o) (hr : (fun o : Mem => Φ none M x (L o)) o) : Ev l D cy g K yX6_begin cX6_begin 1 none (rmd 7 0 0) (MX D cy g K (rmd 7 0 0) Φ) 0 0 M x (L μ) 0 [(0, vr g 3)] [] := by
  unfold fX6_begin at hf
  refine ev_aload_n dX6_begin_0 0 rfl ?_
  refine ev_iconst dX6_begin_1 ?_
  obtain ⟨μ1, hμ1, hf⟩ := lt_elim hf
  refine ev_putI 1 dX6_begin_2 (hS.lt (hc 3 rfl)) rfl ciX6 (by decide) (Or.inl rfl) rfl rfl flX6_34 (hS.up (hc 3 rfl) hμ1) ?_
  refine ev_aload_n dX6_begin_5 0 rfl ?_
  refine ev_iconst dX6_begin_6 ?_
  obtain ⟨μ2, hμ2, hf⟩ := lt_elim hf
  refine ev_putI 3 dX6_begin_7 (hS.lt (hc 3 rfl)) rfl ciX6 (by decide) (Or.inl rfl) rfl rfl flX6_19 (hS.up (hc 3 rfl) hμ2) ?_
  refine ev_aload_n dX6_begin_10 0 rfl ?_
  refine ev_iconst dX6_begin_11 ?_
  obtain ⟨μ3, hμ3, hf⟩ := lt_elim hf
  refine ev_putI 4 dX6_begin_12 (hS.lt (hc 3 rfl)) rfl ciX6 (by decide) (Or.inl rfl) rfl rfl flX6_23 (hS.up (hc 3 rfl) hμ3) ?_
  refine ev_aload_n dX6_begin_15 0 rfl ?_
  refine ev_getK 0 dX6_begin_16 (hS.lt (hc 3 rfl)) rfl (hS.K1 (hc 3 rfl) rfl) ciX6 (by decide) rfl flX6_15 ?_
  obtain ⟨μ4, hμ4, hf⟩ := Option.bind_eq_some_iff.mp hf
  refine cl_V0 (As := []) (st := []) miX9_rewind (tX9_rewind hS (hc.w rfl rfl) μ3 hμ4) dX6_begin_19 lkX6_92 inX9_rewind rfl (hS.lt (hc 1 rfl)) rfl ⟨rfl, rfl⟩ ⟨⟨Nat.le_of_ble_eq_true rfl, Nat.le_of_ble_eq_true rfl⟩, Nat.zero_le _, Nat.zero_le _⟩ (Nat.le_of_ble_eq_true rfl) ?_
  obtain rfl := Option.some.inj hf
  exact ev_vret dX6_begin_22 rfl ⟨Nat.zero_le _, Nat.zero_le _⟩ hr
theorem tX6_begin (hS : Sd M K P L) (hc : CIn P 1 4) (μ : Mem) {o : Mem} (hf : fX6_begin μ = some o) : Cn l D cy g K K yX6_begin cX6_begin 1 none (rmd 7 0 0) [vr g 3] M x (L μ) (PE none M x (L o)) :=
 Cn.of (by decide) (Nat.le_of_ble_eq_true rfl) (eX6_begin hS hc μ hf (PE_i _ _ _ _))
def fX9_is (asked : Int) (μ : Mem) : Bool :=
  lt (if w32 ((μ 1 4) % 65536) = w32 asked then
      true
    else
      false) fun v1 =>
  v1
set_option maxRecDepth 4000 in
theorem eX9_is (hS : Sd M K P L) (hc : CIn P 1 2) (asked : Int) (μ : Mem)  {o : Bool} (hf : fX9_is asked μ = o) (hr : (fun o : Bool => Φ (some (vb o)) M x (L μ)) o) : Ev l D cy g K yX9_is cX9_is 2 (some .boolean) (rmd 1 0 0) (MX D cy g K (rmd 1 0 0) Φ) 0 0 M x (L μ) 0 [(0, vr g 1), (1, vi asked)] [] := by
  unfold fX9_is at hf
  refine ev_aload_n dX9_is_0 0 rfl ?_
  refine ev_getC 4 dX9_is_1 (hS.lt (hc 1 rfl)) rfl (hS.mem _ (hc 1 rfl)) ciX9 (by decide) rfl flX9_15 ?_
  refine ev_iload_n dX9_is_4 1 rfl ?_
  obtain ⟨v1, hv1, hf⟩ := lt_elim hf
  have hJv1 : Ev l D cy g K yX9_is cX9_is 2 (some .boolean) (rmd 1 0 0) (MX D cy g K (rmd 1 0 0) Φ) 0 0 M x (L μ) 13 [(0, vr g 1), (1, vi asked)] [vb v1] := by
    obtain rfl := hf
    exact ev_bret (b := v1) dX9_is_13 rfl ⟨Nat.zero_le _, Nat.zero_le _⟩ hr
  refine ev_icmp_ne 12 dX9_is_5 (by decide) (fun h2 => ?_) (fun h2 => ?_)
  · refine ev_iconst dX9_is_12 ?_
    have e9 : v1 = false := hv1.trans ((if_neg h2))
    subst e9
    exact hJv1
  · refine ev_iconst dX9_is_8 ?_
    refine ev_goto 13 dX9_is_9 (by decide) ?_
    have e9 : v1 = true := hv1.trans ((if_pos h2))
    subst e9
    exact hJv1
theorem tX9_is (hS : Sd M K P L) (hc : CIn P 1 2) (asked : Int) (μ : Mem) {o : Bool} (hf : fX9_is asked μ = o) : Cn l D cy g K K yX9_is cX9_is 2 (some .boolean) (rmd 1 0 0) [vr g 1, vi asked] M x (L μ) (PE (some (vb o)) M x (L μ)) :=
 Cn.of (by decide) (Nat.le_of_ble_eq_true rfl) (eX9_is hS hc asked μ hf (PE_i _ _ _ _))
def fX9_isWord (asked : Nat) (μ : Mem) : Option (Bool) :=
  if w32 ((μ 1 4) % 65536) = w32 119 then
    gd ((1000 ≤ (μ 1 7) ∧ (μ 1 7) < 1019)) <|
    lt (μ 1 7).toNat fun r3 =>
    lt (if r3 = asked then
        true
      else
        false) fun v4 =>
    some (v4)
  else
    some (false)
set_option maxRecDepth 4000 in
theorem eX9_isWord (hS : Sd M K P L) (hc : CIn P 1 2) (asked : Nat) (μ : Mem) (hasked : isWd asked) {o : Bool} (hf : fX9_isWord asked μ = some o) (hr : (fun o : Bool => Φ (some (vb o)) M x (L μ)) o) : Ev l D cy g K yX9_isWord cX9_isWord 2 (some .boolean) (rmd 1 0 0) (MX D cy g K (rmd 1 0 0) Φ) 0 0 M x (L μ) 0 [(0, vr g 1), (1, vr g asked)] [] := by
  unfold fX9_isWord at hf
  refine ev_aload_n dX9_isWord_0 0 rfl ?_
  refine ev_getC 4 dX9_isWord_1 (hS.lt (hc 1 rfl)) rfl (hS.mem _ (hc 1 rfl)) ciX9 (by decide) rfl flX9_15 ?_
  refine ev_bipush dX9_isWord_4 (by decide) ?_
  refine ev_icmp_ne 21 dX9_isWord_6 (by decide) (fun h1 => ?_) (fun h1 => ?_)
  · rw [if_neg h1] at hf
    refine ev_iconst dX9_isWord_21 ?_
    obtain rfl := Option.some.inj hf
    exact ev_bret (b := false) dX9_isWord_22 rfl ⟨Nat.zero_le _, Nat.zero_le _⟩ hr
  · rw [if_pos h1] at hf
    refine ev_aload_n dX9_isWord_9 0 rfl ?_
    obtain ⟨g2, hf⟩ := gd_elim hf
    refine ev_getR 7 dX9_isWord_10 (hS.lt (hc 1 rfl)) rfl (hS.mem _ (hc 1 rfl)) (hS.K0 (hc 1 rfl) rfl) (dy_Wd g2).2 ciX9 (by decide) rfl flX9_25 ?_
    obtain ⟨r3, hr3, hf⟩ := lt_elim hf
    refine ev_rn (congrArg (vr g) hr3) ?_
    have kr3 : isWd r3 := by rw [hr3]; exact (dy_Wd g2).1
    refine ev_aload_n dX9_isWord_13 1 rfl ?_
    obtain ⟨v4, hv4, hf⟩ := lt_elim hf
    have hJv4 : Ev l D cy g K yX9_isWord cX9_isWord 2 (some .boolean) (rmd 1 0 0) (MX D cy g K (rmd 1 0 0) Φ) 0 0 M x (L μ) 22 [(0, vr g 1), (1, vr g asked)] [vb v4] := by
      obtain rfl := Option.some.inj hf
      exact ev_bret (b := v4) dX9_isWord_22 rfl ⟨Nat.zero_le _, Nat.zero_le _⟩ hr
    refine ev_acmp_ne 21 dX9_isWord_14 (by decide) kr3 hasked (fun h5 => ?_) (fun h5 => ?_)
    · refine ev_iconst dX9_isWord_21 ?_
      have e9 : v4 = false := hv4.trans ((if_neg h5))
      subst e9
      exact hJv4
    · refine ev_iconst dX9_isWord_17 ?_
      refine ev_goto 22 dX9_isWord_18 (by decide) ?_
      have e9 : v4 = true := hv4.trans ((if_pos h5))
      subst e9
      exact hJv4
theorem tX9_isWord (hS : Sd M K P L) (hc : CIn P 1 2) (asked : Nat) (μ : Mem) (hasked : isWd asked) {o : Bool} (hf : fX9_isWord asked μ = some o) : Cn l D cy g K K yX9_isWord cX9_isWord 2 (some .boolean) (rmd 1 0 0) [vr g 1, vr g asked] M x (L μ) (PE (some (vb o)) M x (L μ)) :=
 Cn.of (by decide) (Nat.le_of_ble_eq_true rfl) (eX9_isWord hS hc asked μ hasked hf (PE_i _ _ _ _))
def fX9_place  (μ : Mem) : Int :=
  (μ 1 2)
set_option maxRecDepth 4000 in
theorem eX9_place (hS : Sd M K P L) (hc : CIn P 1 2)  (μ : Mem)  {o : Int} (hf : fX9_place  μ = o) (hr : (fun o : Int => Φ (some (vi o)) M x (L μ)) o) : Ev l D cy g K yX9_place cX9_place 1 (some .int) (rmd 1 0 0) (MX D cy g K (rmd 1 0 0) Φ) 0 0 M x (L μ) 0 [(0, vr g 1)] [] := by
  unfold fX9_place at hf
  refine ev_aload_n dX9_place_0 0 rfl ?_
  refine ev_getI 2 dX9_place_1 (hS.lt (hc 1 rfl)) rfl (hS.mem _ (hc 1 rfl)) ciX9 (by decide) rfl flX9_44 ?_
  obtain rfl := hf
  exact ev_iret dX9_place_4 rfl ⟨Nat.zero_le _, Nat.zero_le _⟩ hr
theorem tX9_place (hS : Sd M K P L) (hc : CIn P 1 2) (μ : Mem) {o : Int} (hf : fX9_place μ = o) : Cn l D cy g K K yX9_place cX9_place 1 (some .int) (rmd 1 0 0) [vr g 1] M x (L μ) (PE (some (vi o)) M x (L μ)) :=
 Cn.of (by decide) (Nat.le_of_ble_eq_true rfl) (eX9_place hS hc μ hf (PE_i _ _ _ _))
def fX6_wrong (kind : Int) (μ : Mem) : Bool × Mem :=
  if w32 (μ 3 1) = 0 then
    lt (upd2 μ 3 1 (kind + (16 * (μ 1 2)))) fun μ2 =>
    (false, μ2)
  else
    (false, μ)
set_option maxRecDepth 4000 in
theorem eX6_wrong (hS : Sd M K P L) (hc : CIn P 1 4) (kind : Int) (μ : Mem)  {o : Bool × Mem} (hf : fX6_wrong kind μ = o) (hr : (fun o : Bool × Mem => Φ (some (vb o.1)) M x (L o.2)) o) : Ev l D cy g K yX6_wrong cX6_wrong 2 (some .boolean) (rmd 2 0 0) (MX D cy g K (rmd 2 0 0) Φ) 0 0 M x (L μ) 0 [(0, vr g 3), (1, vi kind)] [] := by
  unfold fX6_wrong at hf
  refine ev_aload_n dX6_wrong_0 0 rfl ?_
  refine ev_getI 1 dX6_wrong_1 (hS.lt (hc 3 rfl)) rfl (hS.mem _ (hc 3 rfl)) ciX6 (by decide) rfl flX6_34 ?_
  refine ev_if_ne 23 dX6_wrong_4 (by decide) (fun h1 => ?_) (fun h1 => ?_)
  · rw [if_neg h1] at hf
    refine ev_iconst dX6_wrong_23 ?_
    obtain rfl := hf
    exact ev_bret (b := false) dX6_wrong_24 rfl ⟨Nat.zero_le _, Nat.zero_le _⟩ hr
  · rw [if_pos h1] at hf
    refine ev_aload_n dX6_wrong_7 0 rfl ?_
    refine ev_iload_n dX6_wrong_8 1 rfl ?_
    refine ev_bipush dX6_wrong_9 (by decide) ?_
    refine ev_aload_n dX6_wrong_11 0 rfl ?_
    refine ev_getK 0 dX6_wrong_12 (hS.lt (hc 3 rfl)) rfl (hS.K1 (hc 3 rfl) rfl) ciX6 (by decide) rfl flX6_15 ?_
    refine cl_V1 (As := []) (st := [vi 16, vi kind, vr g 3]) miX9_place (tX9_place hS (hc.w rfl rfl) μ (o := (μ 1 2)) rfl) dX6_wrong_15 lkX6_96 inX9_place rfl (hS.lt (hc 1 rfl)) rfl ⟨rfl, rfl⟩ ⟨⟨Nat.le_of_ble_eq_true rfl, Nat.le_of_ble_eq_true rfl⟩, Nat.zero_le _, Nat.zero_le _⟩ (Nat.le_of_ble_eq_true rfl) ?_
    refine ev_imul dX6_wrong_18 ?_
    refine ev_iadd dX6_wrong_19 ?_
    obtain ⟨μ2, hμ2, hf⟩ := lt_elim hf
    refine ev_putI 1 dX6_wrong_20 (hS.lt (hc 3 rfl)) rfl ciX6 (by decide) (Or.inl rfl) rfl rfl flX6_34 (hS.up (hc 3 rfl) hμ2) ?_
    refine ev_iconst dX6_wrong_23 ?_
    obtain rfl := hf
    exact ev_bret (b := false) dX6_wrong_24 rfl ⟨Nat.zero_le _, Nat.zero_le _⟩ hr
theorem tX6_wrong (hS : Sd M K P L) (hc : CIn P 1 4) (kind : Int) (μ : Mem) {o : Bool × Mem} (hf : fX6_wrong kind μ = o) : Cn l D cy g K K yX6_wrong cX6_wrong 2 (some .boolean) (rmd 2 0 0) [vr g 3, vi kind] M x (L μ) (PE (some (vb o.1)) M x (L o.2)) :=
 Cn.of (by decide) (Nat.le_of_ble_eq_true rfl) (eX6_wrong hS hc kind μ hf (PE_i _ _ _ _))
def fX10_mayBeName (k : Nat) : Bool :=
  ((wmay.getD (k - 1000) 0) != 0)
set_option maxRecDepth 4000 in
theorem eX10_mayBeName  (k : Nat) (μ : Mem) (hk : isWd k) {o : Bool} (hf : fX10_mayBeName k = o) (hr : (fun o : Bool => Φ (some (vb o)) M x μ) o) : Ev l D cy g K yX10_mayBeName cX10_mayBeName 1 (some .boolean) (rmd 1 0 0) (MX D cy g K (rmd 1 0 0) Φ) 0 0 M x μ 0 [(0, vr g k)] [] := by
  unfold fX10_mayBeName at hf
  refine ev_aload_n dX10_mayBeName_0 0 rfl ?_
  refine ev_getWZ dX10_mayBeName_1 hk flX10_98 ?_
  refine ev_rn (w := vb ((wmay.getD (k - 1000) 0) != 0)) (wmay_b _) ?_
  obtain rfl := hf
  exact ev_bret (b := ((wmay.getD (k - 1000) 0) != 0)) dX10_mayBeName_4 rfl ⟨Nat.zero_le _, Nat.zero_le _⟩ hr
theorem tX10_mayBeName (k : Nat) (μ : Mem) (hk : isWd k) {o : Bool} (hf : fX10_mayBeName k = o) : Cn l D cy g K K yX10_mayBeName cX10_mayBeName 1 (some .boolean) (rmd 1 0 0) [vr g k] M x μ (PE (some (vb o)) M x μ) :=
 Cn.of (by decide) (Nat.le_of_ble_eq_true rfl) (eX10_mayBeName k μ hk hf (PE_i _ _ _ _))
def fX9_isName  (μ : Mem) : Option (Bool) :=
  if w32 ((μ 1 4) % 65536) = w32 119 then
    gd ((1000 ≤ (μ 1 7) ∧ (μ 1 7) < 1019)) <|
    lt (μ 1 7).toNat fun r3 =>
    lt (if ((wmay.getD (r3 - 1000) 0) != 0) = true then
        true
      else
        false) fun v4 =>
    some (v4)
  else
    some (false)
set_option maxRecDepth 4000 in
theorem eX9_isName (hS : Sd M K P L) (hc : CIn P 1 2)  (μ : Mem)  {o : Bool} (hf : fX9_isName  μ = some o) (hr : (fun o : Bool => Φ (some (vb o)) M x (L μ)) o) : Ev l D cy g K yX9_isName cX9_isName 1 (some .boolean) (rmd 2 0 0) (MX D cy g K (rmd 2 0 0) Φ) 0 0 M x (L μ) 0 [(0, vr g 1)] [] := by
  unfold fX9_isName at hf
  refine ev_aload_n dX9_isName_0 0 rfl ?_
  refine ev_getC 4 dX9_isName_1 (hS.lt (hc 1 rfl)) rfl (hS.mem _ (hc 1 rfl)) ciX9 (by decide) rfl flX9_15 ?_
  refine ev_bipush dX9_isName_4 (by decide) ?_
  refine ev_icmp_ne 23 dX9_isName_6 (by decide) (fun h1 => ?_) (fun h1 => ?_)
  · rw [if_neg h1] at hf
    refine ev_iconst dX9_isName_23 ?_
    obtain rfl := Option.some.inj hf
    exact ev_bret (b := false) dX9_isName_24 rfl ⟨Nat.zero_le _, Nat.zero_le _⟩ hr
  · rw [if_pos h1] at hf
    refine ev_aload_n dX9_isName_9 0 rfl ?_
    obtain ⟨g2, hf⟩ := gd_elim hf
    refine ev_getR 7 dX9_isName_10 (hS.lt (hc 1 rfl)) rfl (hS.mem _ (hc 1 rfl)) (hS.K0 (hc 1 rfl) rfl) (dy_Wd g2).2 ciX9 (by decide) rfl flX9_25 ?_
    obtain ⟨r3, hr3, hf⟩ := lt_elim hf
    refine ev_rn (congrArg (vr g) hr3) ?_
    have kr3 : isWd r3 := by rw [hr3]; exact (dy_Wd g2).1
    refine cl_W1 (As := []) (st := []) miX10_mayBeName (tX10_mayBeName r3 (L μ) kr3 (o := ((wmay.getD (r3 - 1000) 0) != 0)) rfl) dX9_isName_13 lkX9_90 inX10_mayBeName rfl kr3 rfl ⟨⟨Nat.le_of_ble_eq_true rfl, Nat.le_of_ble_eq_true rfl⟩, Nat.zero_le _, Nat.zero_le _⟩ (Nat.le_of_ble_eq_true rfl) ?_
    obtain ⟨v4, hv4, hf⟩ := lt_elim hf
    have hJv4 : Ev l D cy g K yX9_isName cX9_isName 1 (some .boolean) (rmd 2 0 0) (MX D cy g K (rmd 2 0 0) Φ) 0 0 M x (L μ) 24 [(0, vr g 1)] [vb v4] := by
      obtain rfl := Option.some.inj hf
      exact ev_bret (b := v4) dX9_isName_24 rfl ⟨Nat.zero_le _, Nat.zero_le _⟩ hr
    refine ev_ifb_eq 23 dX9_isName_16 (by decide) (fun h5 => ?_) (fun h5 => ?_)
    · refine ev_iconst dX9_isName_23 ?_
      have e9 : v4 = false := hv4.trans ((if_neg h5))
      subst e9
      exact hJv4
    · refine ev_iconst dX9_isName_19 ?_
      refine ev_goto 24 dX9_isName_20 (by decide) ?_
      have e9 : v4 = true := hv4.trans ((if_pos h5))
      subst e9
      exact hJv4
theorem tX9_isName (hS : Sd M K P L) (hc : CIn P 1 2) (μ : Mem) {o : Bool} (hf : fX9_isName μ = some o) : Cn l D cy g K K yX9_isName cX9_isName 1 (some .boolean) (rmd 2 0 0) [vr g 1] M x (L μ) (PE (some (vb o)) M x (L μ)) :=
 Cn.of (by decide) (Nat.le_of_ble_eq_true rfl) (eX9_isName hS hc μ hf (PE_i _ _ _ _))
def fX9_letters  (μ : Mem) : Int :=
  (μ 1 6)
set_option maxRecDepth 4000 in
theorem eX9_letters (hS : Sd M K P L) (hc : CIn P 1 2)  (μ : Mem)  {o : Int} (hf : fX9_letters  μ = o) (hr : (fun o : Int => Φ (some (vl o)) M x (L μ)) o) : Ev l D cy g K yX9_letters cX9_letters 1 (some .long) (rmd 1 0 0) (MX D cy g K (rmd 1 0 0) Φ) 0 0 M x (L μ) 0 [(0, vr g 1)] [] := by
  unfold fX9_letters at hf
  refine ev_aload_n dX9_letters_0 0 rfl ?_
  refine ev_getJ 6 dX9_letters_1 (hS.lt (hc 1 rfl)) rfl (hS.mem _ (hc 1 rfl)) ciX9 (by decide) rfl flX9_75 ?_
  obtain rfl := hf
  exact ev_lret dX9_letters_4 rfl ⟨Nat.zero_le _, Nat.zero_le _⟩ hr
theorem tX9_letters (hS : Sd M K P L) (hc : CIn P 1 2) (μ : Mem) {o : Int} (hf : fX9_letters μ = o) : Cn l D cy g K K yX9_letters cX9_letters 1 (some .long) (rmd 1 0 0) [vr g 1] M x (L μ) (PE (some (vl o)) M x (L μ)) :=
 Cn.of (by decide) (Nat.le_of_ble_eq_true rfl) (eX9_letters hS hc μ hf (PE_i _ _ _ _))
def fX2_find_b2 (k : Nat) (name : Int) (v1 : Int) (μ : Mem) : Option ((Int) ⊕ (Int)) :=
  if w32 v1 < w32 (μ k 0) then
    if w32 v1 < w32 5 then
      gd (0 ≤ w32 v1 ∧ w32 v1 < 5) <|
      if w64 (μ (k + 1) (w32 v1).toNat) = w64 name then
        some (.inr v1)
      else
        some (.inl (v1 + 1))
    else
      some (.inr (-1))
  else
    some (.inr (-1))
set_option maxRecDepth 4000 in
theorem tX2_find_b2 (hS : Sd M K P L) (hc : CIn P 1 39) (k : Nat) (name : Int) (v1 : Int) (μ : Mem) (hk : isGr k) {o : (Int) ⊕ (Int)} (hf : fX2_find_b2 k name v1 μ = some o) (hr : (Sum.elim (fun s : Int => Ev l D cy g K yX2_find cX2_find 4 (some .int) (rmd 1 0 0) (MX D cy g K (rmd 1 0 0) Φ) 0 0 M x (L μ) 2 [(0, vr g k), (1, vl name), (3, vi s)] []) (fun o : Int => Φ (some (vi o)) M x (L μ))) o) : Ev l D cy g K yX2_find cX2_find 4 (some .int) (rmd 1 0 0) (MX D cy g K (rmd 1 0 0) Φ) 0 0 M x (L μ) 2 [(0, vr g k), (1, vl name), (3, vi v1)] [] := by
  unfold fX2_find_b2 at hf
  refine ev_iload_n dX2_find_2 2 rfl ?_
  refine ev_aload_n dX2_find_3 0 rfl ?_
  refine ev_getI 0 dX2_find_4 (hS.lt (hc _ (inR_w (i_Gr0 hk) rfl rfl))) (s_Gr0 hk) (hS.mem _ (hc _ (inR_w (i_Gr0 hk) rfl rfl))) ciX2 (by decide) rfl flX2_34 ?_
  refine ev_icmp_ge 38 dX2_find_7 (by decide) (fun h2 => ?_) (fun h2 => ?_)
  · rw [if_neg h2] at hf
    refine ev_iconst dX2_find_38 ?_
    obtain rfl := Option.some.inj hf
    exact ev_iret dX2_find_39 rfl ⟨Nat.zero_le _, Nat.zero_le _⟩ hr
  · rw [if_pos h2] at hf
    refine ev_iload_n dX2_find_10 2 rfl ?_
    refine ev_aload_n dX2_find_11 0 rfl ?_
    refine ev_getK 1 dX2_find_12 (hS.lt (hc _ (inR_w (i_Gr0 hk) rfl rfl))) (s_Gr0 hk) (hS.K1 (hc _ (inR_w (i_Gr0 hk) rfl rfl)) (K_Gr1 hk)) ciX2 (by decide) rfl flX2_9 ?_
    refine ev_alen dX2_find_15 (hS.lt (hc _ (inR_w (i_Gr1 hk) rfl rfl))) (s_Gr1 hk) (by decide) ?_
    refine ev_rn (w := vi 5) rfl ?_
    refine ev_icmp_ge 38 dX2_find_16 (by decide) (fun h3 => ?_) (fun h3 => ?_)
    · rw [if_neg h3] at hf
      refine ev_iconst dX2_find_38 ?_
      obtain rfl := Option.some.inj hf
      exact ev_iret dX2_find_39 rfl ⟨Nat.zero_le _, Nat.zero_le _⟩ hr
    · rw [if_pos h3] at hf
      refine ev_aload_n dX2_find_19 0 rfl ?_
      refine ev_getK 1 dX2_find_20 (hS.lt (hc _ (inR_w (i_Gr0 hk) rfl rfl))) (s_Gr0 hk) (hS.K1 (hc _ (inR_w (i_Gr0 hk) rfl rfl)) (K_Gr1 hk)) ciX2 (by decide) rfl flX2_9 ?_
      refine ev_iload_n dX2_find_23 2 rfl ?_
      obtain ⟨g4, hf⟩ := gd_elim hf
      refine ev_lald dX2_find_24 (hS.lt (hc _ (inR_w (i_Gr1 hk) rfl rfl))) (s_Gr1 hk) (hS.mem _ (hc _ (inR_w (i_Gr1 hk) rfl rfl))) g4 ?_
      refine ev_lload_n dX2_find_25 1 rfl ?_
      refine ev_lcmp_ne 32 dX2_find_26 dX2_find_27 (by decide) (fun h5 => ?_) (fun h5 => ?_)
      · rw [if_neg h5] at hf
        refine ev_iinc (al2 := [(3, vi (v1 + 1)), (0, vr g k), (1, vl name)]) dX2_find_32 2 rfl (by decide) rfl ?_
        refine ev_goto 2 dX2_find_35 (by decide) ?_
        obtain rfl := Option.some.inj hf
        refine ev_sub [1, 2, 0] rfl ?_
        exact hr
      · rw [if_pos h5] at hf
        refine ev_iload_n dX2_find_30 2 rfl ?_
        obtain rfl := Option.some.inj hf
        exact ev_iret dX2_find_31 rfl ⟨Nat.zero_le _, Nat.zero_le _⟩ hr
def fX2_find (k : Nat) (name : Int) (μ : Mem) : Option (Int) :=
  loopN (fun s => fX2_find_b2 k name s μ) FU 0
set_option maxRecDepth 4000 in
theorem eX2_find (hS : Sd M K P L) (hc : CIn P 1 39) (k : Nat) (name : Int) (μ : Mem) (hk : isGr k) {o : Int} (hf : fX2_find k name μ = some o) (hr : (fun o : Int => Φ (some (vi o)) M x (L μ)) o) : Ev l D cy g K yX2_find cX2_find 4 (some .int) (rmd 1 0 0) (MX D cy g K (rmd 1 0 0) Φ) 0 0 M x (L μ) 0 [(0, vr g k), (1, vl name)] [] := by
  unfold fX2_find at hf
  refine ev_iconst dX2_find_0 ?_
  refine ev_istore_n (al2 := [(3, vi 0), (0, vr g k), (1, vl name)]) dX2_find_1 3 rfl (by decide) rfl ?_
  refine ev_sub [1, 2, 0] rfl ?_
  exact loop_ev (H := (fun s : Int => Ev l D cy g K yX2_find cX2_find 4 (some .int) (rmd 1 0 0) (MX D cy g K (rmd 1 0 0) Φ) 0 0 M x (L μ) 2 [(0, vr g k), (1, vl name), (3, vi s)] [])) (Hx := (fun o : Int => Φ (some (vi o)) M x (L μ))) (fun s o hb hr => tX2_find_b2 hS hc k name s μ hk hb hr) FU _ _ hf hr
theorem tX2_find (hS : Sd M K P L) (hc : CIn P 1 39) (k : Nat) (name : Int) (μ : Mem) (hk : isGr k) {o : Int} (hf : fX2_find k name μ = some o) : Cn l D cy g K K yX2_find cX2_find 4 (some .int) (rmd 1 0 0) [vr g k, vl name] M x (L μ) (PE (some (vi o)) M x (L μ)) :=
 Cn.of (by decide) (Nat.le_of_ble_eq_true rfl) (eX2_find hS hc k name μ hk hf (PE_i _ _ _ _))
def fX9_word  (μ : Mem) : Option (Nat) :=
  gd ((1000 ≤ (μ 1 7) ∧ (μ 1 7) < 1019)) <|
  lt (μ 1 7).toNat fun r2 =>
  some (r2)
set_option maxRecDepth 4000 in
theorem eX9_word (hS : Sd M K P L) (hc : CIn P 1 2)  (μ : Mem)  {o : Nat} (hf : fX9_word  μ = some o) (hr : (fun o : Nat => Φ (some (vr g o)) M x (L μ)) o) : Ev l D cy g K yX9_word cX9_word 1 (some (.object "HotCakes$Word")) (rmd 1 0 0) (MX D cy g K (rmd 1 0 0) Φ) 0 0 M x (L μ) 0 [(0, vr g 1)] [] := by
  unfold fX9_word at hf
  refine ev_aload_n dX9_word_0 0 rfl ?_
  obtain ⟨g1, hf⟩ := gd_elim hf
  refine ev_getR 7 dX9_word_1 (hS.lt (hc 1 rfl)) rfl (hS.mem _ (hc 1 rfl)) (hS.K0 (hc 1 rfl) rfl) (dy_Wd g1).2 ciX9 (by decide) rfl flX9_25 ?_
  obtain ⟨r2, hr2, hf⟩ := lt_elim hf
  refine ev_rn (congrArg (vr g) hr2) ?_
  have kr2 : isWd r2 := by rw [hr2]; exact (dy_Wd g1).1
  obtain rfl := Option.some.inj hf
  exact ev_aret dX9_word_4 rfl (by first | exact Or.inl ⟨_, rfl⟩ | exact Or.inr ⟨_, rfl⟩) ⟨Nat.zero_le _, Nat.zero_le _⟩ hr
theorem tX9_word (hS : Sd M K P L) (hc : CIn P 1 2) (μ : Mem) {o : Nat} (hf : fX9_word μ = some o) : Cn l D cy g K K yX9_word cX9_word 1 (some (.object "HotCakes$Word")) (rmd 1 0 0) [vr g 1] M x (L μ) (PE (some (vr g o)) M x (L μ)) :=
 Cn.of (by decide) (Nat.le_of_ble_eq_true rfl) (eX9_word hS hc μ hf (PE_i _ _ _ _))
theorem rk_fX9_word {μ : Mem} {o : Nat} (h : fX9_word μ = some o) : isWd o := by
  unfold fX9_word at h
  obtain ⟨g1, h⟩ := gd_elim h
  obtain ⟨r, hr, h⟩ := lt_elim h
  cases h
  rw [hr]; exact (dy_Wd g1).1
def fX10_isKind (k : Nat) : Bool :=
  lt (if k = 1008 then
      true
    else
      if k = 1009 then
        true
      else
        if k = 1010 then
          true
        else
          if k = 1011 then
            true
          else
            false) fun v1 =>
  v1
set_option maxRecDepth 4000 in
theorem eX10_isKind  (k : Nat) (μ : Mem) (hk : isWd k) {o : Bool} (hf : fX10_isKind k = o) (hr : (fun o : Bool => Φ (some (vb o)) M x μ) o) : Ev l D cy g K yX10_isKind cX10_isKind 1 (some .boolean) (rmd 1 0 0) (MX D cy g K (rmd 1 0 0) Φ) 0 0 M x μ 0 [(0, vr g k)] [] := by
  unfold fX10_isKind at hf
  refine ev_aload_n dX10_isKind_0 0 rfl ?_
  refine ev_getsW 8 dX10_isKind_1 (by decide) rfl flX10_28 ?_
  obtain ⟨v1, hv1, hf⟩ := lt_elim hf
  have hJv1 : Ev l D cy g K yX10_isKind cX10_isKind 1 (some .boolean) (rmd 1 0 0) (MX D cy g K (rmd 1 0 0) Φ) 0 0 M x μ 33 [(0, vr g k)] [vb v1] := by
    obtain rfl := hf
    exact ev_bret (b := v1) dX10_isKind_33 rfl ⟨Nat.zero_le _, Nat.zero_le _⟩ hr
  refine ev_acmp_eq 28 dX10_isKind_4 (by decide) hk ⟨by decide, by decide⟩ (fun h2 => ?_) (fun h2 => ?_)
  · refine ev_iconst dX10_isKind_28 ?_
    refine ev_goto 33 dX10_isKind_29 (by decide) ?_
    have e9 : v1 = true := hv1.trans ((if_pos h2))
    subst e9
    exact hJv1
  · refine ev_aload_n dX10_isKind_7 0 rfl ?_
    refine ev_getsW 9 dX10_isKind_8 (by decide) rfl flX10_31 ?_
    refine ev_acmp_eq 28 dX10_isKind_11 (by decide) hk ⟨by decide, by decide⟩ (fun h3 => ?_) (fun h3 => ?_)
    · refine ev_iconst dX10_isKind_28 ?_
      refine ev_goto 33 dX10_isKind_29 (by decide) ?_
      have e9 : v1 = true := hv1.trans (((if_neg h2)).trans (if_pos h3))
      subst e9
      exact hJv1
    · refine ev_aload_n dX10_isKind_14 0 rfl ?_
      refine ev_getsW 10 dX10_isKind_15 (by decide) rfl flX10_34 ?_
      refine ev_acmp_eq 28 dX10_isKind_18 (by decide) hk ⟨by decide, by decide⟩ (fun h4 => ?_) (fun h4 => ?_)
      · refine ev_iconst dX10_isKind_28 ?_
        refine ev_goto 33 dX10_isKind_29 (by decide) ?_
        have e9 : v1 = true := hv1.trans (((if_neg h2)).trans (((if_neg h3)).trans (if_pos h4)))
        subst e9
        exact hJv1
      · refine ev_aload_n dX10_isKind_21 0 rfl ?_
        refine ev_getsW 11 dX10_isKind_22 (by decide) rfl flX10_37 ?_
        refine ev_acmp_ne 32 dX10_isKind_25 (by decide) hk ⟨by decide, by decide⟩ (fun h5 => ?_) (fun h5 => ?_)
        · refine ev_iconst dX10_isKind_32 ?_
          have e9 : v1 = false := hv1.trans (((if_neg h2)).trans (((if_neg h3)).trans (((if_neg h4)).trans (if_neg h5))))
          subst e9
          exact hJv1
        · refine ev_iconst dX10_isKind_28 ?_
          refine ev_goto 33 dX10_isKind_29 (by decide) ?_
          have e9 : v1 = true := hv1.trans (((if_neg h2)).trans (((if_neg h3)).trans (((if_neg h4)).trans (if_pos h5))))
          subst e9
          exact hJv1
theorem tX10_isKind (k : Nat) (μ : Mem) (hk : isWd k) {o : Bool} (hf : fX10_isKind k = o) : Cn l D cy g K K yX10_isKind cX10_isKind 1 (some .boolean) (rmd 1 0 0) [vr g k] M x μ (PE (some (vb o)) M x μ) :=
 Cn.of (by decide) (Nat.le_of_ble_eq_true rfl) (eX10_isKind k μ hk hf (PE_i _ _ _ _))
end L1
