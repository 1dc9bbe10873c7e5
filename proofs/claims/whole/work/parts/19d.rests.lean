section L1
variable {l : Launch} {D : va_G} {cy : Nat → ClassId} {g : Nat → Nat} {K : KT} {M : Nat} {x : Bool} {P : Nat → Prop} {L : Mem → Mem} {o0 : Int × Bool}
def fX11_rests_j131 (lose : Int) (turns : Int) (waits : Int) (what : Int) (v17 : Int) (v18 : Int) (v19 : Bool) (μ : Mem) : Option ((Int × Int) ⊕ (Int × Bool)) :=
  lt (if v19 = true then
      1
    else
      0) fun v20 =>
  lt (v17 + v20) fun v22 =>
  some (.inl (v22, (v18 + 1)))
set_option maxRecDepth 4000 in
theorem tX11_rests_j131 (hno : l.stackTraces = false) (hS : Sd M K P L) (hc : CIn P 1 1) (lose : Int) (turns : Int) (waits : Int) (what : Int) (v17 : Int) (v18 : Int) (v19 : Bool) (μ : Mem)  {o : (Int × Int) ⊕ (Int × Bool)} (hf : fX11_rests_j131 lose turns waits what v17 v18 v19 μ = some o) (hr : (Sum.elim (fun s : Int × Int => Et l D cy g K yX11_rests cX11_rests 10 (some .int) (rmd 7 1 6) (QT D cy g K M (L μ) o0) 0 0 M x (L μ) 41 [(1, vi lose), (2, vi turns), (3, vi waits), (4, vi what), (5, vi s.1), (6, vi s.2)] []) (fun o : Int × Bool => o = o0)) o) : Et l D cy g K yX11_rests cX11_rests 10 (some .int) (rmd 7 1 6) (QT D cy g K M (L μ) o0) 0 0 M x (L μ) 131 [(1, vi lose), (2, vi turns), (3, vi waits), (4, vi what), (5, vi v17), (6, vi v18), (9, vb v19)] [] := by
  unfold fX11_rests_j131 at hf
  refine et_iload dX11_rests_131 4 rfl ?_
  refine et_iload dX11_rests_133 6 rfl ?_
  obtain ⟨v20, hv20, hf⟩ := lt_elim hf
  have hJv20 : Et l D cy g K yX11_rests cX11_rests 10 (some .int) (rmd 7 1 6) (QT D cy g K M (L μ) o0) 0 0 M x (L μ) 143 [(1, vi lose), (2, vi turns), (3, vi waits), (4, vi what), (5, vi v17), (6, vi v18), (9, vb v19)] [vi v20, vi v17] := by
    refine et_iadd dX11_rests_143 ?_
    obtain ⟨v22, hv22, hf⟩ := lt_elim hf
    refine et_rni hv22 ?_
    refine et_istore (al2 := [(5, vi v22), (1, vi lose), (2, vi turns), (3, vi waits), (4, vi what), (6, vi v18), (9, vb v19)]) dX11_rests_144 (by decide) rfl ?_
    refine et_iinc (al2 := [(6, vi (v18 + 1)), (5, vi v22), (1, vi lose), (2, vi turns), (3, vi waits), (4, vi what), (9, vb v19)]) dX11_rests_146 5 rfl (by decide) rfl ?_
    refine et_goto 41 dX11_rests_149 (by decide) ?_
    obtain rfl := Option.some.inj hf
    refine et_sub [2, 3, 4, 5, 1, 0] rfl ?_
    exact hr
  refine et_ifb_eq 142 dX11_rests_135 (by decide) (fun h21 => ?_) (fun h21 => ?_)
  · refine et_iconst dX11_rests_142 ?_
    have e9 : v20 = 0 := hv20.trans ((if_neg h21))
    subst e9
    exact hJv20
  · refine et_iconst dX11_rests_138 ?_
    refine et_goto 143 dX11_rests_139 (by decide) ?_
    have e9 : v20 = 1 := hv20.trans ((if_pos h21))
    subst e9
    exact hJv20
def fX11_rests_b41 (lose : Int) (turns : Int) (waits : Int) (what : Int) (v5 : Int) (v6 : Int) (μ : Mem) : Option ((Int × Int) ⊕ (Int × Bool)) :=
  if w32 v6 < w32 4 then
    lt (i_div v6 2) fun v9 =>
    lt (i_rem v6 2) fun v10 =>
    lt (fX11_gain v9 v10 lose turns waits) fun v11 =>
    lt (fX11_gain (1 - v9) v10 lose turns waits) fun v12 =>
    lt (if w32 v11 < w32 v12 then
        false
      else
        if w32 (fX11_gain v10 v9 lose turns waits) < w32 (fX11_gain (1 - v10) v9 lose turns waits) then
          false
        else
          true) fun v13 =>
    if v13 = true then
      if w32 v5 = w32 what then
        some (.inr (v6, false))
      else
        fX11_rests_j131 lose turns waits what v5 v6 v13 μ
    else
      fX11_rests_j131 lose turns waits what v5 v6 v13 μ
  else
    if w32 what = w32 (-1) then
      some (.inr (v5, false))
    else
      some (.inr (0, true))
set_option maxRecDepth 4000 in
theorem tX11_rests_b41 (hno : l.stackTraces = false) (hS : Sd M K P L) (hc : CIn P 1 1) (lose : Int) (turns : Int) (waits : Int) (what : Int) (v5 : Int) (v6 : Int) (μ : Mem)  {o : (Int × Int) ⊕ (Int × Bool)} (hf : fX11_rests_b41 lose turns waits what v5 v6 μ = some o) (hr : (Sum.elim (fun s : Int × Int => Et l D cy g K yX11_rests cX11_rests 10 (some .int) (rmd 7 1 6) (QT D cy g K M (L μ) o0) 0 0 M x (L μ) 41 [(1, vi lose), (2, vi turns), (3, vi waits), (4, vi what), (5, vi s.1), (6, vi s.2)] []) (fun o : Int × Bool => o = o0)) o) : Et l D cy g K yX11_rests cX11_rests 10 (some .int) (rmd 7 1 6) (QT D cy g K M (L μ) o0) 0 0 M x (L μ) 41 [(1, vi lose), (2, vi turns), (3, vi waits), (4, vi what), (5, vi v5), (6, vi v6)] [] := by
  unfold fX11_rests_b41 at hf
  refine et_iload dX11_rests_41 5 rfl ?_
  refine et_iconst dX11_rests_43 ?_
  refine et_icmp_ge 152 dX11_rests_44 (by decide) (fun h7 => ?_) (fun h7 => ?_)
  · rw [if_neg h7] at hf
    refine et_iload dX11_rests_152 3 rfl ?_
    refine et_iconst dX11_rests_154 ?_
    refine et_icmp_eq 166 dX11_rests_155 (by decide) (fun h8 => ?_) (fun h8 => ?_)
    · rw [if_pos h8] at hf
      refine et_iload dX11_rests_166 4 rfl ?_
      obtain rfl := Option.some.inj hf
      exact et_iretT dX11_rests_168 rfl ⟨by decide, by decide⟩ hr
    · rw [if_neg h8] at hf
      obtain rfl := Option.some.inj hf
      exact et_throwT hno rfl dX11_rests_158 dX11_rests_161 dX11_rests_162 dX11_rests_165 ⟨by decide, by decide, by decide, by decide⟩ hr
  · rw [if_pos h7] at hf
    refine et_iload dX11_rests_47 5 rfl ?_
    refine et_iconst dX11_rests_49 ?_
    refine et_idiv dX11_rests_50 (by decide) ?_
    obtain ⟨v9, hv9, hf⟩ := lt_elim hf
    refine et_rni hv9 ?_
    refine et_istore (al2 := [(7, vi v9), (1, vi lose), (2, vi turns), (3, vi waits), (4, vi what), (5, vi v5), (6, vi v6)]) dX11_rests_51 (by decide) rfl ?_
    refine et_iload dX11_rests_53 6 rfl ?_
    refine et_iconst dX11_rests_55 ?_
    refine et_irem dX11_rests_56 (by decide) ?_
    obtain ⟨v10, hv10, hf⟩ := lt_elim hf
    refine et_rni hv10 ?_
    refine et_istore (al2 := [(8, vi v10), (7, vi v9), (1, vi lose), (2, vi turns), (3, vi waits), (4, vi what), (5, vi v5), (6, vi v6)]) dX11_rests_57 (by decide) rfl ?_
    refine et_iload dX11_rests_59 1 rfl ?_
    refine et_iload dX11_rests_61 0 rfl ?_
    refine et_iload_n dX11_rests_63 2 rfl ?_
    refine et_iload_n dX11_rests_64 3 rfl ?_
    refine et_iload_n dX11_rests_65 4 rfl ?_
    obtain ⟨v11, hv11, hf⟩ := lt_elim hf
    refine ct_S1 (As := [vi v9, vi v10, vi lose, vi turns, vi waits]) (st := []) miX11_gain (tX11_gain v9 v10 lose turns waits (L μ) hv11.symm) dX11_rests_66 lkX11_320 stX11_gain rfl ⟨⟨Nat.le_of_ble_eq_true rfl, Nat.le_of_ble_eq_true rfl⟩, Nat.zero_le _, Nat.zero_le _⟩ (Nat.le_of_ble_eq_true rfl) ?_
    refine et_iconst dX11_rests_69 ?_
    refine et_iload dX11_rests_70 1 rfl ?_
    refine et_isub dX11_rests_72 ?_
    refine et_iload dX11_rests_73 0 rfl ?_
    refine et_iload_n dX11_rests_75 2 rfl ?_
    refine et_iload_n dX11_rests_76 3 rfl ?_
    refine et_iload_n dX11_rests_77 4 rfl ?_
    obtain ⟨v12, hv12, hf⟩ := lt_elim hf
    refine ct_S1 (As := [vi (1 - v9), vi v10, vi lose, vi turns, vi waits]) (st := [vi v11]) miX11_gain (tX11_gain (1 - v9) v10 lose turns waits (L μ) hv12.symm) dX11_rests_78 lkX11_320 stX11_gain rfl ⟨⟨Nat.le_of_ble_eq_true rfl, Nat.le_of_ble_eq_true rfl⟩, Nat.zero_le _, Nat.zero_le _⟩ (Nat.le_of_ble_eq_true rfl) ?_
    obtain ⟨v13, hv13, hf⟩ := lt_elim hf
    have hJv13 : Et l D cy g K yX11_rests cX11_rests 10 (some .int) (rmd 7 1 6) (QT D cy g K M (L μ) o0) 0 0 M x (L μ) 114 [(8, vi v10), (7, vi v9), (1, vi lose), (2, vi turns), (3, vi waits), (4, vi what), (5, vi v5), (6, vi v6)] [vb v13] := by
      refine et_istore (al2 := [(9, vb v13), (8, vi v10), (7, vi v9), (1, vi lose), (2, vi turns), (3, vi waits), (4, vi what), (5, vi v5), (6, vi v6)]) dX11_rests_114 (by decide) rfl ?_
      refine et_iload dX11_rests_116 0 rfl ?_
      refine et_ifb_eq 131 dX11_rests_118 (by decide) (fun h16 => ?_) (fun h16 => ?_)
      · rw [if_neg h16] at hf
        refine et_sub [3, 4, 5, 6, 7, 8, 0] rfl ?_
        exact tX11_rests_j131 hno hS hc lose turns waits what v5 v6 v13 μ hf hr
      · rw [if_pos h16] at hf
        refine et_iload dX11_rests_121 7 rfl ?_
        refine et_iload dX11_rests_123 6 rfl ?_
        refine et_icmp_ne 131 dX11_rests_125 (by decide) (fun h23 => ?_) (fun h23 => ?_)
        · rw [if_neg h23] at hf
          refine et_sub [3, 4, 5, 6, 7, 8, 0] rfl ?_
          exact tX11_rests_j131 hno hS hc lose turns waits what v5 v6 v13 μ hf hr
        · rw [if_pos h23] at hf
          refine et_iload dX11_rests_128 8 rfl ?_
          obtain rfl := Option.some.inj hf
          exact et_iretT dX11_rests_130 rfl ⟨by decide, by decide⟩ hr
    refine et_icmp_lt 113 dX11_rests_81 (by decide) (fun h14 => ?_) (fun h14 => ?_)
    · refine et_iconst dX11_rests_113 ?_
      have e9 : v13 = false := hv13.trans ((if_pos h14))
      subst e9
      exact hJv13
    · refine et_iload dX11_rests_84 0 rfl ?_
      refine et_iload dX11_rests_86 1 rfl ?_
      refine et_iload_n dX11_rests_88 2 rfl ?_
      refine et_iload_n dX11_rests_89 3 rfl ?_
      refine et_iload_n dX11_rests_90 4 rfl ?_
      refine ct_S1 (As := [vi v10, vi v9, vi lose, vi turns, vi waits]) (st := []) miX11_gain (tX11_gain v10 v9 lose turns waits (L μ) (o := (fX11_gain v10 v9 lose turns waits)) rfl) dX11_rests_91 lkX11_320 stX11_gain rfl ⟨⟨Nat.le_of_ble_eq_true rfl, Nat.le_of_ble_eq_true rfl⟩, Nat.zero_le _, Nat.zero_le _⟩ (Nat.le_of_ble_eq_true rfl) ?_
      refine et_iconst dX11_rests_94 ?_
      refine et_iload dX11_rests_95 0 rfl ?_
      refine et_isub dX11_rests_97 ?_
      refine et_iload dX11_rests_98 1 rfl ?_
      refine et_iload_n dX11_rests_100 2 rfl ?_
      refine et_iload_n dX11_rests_101 3 rfl ?_
      refine et_iload_n dX11_rests_102 4 rfl ?_
      refine ct_S1 (As := [vi (1 - v10), vi v9, vi lose, vi turns, vi waits]) (st := [vi (fX11_gain v10 v9 lose turns waits)]) miX11_gain (tX11_gain (1 - v10) v9 lose turns waits (L μ) (o := (fX11_gain (1 - v10) v9 lose turns waits)) rfl) dX11_rests_103 lkX11_320 stX11_gain rfl ⟨⟨Nat.le_of_ble_eq_true rfl, Nat.le_of_ble_eq_true rfl⟩, Nat.zero_le _, Nat.zero_le _⟩ (Nat.le_of_ble_eq_true rfl) ?_
      refine et_icmp_lt 113 dX11_rests_106 (by decide) (fun h15 => ?_) (fun h15 => ?_)
      · refine et_iconst dX11_rests_113 ?_
        have e9 : v13 = false := hv13.trans (((if_neg h14)).trans (if_pos h15))
        subst e9
        exact hJv13
      · refine et_iconst dX11_rests_109 ?_
        refine et_goto 114 dX11_rests_110 (by decide) ?_
        have e9 : v13 = true := hv13.trans (((if_neg h14)).trans (if_neg h15))
        subst e9
        exact hJv13
def fX11_rests (lose : Int) (turns : Int) (waits : Int) (what : Int) (μ : Mem) : Option (Int × Bool) :=
  if (fX11_isDigit lose) = true then
    if (fX11_isDigit turns) = true then
      if (fX11_isDigit waits) = true then
        if w32 what < w32 (-1) then
          some ((0, true))
        else
          loopN (fun s => fX11_rests_b41 lose turns waits what s.1 s.2 μ) FU (0, 0)
      else
        some ((0, true))
    else
      some ((0, true))
  else
    some ((0, true))
set_option maxRecDepth 4000 in
theorem eX11_rests (hno : l.stackTraces = false) (hS : Sd M K P L) (hc : CIn P 1 1) (lose : Int) (turns : Int) (waits : Int) (what : Int) (μ : Mem)  {o : Int × Bool} (hf : fX11_rests lose turns waits what μ = some o) (hr : (fun o : Int × Bool => o = o0) o) : Et l D cy g K yX11_rests cX11_rests 10 (some .int) (rmd 7 1 6) (QT D cy g K M (L μ) o0) 0 0 M x (L μ) 0 [(0, vr g 0), (1, vi lose), (2, vi turns), (3, vi waits), (4, vi what)] [] := by
  unfold fX11_rests at hf
  refine et_iload_n dX11_rests_0 1 rfl ?_
  refine ct_S1 (As := [vi lose]) (st := []) miX11_isDigit (tX11_isDigit lose (L μ) (o := (fX11_isDigit lose)) rfl) dX11_rests_1 lkX11_314 stX11_isDigit rfl ⟨⟨Nat.le_of_ble_eq_true rfl, Nat.le_of_ble_eq_true rfl⟩, Nat.zero_le _, Nat.zero_le _⟩ (Nat.le_of_ble_eq_true rfl) ?_
  refine et_ifb_eq 27 dX11_rests_4 (by decide) (fun h1 => ?_) (fun h1 => ?_)
  · rw [if_neg h1] at hf
    obtain rfl := Option.some.inj hf
    exact et_throwT hno rfl dX11_rests_27 dX11_rests_30 dX11_rests_31 dX11_rests_34 ⟨by decide, by decide, by decide, by decide⟩ hr
  · rw [if_pos h1] at hf
    refine et_iload_n dX11_rests_7 2 rfl ?_
    refine ct_S1 (As := [vi turns]) (st := []) miX11_isDigit (tX11_isDigit turns (L μ) (o := (fX11_isDigit turns)) rfl) dX11_rests_8 lkX11_314 stX11_isDigit rfl ⟨⟨Nat.le_of_ble_eq_true rfl, Nat.le_of_ble_eq_true rfl⟩, Nat.zero_le _, Nat.zero_le _⟩ (Nat.le_of_ble_eq_true rfl) ?_
    refine et_ifb_eq 27 dX11_rests_11 (by decide) (fun h2 => ?_) (fun h2 => ?_)
    · rw [if_neg h2] at hf
      obtain rfl := Option.some.inj hf
      exact et_throwT hno rfl dX11_rests_27 dX11_rests_30 dX11_rests_31 dX11_rests_34 ⟨by decide, by decide, by decide, by decide⟩ hr
    · rw [if_pos h2] at hf
      refine et_iload_n dX11_rests_14 3 rfl ?_
      refine ct_S1 (As := [vi waits]) (st := []) miX11_isDigit (tX11_isDigit waits (L μ) (o := (fX11_isDigit waits)) rfl) dX11_rests_15 lkX11_314 stX11_isDigit rfl ⟨⟨Nat.le_of_ble_eq_true rfl, Nat.le_of_ble_eq_true rfl⟩, Nat.zero_le _, Nat.zero_le _⟩ (Nat.le_of_ble_eq_true rfl) ?_
      refine et_ifb_eq 27 dX11_rests_18 (by decide) (fun h3 => ?_) (fun h3 => ?_)
      · rw [if_neg h3] at hf
        obtain rfl := Option.some.inj hf
        exact et_throwT hno rfl dX11_rests_27 dX11_rests_30 dX11_rests_31 dX11_rests_34 ⟨by decide, by decide, by decide, by decide⟩ hr
      · rw [if_pos h3] at hf
        refine et_iload dX11_rests_21 4 rfl ?_
        refine et_iconst dX11_rests_23 ?_
        refine et_icmp_ge 35 dX11_rests_24 (by decide) (fun h4 => ?_) (fun h4 => ?_)
        · rw [if_neg h4] at hf
          refine et_iconst dX11_rests_35 ?_
          refine et_istore (al2 := [(5, vi 0), (0, vr g 0), (1, vi lose), (2, vi turns), (3, vi waits), (4, vi what)]) dX11_rests_36 (by decide) rfl ?_
          refine et_iconst dX11_rests_38 ?_
          refine et_istore (al2 := [(6, vi 0), (5, vi 0), (0, vr g 0), (1, vi lose), (2, vi turns), (3, vi waits), (4, vi what)]) dX11_rests_39 (by decide) rfl ?_
          refine et_sub [3, 4, 5, 6, 1, 0] rfl ?_
          exact loop_ev (H := (fun s : Int × Int => Et l D cy g K yX11_rests cX11_rests 10 (some .int) (rmd 7 1 6) (QT D cy g K M (L μ) o0) 0 0 M x (L μ) 41 [(1, vi lose), (2, vi turns), (3, vi waits), (4, vi what), (5, vi s.1), (6, vi s.2)] [])) (Hx := (fun o : Int × Bool => o = o0)) (fun s o hb hr => tX11_rests_b41 hno hS hc lose turns waits what s.1 s.2 μ hb hr) FU _ _ hf hr
        · rw [if_pos h4] at hf
          obtain rfl := Option.some.inj hf
          exact et_throwT hno rfl dX11_rests_27 dX11_rests_30 dX11_rests_31 dX11_rests_34 ⟨by decide, by decide, by decide, by decide⟩ hr

end L1
