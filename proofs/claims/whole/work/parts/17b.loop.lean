section LAWL
variable {l : Launch} {D : va_G} {cy : Nat → ClassId} {g : Nat → Nat} {nm : String} {b L : Nat} {xs : Nat → Int32}
/-- one call of the script -/
theorem law_sw {G : Mem → Prop} (hb : L ≤ 3584) (h_feed : ∀ μ, G μ → ∀ (a0 : Int) (a1 : Int) (a2 : Int), S_feed G a0 a1 a2 μ) (h_griddle : ∀ μ, G μ → S_griddle G  μ) (h_plan : ∀ μ, G μ → S_plan G  μ) (h_wish : ∀ μ, G μ → S_wish G  μ) (h_cake : ∀ μ, G μ → ∀ (a0 : Int) (a1 : Int), S_cake G a0 a1 μ) (h_there : ∀ μ, G μ → ∀ (a0 : Int), S_there G a0 μ) (h_turn : ∀ μ, G μ → ∀ (a0 : Int), S_turn G a0 μ) (h_undo : ∀ μ, G μ → S_undo G  μ) (h_can : ∀ μ, G μ → ∀ (a0 : Int), S_can G a0 μ) (h_cost : ∀ μ, G μ → ∀ (a0 : Int), S_cost G a0 μ) (h_served : ∀ μ, G μ → S_served G  μ) (h_judged : ∀ μ, G μ → ∀ (a0 : Int), S_judged G a0 μ) (h_least : ∀ μ, G μ → S_least G  μ) (h_row : ∀ μ, G μ → ∀ (a0 : Int), S_row G a0 μ) (h_ways : ∀ μ, G μ → S_ways G  μ) (h_cheap : ∀ μ, G μ → S_cheap G  μ) (h_bill : ∀ μ, G μ → ∀ (a0 : Int), S_bill G a0 μ) (h_without : ∀ μ, G μ → ∀ (a0 : Int), S_without G a0 μ) (h_needed : ∀ μ, G μ → S_needed G  μ) (h_far : ∀ μ, G μ → S_far G  μ) (h_toward : ∀ μ, G μ → S_toward G  μ) (h_never : ∀ μ, G μ → S_never G  μ) (h_hard : ∀ μ, G μ → ∀ (a0 : Int), S_hard G a0 μ) (h_spread : ∀ μ, G μ → ∀ (a0 : Int), S_spread G a0 μ) (h_dear : ∀ μ, G μ → S_dear G  μ) (h_rim : ∀ μ, G μ → S_rim G  μ) (h_nth : ∀ μ, G μ → S_nth G  μ) (h_ring : ∀ μ, G μ → ∀ (a0 : Int) (a1 : Int), S_ring G a0 a1 μ) (h_pairs : ∀ μ, G μ → S_pairs G  μ) (h_reached : ∀ μ, G μ → ∀ (a0 : Int), S_reached G a0 μ) (h_gaps : ∀ μ, G μ → S_gaps G  μ) (h_sharp : ∀ μ, G μ → S_sharp G  μ) (h_again : ∀ μ, G μ → S_again G  μ) (h_spare : ∀ μ, G μ → S_spare G  μ) (h_ends : ∀ μ, G μ → S_ends G  μ) (h_wins : ∀ μ, G μ → ∀ (a0 : Int), S_wins G a0 μ) (h_his : ∀ μ, G μ → S_his G  μ) (h_see : ∀ μ, G μ → ∀ (a0 : Int) (a1 : Int) (a2 : Bool), S_see G a0 a1 a2 μ) (h_lies : ∀ μ, G μ → ∀ (a0 : Int) (a1 : Bool), S_lies G a0 a1 μ) (h_fit : ∀ μ, G μ → S_fit G  μ) (h_look : ∀ μ, G μ → S_look G  μ) (h_chance : ∀ μ, G μ → ∀ (a0 : Int) (a1 : Bool), S_chance G a0 a1 μ) (h_mornings : ∀ μ, G μ → ∀ (a0 : Int) (a1 : Int) (a2 : Int), S_mornings G a0 a1 a2 μ) (h_mark : ∀ μ, G μ → ∀ (a0 : Int) (a1 : Bool), S_mark G a0 a1 μ) (h_count : ∀ μ, G μ → ∀ (a0 : Int), S_count G a0 μ) (h_rests : ∀ (i cells slots : Nat) (μ : Mem), G μ → i + 7 ≤ L → cells + 7 ≤ 601024 ∧ slots + 7 ≤ 7293034 → (∀ μ2, G μ2 → Ev l D cy g (Kr 0 97) (yl nm) cL_law 7 ret room_1 (QL b L xs g) (cells + 7) (slots + 7) 97 false μ2 1463 [(0, Value.ref b), (1, vr g 0), (2, vr g 75), (3, vr g 96), (4, vi (i : Int))] []) → Ev l D cy g (Kr 0 97) (yl nm) cL_law 7 ret room_1 (QL b L xs g) cells slots 97 false μ 1244 [(0, Value.ref b), (1, vr g 0), (2, vr g 75), (3, vr g 96), (4, vi (i : Int))] []) (i : Nat) (μ : Mem) (hG : G μ) (hi : i + 7 ≤ L) (z : Int) (cells slots : Nat) (hc : cells + 7 ≤ 601024 ∧ slots + 7 ≤ 7293034) (kk : ∀ μ2, G μ2 → Ev l D cy g (Kr 0 97) (yl nm) cL_law 7 ret room_1 (QL b L xs g) (cells + 7) (slots + 7) 97 false μ2 1463 [(0, Value.ref b), (1, vr g 0), (2, vr g 75), (3, vr g 96), (4, vi (i : Int))] []) : Ev l D cy g (Kr 0 97) (yl nm) cL_law 7 ret room_1 (QL b L xs g) cells slots 97 false μ 40 [(0, Value.ref b), (1, vr g 0), (2, vr g 75), (3, vr g 96), (4, vi (i : Int))] [vi z] := by
  have k2 : ∀ μ2, G μ2 → Ev l D cy g (Kr 0 97) (yl nm) cL_law 7 ret room_1 (QL b L xs g) cells slots 97 false μ2 1463 [(0, Value.ref b), (1, vr g 0), (2, vr g 75), (3, vr g 96), (4, vi (i : Int))] [] := fun μ2 h => ev_wide (Nat.le_add_right _ _) (Nat.le_add_right _ _) (kk μ2 h)
  have hc2 : cells ≤ 601024 ∧ slots ≤ 7293034 := ⟨by omega, by omega⟩
  by_cases e0 : w32 z = 0
  · exact ev_tableIn 240 0 dL_law_40 e0 (by decide) (by decide) rfl (by decide) (lc_feed (h_feed μ hG) hi hb hc2 k2)
  by_cases e1 : w32 z = 1
  · exact ev_tableIn 387 1 dL_law_40 e1 (by decide) (by decide) rfl (by decide) (lc_griddle (h_griddle μ hG) hi hb hc2 k2)
  by_cases e2 : w32 z = 2
  · exact ev_tableIn 400 2 dL_law_40 e2 (by decide) (by decide) rfl (by decide) (lc_plan (h_plan μ hG) hi hb hc2 k2)
  by_cases e3 : w32 z = 3
  · exact ev_tableIn 413 3 dL_law_40 e3 (by decide) (by decide) rfl (by decide) (lc_wish (h_wish μ hG) hi hb hc2 k2)
  by_cases e4 : w32 z = 4
  · exact ev_tableIn 426 4 dL_law_40 e4 (by decide) (by decide) rfl (by decide) (lc_cake (h_cake μ hG) hi hb hc2 k2)
  by_cases e5 : w32 z = 5
  · exact ev_tableIn 463 5 dL_law_40 e5 (by decide) (by decide) rfl (by decide) (lc_there (h_there μ hG) hi hb hc2 k2)
  by_cases e6 : w32 z = 6
  · exact ev_tableIn 488 6 dL_law_40 e6 (by decide) (by decide) rfl (by decide) (lc_turn (h_turn μ hG) hi hb hc2 k2)
  by_cases e7 : w32 z = 7
  · exact ev_tableIn 513 7 dL_law_40 e7 (by decide) (by decide) rfl (by decide) (lc_undo (h_undo μ hG) hi hb hc2 k2)
  by_cases e8 : w32 z = 8
  · exact ev_tableIn 526 8 dL_law_40 e8 (by decide) (by decide) rfl (by decide) (lc_can (h_can μ hG) hi hb hc2 k2)
  by_cases e9 : w32 z = 9
  · exact ev_tableIn 551 9 dL_law_40 e9 (by decide) (by decide) rfl (by decide) (lc_cost (h_cost μ hG) hi hb hc2 k2)
  by_cases e10 : w32 z = 10
  · exact ev_tableIn 576 10 dL_law_40 e10 (by decide) (by decide) rfl (by decide) (lc_served (h_served μ hG) hi hb hc2 k2)
  by_cases e11 : w32 z = 11
  · exact ev_tableIn 589 11 dL_law_40 e11 (by decide) (by decide) rfl (by decide) (lc_judged (h_judged μ hG) hi hb hc2 k2)
  by_cases e12 : w32 z = 12
  · exact ev_tableIn 614 12 dL_law_40 e12 (by decide) (by decide) rfl (by decide) (lc_least (h_least μ hG) hi hb hc2 k2)
  by_cases e13 : w32 z = 13
  · exact ev_tableIn 627 13 dL_law_40 e13 (by decide) (by decide) rfl (by decide) (lc_row (h_row μ hG) hi hb hc2 k2)
  by_cases e14 : w32 z = 14
  · exact ev_tableIn 652 14 dL_law_40 e14 (by decide) (by decide) rfl (by decide) (lc_ways (h_ways μ hG) hi hb hc2 k2)
  by_cases e15 : w32 z = 15
  · exact ev_tableIn 665 15 dL_law_40 e15 (by decide) (by decide) rfl (by decide) (lc_cheap (h_cheap μ hG) hi hb hc2 k2)
  by_cases e16 : w32 z = 16
  · exact ev_tableIn 678 16 dL_law_40 e16 (by decide) (by decide) rfl (by decide) (lc_bill (h_bill μ hG) hi hb hc2 k2)
  by_cases e17 : w32 z = 17
  · exact ev_tableIn 703 17 dL_law_40 e17 (by decide) (by decide) rfl (by decide) (lc_without (h_without μ hG) hi hb hc2 k2)
  by_cases e18 : w32 z = 18
  · exact ev_tableIn 728 18 dL_law_40 e18 (by decide) (by decide) rfl (by decide) (lc_needed (h_needed μ hG) hi hb hc2 k2)
  by_cases e19 : w32 z = 19
  · exact ev_tableIn 741 19 dL_law_40 e19 (by decide) (by decide) rfl (by decide) (lc_far (h_far μ hG) hi hb hc2 k2)
  by_cases e20 : w32 z = 20
  · exact ev_tableIn 754 20 dL_law_40 e20 (by decide) (by decide) rfl (by decide) (lc_toward (h_toward μ hG) hi hb hc2 k2)
  by_cases e21 : w32 z = 21
  · exact ev_tableIn 767 21 dL_law_40 e21 (by decide) (by decide) rfl (by decide) (lc_never (h_never μ hG) hi hb hc2 k2)
  by_cases e22 : w32 z = 22
  · exact ev_tableIn 780 22 dL_law_40 e22 (by decide) (by decide) rfl (by decide) (lc_hard (h_hard μ hG) hi hb hc2 k2)
  by_cases e23 : w32 z = 23
  · exact ev_tableIn 805 23 dL_law_40 e23 (by decide) (by decide) rfl (by decide) (lc_spread (h_spread μ hG) hi hb hc2 k2)
  by_cases e24 : w32 z = 24
  · exact ev_tableIn 830 24 dL_law_40 e24 (by decide) (by decide) rfl (by decide) (lc_dear (h_dear μ hG) hi hb hc2 k2)
  by_cases e25 : w32 z = 25
  · exact ev_tableIn 843 25 dL_law_40 e25 (by decide) (by decide) rfl (by decide) (lc_rim (h_rim μ hG) hi hb hc2 k2)
  by_cases e26 : w32 z = 26
  · exact ev_tableIn 856 26 dL_law_40 e26 (by decide) (by decide) rfl (by decide) (lc_nth (h_nth μ hG) hi hb hc2 k2)
  by_cases e27 : w32 z = 27
  · exact ev_tableIn 869 27 dL_law_40 e27 (by decide) (by decide) rfl (by decide) (lc_ring (h_ring μ hG) hi hb hc2 k2)
  by_cases e28 : w32 z = 28
  · exact ev_tableIn 906 28 dL_law_40 e28 (by decide) (by decide) rfl (by decide) (lc_pairs (h_pairs μ hG) hi hb hc2 k2)
  by_cases e29 : w32 z = 29
  · exact ev_tableIn 919 29 dL_law_40 e29 (by decide) (by decide) rfl (by decide) (lc_reached (h_reached μ hG) hi hb hc2 k2)
  by_cases e30 : w32 z = 30
  · exact ev_tableIn 944 30 dL_law_40 e30 (by decide) (by decide) rfl (by decide) (lc_gaps (h_gaps μ hG) hi hb hc2 k2)
  by_cases e31 : w32 z = 31
  · exact ev_tableIn 957 31 dL_law_40 e31 (by decide) (by decide) rfl (by decide) (lc_sharp (h_sharp μ hG) hi hb hc2 k2)
  by_cases e32 : w32 z = 32
  · exact ev_tableIn 970 32 dL_law_40 e32 (by decide) (by decide) rfl (by decide) (lc_again (h_again μ hG) hi hb hc2 k2)
  by_cases e33 : w32 z = 33
  · exact ev_tableIn 983 33 dL_law_40 e33 (by decide) (by decide) rfl (by decide) (lc_spare (h_spare μ hG) hi hb hc2 k2)
  by_cases e34 : w32 z = 34
  · exact ev_tableIn 996 34 dL_law_40 e34 (by decide) (by decide) rfl (by decide) (lc_ends (h_ends μ hG) hi hb hc2 k2)
  by_cases e35 : w32 z = 35
  · exact ev_tableIn 1009 35 dL_law_40 e35 (by decide) (by decide) rfl (by decide) (lc_wins (h_wins μ hG) hi hb hc2 k2)
  by_cases e36 : w32 z = 36
  · exact ev_tableIn 1034 36 dL_law_40 e36 (by decide) (by decide) rfl (by decide) (lc_his (h_his μ hG) hi hb hc2 k2)
  by_cases e37 : w32 z = 37
  · exact ev_tableIn 1047 37 dL_law_40 e37 (by decide) (by decide) rfl (by decide) (lc_see (h_see μ hG) hi hb hc2 k2)
  by_cases e38 : w32 z = 38
  · exact ev_tableIn 1112 38 dL_law_40 e38 (by decide) (by decide) rfl (by decide) (lc_lies (h_lies μ hG) hi hb hc2 k2)
  by_cases e39 : w32 z = 39
  · exact ev_tableIn 1165 39 dL_law_40 e39 (by decide) (by decide) rfl (by decide) (lc_fit (h_fit μ hG) hi hb hc2 k2)
  by_cases e40 : w32 z = 40
  · exact ev_tableIn 1178 40 dL_law_40 e40 (by decide) (by decide) rfl (by decide) (lc_look (h_look μ hG) hi hb hc2 k2)
  by_cases e41 : w32 z = 41
  · exact ev_tableIn 1191 41 dL_law_40 e41 (by decide) (by decide) rfl (by decide) (lc_chance (h_chance μ hG) hi hb hc2 k2)
  by_cases e42 : w32 z = 42
  · exact ev_tableIn 1244 42 dL_law_40 e42 (by decide) (by decide) rfl (by decide) (h_rests i cells slots μ hG hi hc kk)
  by_cases e43 : w32 z = 43
  · exact ev_tableIn 1336 43 dL_law_40 e43 (by decide) (by decide) rfl (by decide) (lc_mornings (h_mornings μ hG) hi hb hc2 k2)
  by_cases e44 : w32 z = 44
  · exact ev_tableIn 1385 44 dL_law_40 e44 (by decide) (by decide) rfl (by decide) (lc_mark (h_mark μ hG) hi hb hc2 k2)
  by_cases e45 : w32 z = 45
  · exact ev_tableIn 1438 45 dL_law_40 e45 (by decide) (by decide) rfl (by decide) (lc_count (h_count μ hG) hi hb hc2 k2)
  exact ev_tableOut 1463 dL_law_40 (by omega) (by decide) (k2 μ hG)
theorem law_loop {G : Mem → Prop} (hb : L ≤ 3584) (hg : ∀ s : State, PX b L xs g s → s.heap.size ≤ g 0) (h_feed : ∀ μ, G μ → ∀ (a0 : Int) (a1 : Int) (a2 : Int), S_feed G a0 a1 a2 μ) (h_griddle : ∀ μ, G μ → S_griddle G  μ) (h_plan : ∀ μ, G μ → S_plan G  μ) (h_wish : ∀ μ, G μ → S_wish G  μ) (h_cake : ∀ μ, G μ → ∀ (a0 : Int) (a1 : Int), S_cake G a0 a1 μ) (h_there : ∀ μ, G μ → ∀ (a0 : Int), S_there G a0 μ) (h_turn : ∀ μ, G μ → ∀ (a0 : Int), S_turn G a0 μ) (h_undo : ∀ μ, G μ → S_undo G  μ) (h_can : ∀ μ, G μ → ∀ (a0 : Int), S_can G a0 μ) (h_cost : ∀ μ, G μ → ∀ (a0 : Int), S_cost G a0 μ) (h_served : ∀ μ, G μ → S_served G  μ) (h_judged : ∀ μ, G μ → ∀ (a0 : Int), S_judged G a0 μ) (h_least : ∀ μ, G μ → S_least G  μ) (h_row : ∀ μ, G μ → ∀ (a0 : Int), S_row G a0 μ) (h_ways : ∀ μ, G μ → S_ways G  μ) (h_cheap : ∀ μ, G μ → S_cheap G  μ) (h_bill : ∀ μ, G μ → ∀ (a0 : Int), S_bill G a0 μ) (h_without : ∀ μ, G μ → ∀ (a0 : Int), S_without G a0 μ) (h_needed : ∀ μ, G μ → S_needed G  μ) (h_far : ∀ μ, G μ → S_far G  μ) (h_toward : ∀ μ, G μ → S_toward G  μ) (h_never : ∀ μ, G μ → S_never G  μ) (h_hard : ∀ μ, G μ → ∀ (a0 : Int), S_hard G a0 μ) (h_spread : ∀ μ, G μ → ∀ (a0 : Int), S_spread G a0 μ) (h_dear : ∀ μ, G μ → S_dear G  μ) (h_rim : ∀ μ, G μ → S_rim G  μ) (h_nth : ∀ μ, G μ → S_nth G  μ) (h_ring : ∀ μ, G μ → ∀ (a0 : Int) (a1 : Int), S_ring G a0 a1 μ) (h_pairs : ∀ μ, G μ → S_pairs G  μ) (h_reached : ∀ μ, G μ → ∀ (a0 : Int), S_reached G a0 μ) (h_gaps : ∀ μ, G μ → S_gaps G  μ) (h_sharp : ∀ μ, G μ → S_sharp G  μ) (h_again : ∀ μ, G μ → S_again G  μ) (h_spare : ∀ μ, G μ → S_spare G  μ) (h_ends : ∀ μ, G μ → S_ends G  μ) (h_wins : ∀ μ, G μ → ∀ (a0 : Int), S_wins G a0 μ) (h_his : ∀ μ, G μ → S_his G  μ) (h_see : ∀ μ, G μ → ∀ (a0 : Int) (a1 : Int) (a2 : Bool), S_see G a0 a1 a2 μ) (h_lies : ∀ μ, G μ → ∀ (a0 : Int) (a1 : Bool), S_lies G a0 a1 μ) (h_fit : ∀ μ, G μ → S_fit G  μ) (h_look : ∀ μ, G μ → S_look G  μ) (h_chance : ∀ μ, G μ → ∀ (a0 : Int) (a1 : Bool), S_chance G a0 a1 μ) (h_mornings : ∀ μ, G μ → ∀ (a0 : Int) (a1 : Int) (a2 : Int), S_mornings G a0 a1 a2 μ) (h_mark : ∀ μ, G μ → ∀ (a0 : Int) (a1 : Bool), S_mark G a0 a1 μ) (h_count : ∀ μ, G μ → ∀ (a0 : Int), S_count G a0 μ) (h_rests : ∀ (i cells slots : Nat) (μ : Mem), G μ → i + 7 ≤ L → cells + 7 ≤ 601024 ∧ slots + 7 ≤ 7293034 → (∀ μ2, G μ2 → Ev l D cy g (Kr 0 97) (yl nm) cL_law 7 ret room_1 (QL b L xs g) (cells + 7) (slots + 7) 97 false μ2 1463 [(0, Value.ref b), (1, vr g 0), (2, vr g 75), (3, vr g 96), (4, vi (i : Int))] []) → Ev l D cy g (Kr 0 97) (yl nm) cL_law 7 ret room_1 (QL b L xs g) cells slots 97 false μ 1244 [(0, Value.ref b), (1, vr g 0), (2, vr g 75), (3, vr g 96), (4, vi (i : Int))] []) : ∀ (n i : Nat) (μ : Mem), G μ → i ≤ L + 7 → L - i < n → Ev l D cy g (Kr 0 97) (yl nm) cL_law 7 ret room_1 (QL b L xs g) (97 + i) (69836 + i) 97 false μ 23 [(0, Value.ref b), (1, vr g 0), (2, vr g 75), (3, vr g 96), (4, vi (i : Int))] []
  | 0, i, μ => fun _ _ h => absurd h (by omega)
  | n + 1, i, μ => fun hG hi hn => by
    refine ev_iload dL_law_23 4 rfl ?_
    refine ev_aload_n dL_law_25 0 rfl ?_
    refine ev_slen dL_law_26 ?_
    refine ev_bipush dL_law_27 rfl ?_
    refine ev_isub dL_law_29 ?_
    have e1 : w32 (i : Int) = i := w32_eq (by omega) (by omega)
    have e2 : w32 ((L : Int) - 7) = (L : Int) - 7 := w32_eq (by omega) (by omega)
    refine ev_icmp_gt 1469 dL_law_30 (by decide) (fun _ => ?_) (fun h => ?_)
    · refine ev_iconst dL_law_1469 ?_
      exact ev_lawend (y := yl nm) dL_law_1470 hg ⟨by omega, by omega⟩
    · rw [e1, e2] at h
      have hi7 : i + 7 ≤ L := by omega
      refine ev_aload_n dL_law_33 0 rfl ?_
      refine ev_iload dL_law_34 4 rfl ?_
      refine ev_sld i dL_law_36 e1 (by omega) ?_
      refine ev_bipush dL_law_37 rfl ?_
      refine ev_iand dL_law_39 ?_
      refine law_sw hb h_feed h_griddle h_plan h_wish h_cake h_there h_turn h_undo h_can h_cost h_served h_judged h_least h_row h_ways h_cheap h_bill h_without h_needed h_far h_toward h_never h_hard h_spread h_dear h_rim h_nth h_ring h_pairs h_reached h_gaps h_sharp h_again h_spare h_ends h_wins h_his h_see h_lies h_fit h_look h_chance h_mornings h_mark h_count h_rests i μ hG hi7 _ _ _ ⟨by omega, by omega⟩ (fun μ2 hG2 => ?_)
      refine ev_iinc dL_law_1463 4 rfl (by decide) rfl ?_
      refine ev_goto 23 dL_law_1466 (by decide) ?_
      refine ev_sub [1, 2, 3, 4, 0] rfl ?_
      have e3 : ((i : Int) + 7) = ((i + 7 : Nat) : Int) := by omega
      rw [e3]
      exact law_loop hb hg h_feed h_griddle h_plan h_wish h_cake h_there h_turn h_undo h_can h_cost h_served h_judged h_least h_row h_ways h_cheap h_bill h_without h_needed h_far h_toward h_never h_hard h_spread h_dear h_rim h_nth h_ring h_pairs h_reached h_gaps h_sharp h_again h_spare h_ends h_wins h_his h_see h_lies h_fit h_look h_chance h_mornings h_mark h_count h_rests n (i + 7) μ2 hG2 (by omega) (by omega)
theorem Fr_dfl : Fr 0 dfl := fun _ _ => rfl
abbrev mI (o1 : Mem) (o2 : Int × Mem) : Mem := LR 0 75 (mC dfl o1) (fX5_begin 41 o2.1 o2.2)
theorem law_begin {G : Mem → Prop} (hb : L ≤ 3584) (hg : ∀ s : State, PX b L xs g s → s.heap.size ≤ g 0) {o1 o3 o4 : Mem} {o2 : Int × Mem} (hx1 : fX7_learn 5 (ups us_S (ups us_A0 dfl)) = some o1) (hx2 : fX7_told (mC dfl o1) = some o2) (hx3 : fX12_standsAsAlways 0 (ups us_M (mI o1 o2)) = some o3) (hx4 : fX12_begins o3 = some o4) (hG : G (LR 75 96 (ups us_M (mI o1 o2)) o4)) (h_feed : ∀ μ, G μ → ∀ (a0 : Int) (a1 : Int) (a2 : Int), S_feed G a0 a1 a2 μ) (h_griddle : ∀ μ, G μ → S_griddle G  μ) (h_plan : ∀ μ, G μ → S_plan G  μ) (h_wish : ∀ μ, G μ → S_wish G  μ) (h_cake : ∀ μ, G μ → ∀ (a0 : Int) (a1 : Int), S_cake G a0 a1 μ) (h_there : ∀ μ, G μ → ∀ (a0 : Int), S_there G a0 μ) (h_turn : ∀ μ, G μ → ∀ (a0 : Int), S_turn G a0 μ) (h_undo : ∀ μ, G μ → S_undo G  μ) (h_can : ∀ μ, G μ → ∀ (a0 : Int), S_can G a0 μ) (h_cost : ∀ μ, G μ → ∀ (a0 : Int), S_cost G a0 μ) (h_served : ∀ μ, G μ → S_served G  μ) (h_judged : ∀ μ, G μ → ∀ (a0 : Int), S_judged G a0 μ) (h_least : ∀ μ, G μ → S_least G  μ) (h_row : ∀ μ, G μ → ∀ (a0 : Int), S_row G a0 μ) (h_ways : ∀ μ, G μ → S_ways G  μ) (h_cheap : ∀ μ, G μ → S_cheap G  μ) (h_bill : ∀ μ, G μ → ∀ (a0 : Int), S_bill G a0 μ) (h_without : ∀ μ, G μ → ∀ (a0 : Int), S_without G a0 μ) (h_needed : ∀ μ, G μ → S_needed G  μ) (h_far : ∀ μ, G μ → S_far G  μ) (h_toward : ∀ μ, G μ → S_toward G  μ) (h_never : ∀ μ, G μ → S_never G  μ) (h_hard : ∀ μ, G μ → ∀ (a0 : Int), S_hard G a0 μ) (h_spread : ∀ μ, G μ → ∀ (a0 : Int), S_spread G a0 μ) (h_dear : ∀ μ, G μ → S_dear G  μ) (h_rim : ∀ μ, G μ → S_rim G  μ) (h_nth : ∀ μ, G μ → S_nth G  μ) (h_ring : ∀ μ, G μ → ∀ (a0 : Int) (a1 : Int), S_ring G a0 a1 μ) (h_pairs : ∀ μ, G μ → S_pairs G  μ) (h_reached : ∀ μ, G μ → ∀ (a0 : Int), S_reached G a0 μ) (h_gaps : ∀ μ, G μ → S_gaps G  μ) (h_sharp : ∀ μ, G μ → S_sharp G  μ) (h_again : ∀ μ, G μ → S_again G  μ) (h_spare : ∀ μ, G μ → S_spare G  μ) (h_ends : ∀ μ, G μ → S_ends G  μ) (h_wins : ∀ μ, G μ → ∀ (a0 : Int), S_wins G a0 μ) (h_his : ∀ μ, G μ → S_his G  μ) (h_see : ∀ μ, G μ → ∀ (a0 : Int) (a1 : Int) (a2 : Bool), S_see G a0 a1 a2 μ) (h_lies : ∀ μ, G μ → ∀ (a0 : Int) (a1 : Bool), S_lies G a0 a1 μ) (h_fit : ∀ μ, G μ → S_fit G  μ) (h_look : ∀ μ, G μ → S_look G  μ) (h_chance : ∀ μ, G μ → ∀ (a0 : Int) (a1 : Bool), S_chance G a0 a1 μ) (h_mornings : ∀ μ, G μ → ∀ (a0 : Int) (a1 : Int) (a2 : Int), S_mornings G a0 a1 a2 μ) (h_mark : ∀ μ, G μ → ∀ (a0 : Int) (a1 : Bool), S_mark G a0 a1 μ) (h_count : ∀ μ, G μ → ∀ (a0 : Int), S_count G a0 μ) (h_rests : ∀ (i cells slots : Nat) (μ : Mem), G μ → i + 7 ≤ L → cells + 7 ≤ 601024 ∧ slots + 7 ≤ 7293034 → (∀ μ2, G μ2 → Ev l D cy g (Kr 0 97) (yl nm) cL_law 7 ret room_1 (QL b L xs g) (cells + 7) (slots + 7) 97 false μ2 1463 [(0, Value.ref b), (1, vr g 0), (2, vr g 75), (3, vr g 96), (4, vi (i : Int))] []) → Ev l D cy g (Kr 0 97) (yl nm) cL_law 7 ret room_1 (QL b L xs g) cells slots 97 false μ 1244 [(0, Value.ref b), (1, vr g 0), (2, vr g 75), (3, vr g 96), (4, vi (i : Int))] []) : Ev l D cy g (Kr 0 0) (yl nm) cL_law 7 ret room_1 (QL b L xs g) 0 0 0 true dfl 0 [(0, Value.ref b)] [] := by
  refine ev_new dL_law_0 rfl ciX11 clL_8 itX11 iniX11 (by decide) rfl rfl (dvX11 g) ⟨Nat.le_of_ble_eq_true rfl, Nat.le_of_ble_eq_true rfl⟩ ?_
  refine ev_dup dL_law_3 rfl ?_
  refine cl_I (As := []) (st := [vr g 0]) miX11_init (tc0 (fun k hk => rfl) hx1 hx2) dL_law_4 lkL_15 inX11_init rfl ⟨⟨Nat.le_of_ble_eq_true rfl, Nat.le_of_ble_eq_true rfl⟩, Nat.le_of_ble_eq_true rfl, Nat.le_of_ble_eq_true rfl⟩ (Nat.le_of_ble_eq_true rfl) ?_
  refine ev_astore_n dL_law_7 1 rfl (by decide) rfl ?_
  have hF : Fr 75 (mI o1 o2) := frLR (Fr.ups (M0 := 39) (frLR (Fr.ups (M0 := 0) Fr_dfl rfl rfl) rfl) rfl rfl) rfl
  refine ev_new dL_law_8 rfl ciX12 clL_16 itX12 iniX12 (by decide) rfl (hF 75 (Nat.le_refl _)) (dvX12 g) ⟨Nat.le_of_ble_eq_true rfl, Nat.le_of_ble_eq_true rfl⟩ ?_
  refine ev_dup dL_law_11 rfl ?_
  refine cl_I (As := []) (st := [vr g 75]) miX12_init (tc75 (fun k hk => hF k (by omega)) hx3 hx4) dL_law_12 lkL_18 inX12_init rfl ⟨⟨Nat.le_of_ble_eq_true rfl, Nat.le_of_ble_eq_true rfl⟩, Nat.le_of_ble_eq_true rfl, Nat.le_of_ble_eq_true rfl⟩ (Nat.le_of_ble_eq_true rfl) ?_
  refine ev_astore_n dL_law_15 2 rfl (by decide) rfl ?_
  refine ev_iconst dL_law_16 ?_
  have hF2 : Fr 96 (LR 75 96 (ups us_M (mI o1 o2)) o4) := frLR (Fr.ups hF rfl rfl) rfl
  refine ev_newJ dL_law_17 rfl (by decide) rfl (by decide) (hF2 96 (Nat.le_refl _)) ⟨Nat.le_of_ble_eq_true rfl, Nat.le_of_ble_eq_true rfl⟩ ?_
  refine ev_astore_n dL_law_19 3 rfl (by decide) rfl ?_
  refine ev_iconst dL_law_20 ?_
  refine ev_istore dL_law_21 (by decide) rfl ?_
  refine ev_sub [4, 3, 2, 1, 0] rfl ?_
  refine ev_wx ?_
  exact law_loop hb hg h_feed h_griddle h_plan h_wish h_cake h_there h_turn h_undo h_can h_cost h_served h_judged h_least h_row h_ways h_cheap h_bill h_without h_needed h_far h_toward h_never h_hard h_spread h_dear h_rim h_nth h_ring h_pairs h_reached h_gaps h_sharp h_again h_spare h_ends h_wins h_his h_see h_lies h_fit h_look h_chance h_mornings h_mark h_count h_rests (L + 1) 0 _ hG (by omega) (by omega)
end LAWL
