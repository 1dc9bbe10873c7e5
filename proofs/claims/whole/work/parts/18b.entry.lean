/-! ===== the law's entry ===== -/
theorem UW_hts {args : Array Value} {s : State} (hts : ∀ w ∈ lw_tbl, w.before args s = true) : ∀ w ∈ UW, w.before args s = true := fun w hw => hts w (UW_tbl hw)
theorem start_cls {args : Array Value} {s : State} (hts : ∀ w ∈ lw_tbl, w.before args s = true) : ∃ D : va_G, ∀ (k : Nat) (q : vw_C), vwCl[k]? = some q → u_Kn s q.1 q.2.1 q.2.2 (D.1 k) (D.2 k) := by
  obtain ⟨c0, i0, k0⟩ := u_known (C := RX0) (T := TX0) (N := 3) (n := 3) (UW_hts hts) wsX0_in (UW_hts hts _ itX0)
  obtain ⟨c1, i1, k1⟩ := u_known (C := RX1) (T := TX1) (N := 3) (n := 3) (UW_hts hts) wsX1_in (UW_hts hts _ itX1)
  obtain ⟨c2, i2, k2⟩ := u_known (C := RX2) (T := TX2) (N := 7) (n := 7) (UW_hts hts) wsX2_in (UW_hts hts _ itX2)
  obtain ⟨c3, i3, k3⟩ := u_known (C := RX3) (T := TX3) (N := 6) (n := 6) (UW_hts hts) wsX3_in (UW_hts hts _ itX3)
  obtain ⟨c4, i4, k4⟩ := u_known (C := RX4) (T := TX4) (N := 2) (n := 2) (UW_hts hts) wsX4_in (UW_hts hts _ itX4)
  obtain ⟨c5, i5, k5⟩ := u_known (C := RX5) (T := TX5) (N := 6) (n := 6) (UW_hts hts) wsX5_in (UW_hts hts _ itX5)
  obtain ⟨c6, i6, k6⟩ := u_known (C := RX6) (T := TX6) (N := 5) (n := 5) (UW_hts hts) wsX6_in (UW_hts hts _ itX6)
  obtain ⟨c7, i7, k7⟩ := u_known (C := RX7) (T := TX7) (N := 18) (n := 18) (UW_hts hts) wsX7_in (UW_hts hts _ itX7)
  obtain ⟨c8, i8, k8⟩ := u_known (C := RX8) (T := TX8) (N := 6) (n := 6) (UW_hts hts) wsX8_in (UW_hts hts _ itX8)
  obtain ⟨c9, i9, k9⟩ := u_known (C := RX9) (T := TX9) (N := 8) (n := 8) (UW_hts hts) wsX9_in (UW_hts hts _ itX9)
  obtain ⟨c10, i10, k10⟩ := u_known (C := RX11) (T := TX11) (N := 18) (n := 18) (UW_hts hts) wsX11_in (UW_hts hts _ itX11)
  obtain ⟨c11, i11, k11⟩ := u_known (C := RX12) (T := TX12) (N := 31) (n := 31) (UW_hts hts) wsX12_in (UW_hts hts _ itX12)
  refine ⟨(fun k => match k with
    | 0 => c0
    | 1 => c1
    | 2 => c2
    | 3 => c3
    | 4 => c4
    | 5 => c5
    | 6 => c6
    | 7 => c7
    | 8 => c8
    | 9 => c9
    | 10 => c10
    | 11 => c11
    | _ => c0, fun k => match k with
    | 0 => i0
    | 1 => i1
    | 2 => i2
    | 3 => i3
    | 4 => i4
    | 5 => i5
    | 6 => i6
    | 7 => i7
    | 8 => i8
    | 9 => i9
    | 10 => i10
    | 11 => i11
    | _ => i0), ?_⟩
  intro k q hq
  match k, hq with
  | 0, hq => cases hq; exact k0
  | 1, hq => cases hq; exact k1
  | 2, hq => cases hq; exact k2
  | 3, hq => cases hq; exact k3
  | 4, hq => cases hq; exact k4
  | 5, hq => cases hq; exact k5
  | 6, hq => cases hq; exact k6
  | 7, hq => cases hq; exact k7
  | 8, hq => cases hq; exact k8
  | 9, hq => cases hq; exact k9
  | 10, hq => cases hq; exact k10
  | 11, hq => cases hq; exact k11
  | k + 12, hq => exact absurd hq (by rw [List.getElem?_eq_none (by show 12 ≤ k + 12; omega)]; exact fun h => by cases h)
theorem start_arrP {args : Array Value} {s : State} {ty : FieldType} (h : (Cond.arrayClass ty).before args s = true) : ∃ cA, ArrOfT s cA ty ∧ s.vm.findClass ("[" ++ ty.toString) = some cA := by
  obtain ⟨cA, kA, comp, f1, f2, f3⟩ := Cond.arrayClass_spec h
  exact ⟨cA, fun N z => ⟨(fun k h => by cases h), kA, f2, comp, f3⟩, f1⟩
theorem start_arrO {args : Array Value} {s : State} {C : String} (h : (Cond.arrayOver (.object C)).before args s = true) : ∃ cA, ArrOfT s cA (.object C) ∧ va_RA s cA (.object C) := by
  obtain ⟨comp, cA, kA, f1, -, f2, f3, f4⟩ := Cond.arrayOver_spec h
  exact ⟨cA, fun N z => ⟨(fun k h => by cases h), kA, f2, comp, f3⟩, kA, comp, f2, f3, f1, f4⟩
theorem T_nm : ∀ q ∈ nestM, Cond.methodLinkNest q.1 q.2.1 q.2.2.1 q.2.2.2 ∈ tables_1 := by decide +kernel
theorem T_nf : ∀ q ∈ nestF, Cond.fieldLinkNest q.1 q.2.1 q.2.2.1 q.2.2.2.1 q.2.2.2.2.1 q.2.2.2.2.2 ∈ tables_1 := by decide +kernel
theorem start_Bs {args : Array Value} {s : State} (hts : ∀ w ∈ lw_tbl, w.before args s = true) (hs : ∀ w ∈ FL, w.before args s = true) : ∃ (D : va_G) (cy : Nat → ClassId) (g : Nat → Nat), g 0 = s.heap.size ∧ Bs D cy g s := by
  obtain ⟨g, hg0, hOld, hvk⟩ := start_old hts hs
  obtain ⟨D, hD⟩ := start_cls hts
  obtain ⟨a0, b0, n0⟩ := start_arrP (ty := .int) (UW_hts hts _ arI)
  obtain ⟨a1, b1, n1⟩ := start_arrP (ty := .long) (UW_hts hts _ arJ)
  obtain ⟨a2, b2, n2⟩ := start_arrP (ty := .char) (UW_hts hts _ arC)
  obtain ⟨a3, b3, n3⟩ := start_arrP (ty := .boolean) (UW_hts hts _ arZ)
  have hM : (Cond.arrayOver (.object RX5)).before args s = true := hts _ (tb2 (List.mem_of_getElem? (i := 104) rfl))
  have hT : (Cond.arrayOver (.object RX8)).before args s = true := hts _ (tb2 (List.mem_of_getElem? (i := 130) rfl))
  obtain ⟨a4, b4, n4⟩ := start_arrO hM
  obtain ⟨a5, b5, n5⟩ := start_arrO hT
  refine ⟨D, fun k => match k with | 0 => a0 | 1 => a1 | 2 => a2 | 3 => a3 | 4 => a4 | _ => a5, g, hg0, ⟨hD, fun k q hq => ?_⟩, fun q hq => ?_, fun q hq => ?_, va_AO.of hM, va_AO.of hT, hvk, hOld⟩
  · match k, hq with
    | 0, hq => cases hq; exact ⟨b0, n0⟩
    | 1, hq => cases hq; exact ⟨b1, n1⟩
    | 2, hq => cases hq; exact ⟨b2, n2⟩
    | 3, hq => cases hq; exact ⟨b3, n3⟩
    | 4, hq => cases hq; exact ⟨b4, n4⟩
    | 5, hq => cases hq; exact ⟨b5, n5⟩
    | k + 6, hq => exact absurd hq (by rw [List.getElem?_eq_none (by show 6 ≤ k + 6; omega)]; exact fun h => by cases h)
  · exact va_Nw.of (by first | rfl | simp [Cond.onTables, Cond.keeps, Cond.steady]) (hts _ (List.mem_append_right _ (T_nm q hq)))
  · exact va_Nw.of (by first | rfl | simp [Cond.onTables, Cond.keeps, Cond.steady]) (hts _ (List.mem_append_right _ (T_nf q hq)))
theorem start_zq {args : Array Value} {s : State} (hts : ∀ w ∈ lw_tbl, w.before args s = true) (hs : ∀ w ∈ FL, w.before args s = true) {g : Nat → Nat} (hg : g 0 = s.heap.size) : ZQ g s s.heap := by
  have hA : ∀ a : Nat, a < s.heap.size → ¬ AA g a := fun a h q => by
    have q2 : g 0 ≤ a := q
    omega
  exact ⟨vx_Zqof (args := args) (s := s) (hts _ (tb6 (List.mem_of_getElem? (i := 212) rfl))) (hts _ (tb1 (List.mem_of_getElem? (i := 23) rfl))) (hs _ (fl_in (i := 308) rfl)) hA, vx_Zqof (args := args) (s := s) (hts _ (tb6 (List.mem_of_getElem? (i := 214) rfl))) (hts _ (tb1 (List.mem_of_getElem? (i := 23) rfl))) (hs _ (fl_in (i := 309) rfl)) hA⟩
theorem law_entry {p : Program} {e : Env} {s : State} {m : MethodId} {below : List Frame} {meth : Method} {c : Code} (l : Launch) {b L : Nat} {xs : Nat → Int32} (hb : L ≤ 3584) (C0 : lw_At p s m meth c b L xs) {G : Mem → Prop} {o1 o3 o4 : Mem} {o2 : Int × Mem} (hx1 : fX7_learn 5 (ups us_S (ups us_A0 dfl)) = some o1) (hx2 : fX7_told (mC dfl o1) = some o2) (hx3 : fX12_standsAsAlways 0 (ups us_M (mI o1 o2)) = some o3) (hx4 : fX12_begins o3 = some o4) (hG : G (LR 75 96 (ups us_M (mI o1 o2)) o4)) (h_feed : ∀ μ, G μ → ∀ (a0 : Int) (a1 : Int) (a2 : Int), S_feed G a0 a1 a2 μ) (h_griddle : ∀ μ, G μ → S_griddle G  μ) (h_plan : ∀ μ, G μ → S_plan G  μ) (h_wish : ∀ μ, G μ → S_wish G  μ) (h_cake : ∀ μ, G μ → ∀ (a0 : Int) (a1 : Int), S_cake G a0 a1 μ) (h_there : ∀ μ, G μ → ∀ (a0 : Int), S_there G a0 μ) (h_turn : ∀ μ, G μ → ∀ (a0 : Int), S_turn G a0 μ) (h_undo : ∀ μ, G μ → S_undo G  μ) (h_can : ∀ μ, G μ → ∀ (a0 : Int), S_can G a0 μ) (h_cost : ∀ μ, G μ → ∀ (a0 : Int), S_cost G a0 μ) (h_served : ∀ μ, G μ → S_served G  μ) (h_judged : ∀ μ, G μ → ∀ (a0 : Int), S_judged G a0 μ) (h_least : ∀ μ, G μ → S_least G  μ) (h_row : ∀ μ, G μ → ∀ (a0 : Int), S_row G a0 μ) (h_ways : ∀ μ, G μ → S_ways G  μ) (h_cheap : ∀ μ, G μ → S_cheap G  μ) (h_bill : ∀ μ, G μ → ∀ (a0 : Int), S_bill G a0 μ) (h_without : ∀ μ, G μ → ∀ (a0 : Int), S_without G a0 μ) (h_needed : ∀ μ, G μ → S_needed G  μ) (h_far : ∀ μ, G μ → S_far G  μ) (h_toward : ∀ μ, G μ → S_toward G  μ) (h_never : ∀ μ, G μ → S_never G  μ) (h_hard : ∀ μ, G μ → ∀ (a0 : Int), S_hard G a0 μ) (h_spread : ∀ μ, G μ → ∀ (a0 : Int), S_spread G a0 μ) (h_dear : ∀ μ, G μ → S_dear G  μ) (h_rim : ∀ μ, G μ → S_rim G  μ) (h_nth : ∀ μ, G μ → S_nth G  μ) (h_ring : ∀ μ, G μ → ∀ (a0 : Int) (a1 : Int), S_ring G a0 a1 μ) (h_pairs : ∀ μ, G μ → S_pairs G  μ) (h_reached : ∀ μ, G μ → ∀ (a0 : Int), S_reached G a0 μ) (h_gaps : ∀ μ, G μ → S_gaps G  μ) (h_sharp : ∀ μ, G μ → S_sharp G  μ) (h_again : ∀ μ, G μ → S_again G  μ) (h_spare : ∀ μ, G μ → S_spare G  μ) (h_ends : ∀ μ, G μ → S_ends G  μ) (h_wins : ∀ μ, G μ → ∀ (a0 : Int), S_wins G a0 μ) (h_his : ∀ μ, G μ → S_his G  μ) (h_see : ∀ μ, G μ → ∀ (a0 : Int) (a1 : Int) (a2 : Bool), S_see G a0 a1 a2 μ) (h_lies : ∀ μ, G μ → ∀ (a0 : Int) (a1 : Bool), S_lies G a0 a1 μ) (h_fit : ∀ μ, G μ → S_fit G  μ) (h_look : ∀ μ, G μ → S_look G  μ) (h_chance : ∀ μ, G μ → ∀ (a0 : Int) (a1 : Bool), S_chance G a0 a1 μ) (h_mornings : ∀ μ, G μ → ∀ (a0 : Int) (a1 : Int) (a2 : Int), S_mornings G a0 a1 a2 μ) (h_mark : ∀ μ, G μ → ∀ (a0 : Int) (a1 : Bool), S_mark G a0 a1 μ) (h_count : ∀ μ, G μ → ∀ (a0 : Int), S_count G a0 μ) (h_rests0 : ∀ (D : va_G) (cy : Nat → ClassId) (g : Nat → Nat) (nm : String), ∀ (i cells slots : Nat) (μ : Mem), G μ → i + 7 ≤ L → cells + 7 ≤ 601024 ∧ slots + 7 ≤ 7293034 → (∀ μ2, G μ2 → Ev l D cy g (Kr 0 97) (yl nm) cL_law 7 ret room_1 (QL b L xs g) (cells + 7) (slots + 7) 97 false μ2 1463 [(0, Value.ref b), (1, vr g 0), (2, vr g 75), (3, vr g 96), (4, vi (i : Int))] []) → Ev l D cy g (Kr 0 97) (yl nm) cL_law 7 ret room_1 (QL b L xs g) cells slots 97 false μ 1244 [(0, Value.ref b), (1, vr g 0), (2, vr g 75), (3, vr g 96), (4, vi (i : Int))] []) : W p l e room_1 s m #[Value.ref b] below meth c s.heap [] 0 0 (lw_Z below #[Value.ref b] s) (entryFrame m ([Value.ref b] : List Value).toArray 7) := by
  obtain ⟨hx, hbb, hr, hml, hown, hts, hX, hbl, hlocks, hgv⟩ := id C0
  obtain ⟨D, cy, g, hg0, hBs⟩ := start_Bs hts (flat_of_before _ hgv)
  have h_rests := h_rests0 D cy g meth.name
  have hEv := law_begin (l := l) (D := D) (cy := cy) (g := g) (nm := meth.name) (b := b) (xs := xs) hb (fun s h => Nat.le_of_eq h.2.2.2.1) hx1 hx2 hx3 hx4 hG h_feed h_griddle h_plan h_wish h_cake h_there h_turn h_undo h_can h_cost h_served h_judged h_least h_row h_ways h_cheap h_bill h_without h_needed h_far h_toward h_never h_hard h_spread h_dear h_rim h_nth h_ring h_pairs h_reached h_gaps h_sharp h_again h_spare h_ends h_wins h_his h_see h_lies h_fit h_look h_chance h_mornings h_mark h_count h_rests
  have hl := lv_entry ([Value.ref b]) (n := 7) (Nat.le_of_ble_eq_true rfl)
  rw [lg_entry_eq]
  have hW := hEv p e s m #[Value.ref b] below meth c s.heap [] _ ⟨hx, hbb, hml, hown, UW_hts hts, hr, hlocks, rfl, hBs⟩ ⟨⟨Nat.zero_le _, fun k q h => by simp [wl] at h⟩, fun _ => hg0.symm⟩ va_S.rf hl
  intro T hT X
  obtain ⟨t, a1, a2⟩ := hW T hT X
  exact ⟨t, a1, a2 ⟨hX, hbl, by rw [hg0]; exact hbl, hg0.symm, start_zq hts (flat_of_before _ hgv) hg0, fun w hw ho => va_Nw.of ho (hts _ (List.mem_append_right _ hw))⟩ rfl⟩
