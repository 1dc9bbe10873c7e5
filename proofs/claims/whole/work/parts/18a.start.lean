/-! ===== what is old at the law's entry ===== -/
def FL : List Cond := flatC (Jvm.Cond.and given_1 narrow_1)
def exIx : List Nat := [4, 47, 87, 123, 263, 285, 110, 98, 53, 60, 68, 77, 137, 222, 242, 152, 168, 185, 203]
def letIx : List Nat := [6, 49, 89, 125, 265, 287, 112, 100, 55, 62, 70, 79, 139, 224, 244, 154, 170, 187, 205]
def mayIx : List Nat := [7, 50, 90, 126, 266, 288, 113, 101, 56, 63, 71, 80, 140, 225, 245, 155, 171, 188, 206]
def senIx : List Nat := [8, 51, 91, 127, 267, 289, 114, 102, 57, 64, 72, 81, 141, 226, 246, 156, 172, 189, 207]
def welIx : List Nat := [23, 24, 25, 26, 27, 28, 29, 30, 31, 32, 33, 34, 35, 36, 37, 38, 39, 40, 41]
def felIx : List Nat := [12, 13, 14, 15, 16, 17]
def selIx : List Nat := [327, 328, 329, 330, 331, 332, 333, 334]
def parIx : List (Nat × Nat × Nat) := [(0, 1, 52), (0, 8, 58), (1, 8, 59), (0, 9, 65), (1, 9, 66), (8, 9, 67), (0, 10, 73), (1, 10, 74), (8, 10, 75), (9, 10, 76), (0, 11, 82), (1, 11, 83), (8, 11, 84), (9, 11, 85), (10, 11, 86), (0, 2, 92), (1, 2, 93), (8, 2, 94), (9, 2, 95), (10, 2, 96), (11, 2, 97), (0, 7, 103), (1, 7, 104), (8, 7, 105), (9, 7, 106), (10, 7, 107), (11, 7, 108), (2, 7, 109), (0, 6, 115), (1, 6, 116), (8, 6, 117), (9, 6, 118), (10, 6, 119), (11, 6, 120), (2, 6, 121), (7, 6, 122), (0, 3, 128), (1, 3, 129), (8, 3, 130), (9, 3, 131), (10, 3, 132), (11, 3, 133), (2, 3, 134), (7, 3, 135), (6, 3, 136), (0, 12, 142), (1, 12, 143), (8, 12, 144), (9, 12, 145), (10, 12, 146), (11, 12, 147), (2, 12, 148), (7, 12, 149), (6, 12, 150), (3, 12, 151), (0, 15, 157), (1, 15, 158), (8, 15, 159), (9, 15, 160), (10, 15, 161), (11, 15, 162), (2, 15, 163), (7, 15, 164), (6, 15, 165), (3, 15, 166), (12, 15, 167), (0, 16, 173), (1, 16, 174), (8, 16, 175), (9, 16, 176), (10, 16, 177), (11, 16, 178), (2, 16, 179), (7, 16, 180), (6, 16, 181), (3, 16, 182), (12, 16, 183), (15, 16, 184), (0, 17, 190), (1, 17, 191), (8, 17, 192), (9, 17, 193), (10, 17, 194), (11, 17, 195), (2, 17, 196), (7, 17, 197), (6, 17, 198), (3, 17, 199), (12, 17, 200), (15, 17, 201), (16, 17, 202), (0, 18, 208), (1, 18, 209), (8, 18, 210), (9, 18, 211), (10, 18, 212), (11, 18, 213), (2, 18, 214), (7, 18, 215), (6, 18, 216), (3, 18, 217), (12, 18, 218), (15, 18, 219), (16, 18, 220), (17, 18, 221), (0, 13, 227), (1, 13, 228), (8, 13, 229), (9, 13, 230), (10, 13, 231), (11, 13, 232), (2, 13, 233), (7, 13, 234), (6, 13, 235), (3, 13, 236), (12, 13, 237), (15, 13, 238), (16, 13, 239), (17, 13, 240), (18, 13, 241), (0, 14, 247), (1, 14, 248), (8, 14, 249), (9, 14, 250), (10, 14, 251), (11, 14, 252), (2, 14, 253), (7, 14, 254), (6, 14, 255), (3, 14, 256), (12, 14, 257), (15, 14, 258), (16, 14, 259), (17, 14, 260), (18, 14, 261), (13, 14, 262), (0, 4, 268), (1, 4, 269), (8, 4, 270), (9, 4, 271), (10, 4, 272), (11, 4, 273), (2, 4, 274), (7, 4, 275), (6, 4, 276), (3, 4, 277), (12, 4, 278), (15, 4, 279), (16, 4, 280), (17, 4, 281), (18, 4, 282), (13, 4, 283), (14, 4, 284), (0, 5, 290), (1, 5, 291), (8, 5, 292), (9, 5, 293), (10, 5, 294), (11, 5, 295), (2, 5, 296), (7, 5, 297), (6, 5, 298), (3, 5, 299), (12, 5, 300), (15, 5, 301), (16, 5, 302), (17, 5, 303), (18, 5, 304), (13, 5, 305), (14, 5, 306), (4, 5, 307)]
abbrev wst (i : Nat) : Term := .static RX10 (wnm.getD i "") dW
theorem F_ex : ∀ i, i < 19 → FL[exIx.getD i 0]? = some (Cond.exactly (wst i) RX10) := by decide +kernel
theorem F_let : ∀ i, i < 19 → FL[letIx.getD i 0]? = some (Cond.eq (.field (wst i) RX10 "letters" "J") (.long (Int64.ofInt (wlet.getD i 0)))) := by decide +kernel
theorem F_may : ∀ i, i < 19 → FL[mayIx.getD i 0]? = some (Cond.eq (.field (wst i) RX10 "mayName" "Z") (.int (Int32.ofInt (wmay.getD i 0)))) := by decide +kernel
theorem F_sen : ∀ i, i < 19 → FL[senIx.getD i 0]? = some (Cond.eq (.field (wst i) RX10 "sense" "I") (.int (Int32.ofInt (wsen.getD i 0)))) := by decide +kernel
abbrev fst0 : Term := .static RX11 "FACTORIALS" "[I"
abbrev wst0 : Term := .static RX11 "WORDS" "[LHotCakes$Word;"
abbrev str0 : Term := .string RX9 67
abbrev byt0 : Term := .field str0 "java/lang/String" "value" "[B"
theorem F_wel : ∀ i, i < 19 → FL[welIx.getD i 0]? = some (Cond.eq (.elem wst0 (.int (Int32.ofNat i))) (wst i)) := by decide +kernel
theorem F_fel : ∀ i, i < 6 → FL[felIx.getD i 0]? = some (Cond.eq (.elem fst0 (.int (Int32.ofNat i))) (.int (Int32.ofInt (factL.getD i 0)))) := by decide +kernel
theorem F_sel : ∀ i, i < 8 → FL[selIx.getD i 0]? = some (Cond.eq (.elem byt0 (.int (Int32.ofNat i))) (.int (([40, 41, 60, 61, 43, 45, 42, 59] : List Int32).getD i 0))) := by decide +kernel
theorem F_par : parIx.all (fun q => decide (FL[q.2.2]? = some (Cond.not (Cond.eq (wst q.1) (wst q.2.1))))) = true := by decide +kernel
theorem F_all : ∀ i, i < 19 → ∀ j, j < 19 → i ≠ j → parIx.any (fun q => (q.1 == i && q.2.1 == j) || (q.1 == j && q.2.1 == i)) = true := by decide +kernel
theorem fl_in {i : Nat} {w : Cond} (h : FL[i]? = some w) : w ∈ FL := List.mem_of_getElem? h
theorem T_lay : ∀ i, i < 19 → Cond.laysStatic RX10 (wnm.getD i "") dW ∈ tables_1 := by decide +kernel
theorem start_old {args : Array Value} {s : State} (hts : ∀ w ∈ lw_tbl, w.before args s = true) (hs : ∀ w ∈ FL, w.before args s = true) : ∃ g : Nat → Nat, g 0 = s.heap.size ∧ OldF g s s.heap ∧ vk_R RX9 67 "()<=+-*;" (ad g 1022) s := by
  have hA : ∀ a : Nat, a < s.heap.size → ¬ s.heap.size ≤ a := fun a h => Nat.not_le.mpr h
  obtain ⟨aE, hEn, hEv⟩ := va_Enof2 (args := args) (s := s) (E := RX10) (d := dW) (nm := wnm) (F := []) (A := fun q => s.heap.size ≤ q) (fun i hi => hts _ (List.mem_append_right _ (T_lay i hi))) (hts _ (tb1 (List.mem_of_getElem? (i := 4) rfl))) (fun i hi => hs _ (fl_in (F_ex i hi))) (fun q hq => absurd hq List.not_mem_nil) (fun i j hi hj hne => by
    have h1 := F_all i hi j hj hne
    obtain ⟨q, hq, h2⟩ := List.any_eq_true.mp h1
    have h3 := of_decide_eq_true (List.all_eq_true.mp F_par q hq)
    have h4 := hs _ (fl_in h3)
    rcases Bool.or_eq_true _ _ ▸ h2 with h | h
    · have h5 : q.1 = i ∧ q.2.1 = j := by simpa using h
      rw [h5.1, h5.2] at h4
      exact Or.inl h4
    · have h5 : q.1 = j ∧ q.2.1 = i := by simpa using h
      rw [h5.1, h5.2] at h4
      exact Or.inr h4) hA
  have hEv2 : ∀ i, i < 19 → (wst i).eval args s none [] s = some (.ref (aE i)) := hEv
  have e1 := va_Efof (N := 19) (o := RX10) (n := "letters") (d := "J") (v := fun i => vl (wlet.getD i 0)) (tm := fun i => .long (Int64.ofInt (wlet.getD i 0))) hEv2 (fun i hi => hs _ (fl_in (F_let i hi))) (fun i hi => rfl) hA
  have e2 := va_Efof (N := 19) (o := RX10) (n := "mayName") (d := "Z") (v := fun i => vi (wmay.getD i 0)) (tm := fun i => .int (Int32.ofInt (wmay.getD i 0))) hEv2 (fun i hi => hs _ (fl_in (F_may i hi))) (fun i hi => rfl) hA
  have e3 := va_Efof (N := 19) (o := RX10) (n := "sense") (d := "I") (v := fun i => vi (wsen.getD i 0)) (tm := fun i => .int (Int32.ofInt (wsen.getD i 0))) hEv2 (fun i hi => hs _ (fl_in (F_sen i hi))) (fun i hi => rfl) hA
  obtain ⟨tF, hF1, hF2⟩ := va_Tof (args := args) (s := s) (tm := fst0) (ty := .int) (N := 6) (f := fun i => vi (factL.getD i 0)) (A := fun q => s.heap.size ≤ q) (by decide) (hs _ (fl_in (i := 10) rfl)) (va_eqv (hs _ (fl_in (i := 11) rfl)) rfl) (fun j hj => va_eqv (hs _ (fl_in (F_fel j hj))) rfl) hA
  have hF3 := va_Zof (args := args) (s := s) (A := fun q => s.heap.size ≤ q) (hts _ (tb1 (List.mem_of_getElem? (i := 175) rfl))) (hts _ (tb1 (List.mem_of_getElem? (i := 1) rfl))) hF1 hA
  obtain ⟨tW, hW1, hW2⟩ := va_Tof (args := args) (s := s) (tm := wst0) (ty := .object RX10) (N := 19) (f := fun i => .ref (aE i)) (A := fun q => s.heap.size ≤ q) (by decide) (hs _ (fl_in (i := 20) rfl)) (va_eqv (hs _ (fl_in (i := 21) rfl)) rfl) (fun j hj => va_eqv (hs _ (fl_in (F_wel j hj))) (hEv2 j hj)) hA
  have hW3 := va_Zof (args := args) (s := s) (A := fun q => s.heap.size ≤ q) (hts _ (tb3 (List.mem_of_getElem? (i := 57) rfl))) (hts _ (tb1 (List.mem_of_getElem? (i := 1) rfl))) hW1 hA
  obtain ⟨aK, aV, hS1, hS2⟩ := vk_Sof (args := args) (s := s) (N := 1) (tm := fun _ => str0) (len := [8]) (byt := [[40, 41, 60, 61, 43, 45, 42, 59]]) (A := fun q => s.heap.size ≤ q) (fun i hi => by rw [show i = 0 by omega]; decide) (fun i hi => hs _ (fl_in (i := 323) rfl)) (fun i hi => hs _ (fl_in (i := 324) rfl)) (fun i hi => hs _ (fl_in (i := 325) rfl)) (fun i hi => by rw [show i = 0 by omega]; exact hs _ (fl_in (i := 326) rfl)) (fun i hi j hj => by
    rw [show i = 0 by omega] at hj ⊢
    exact hs _ (fl_in (F_sel j hj))) (fun i j hi hj hne => absurd (show i = j by omega) hne) hA
  have hC := va_Zof (args := args) (s := s) (C := "java/lang/String") (n := "COMPACT_STRINGS") (d := "Z") (v := vi 1) (A := fun q => s.heap.size ≤ q) (hts _ (tb3 (List.mem_of_getElem? (i := 80) rfl))) (hts _ (tb1 (List.mem_of_getElem? (i := 17) rfl))) (va_eqv (hs _ (fl_in (i := 42) rfl)) rfl) hA
  have hU := va_Zqof (args := args) (s := s) (A := fun q => s.heap.size ≤ q) (hts _ (tb6 (List.mem_of_getElem? (i := 212) rfl))) (hts _ (tb1 (List.mem_of_getElem? (i := 23) rfl))) (hs _ (fl_in (i := 308) rfl)) hA
  have hV := va_Zqof (args := args) (s := s) (A := fun q => s.heap.size ≤ q) (hts _ (tb6 (List.mem_of_getElem? (i := 214) rfl))) (hts _ (tb1 (List.mem_of_getElem? (i := 23) rfl))) (hs _ (fl_in (i := 309) rfl)) hA
  refine ⟨fun k => if k = 0 then s.heap.size else if k < 20 then aE (k - 1) else if k = 21 then tF else if k = 22 then tW else if k = 23 then aK 0 else aV 0, rfl, ?_, vk_R.of (A := args) (hts _ (tb3 (List.mem_of_getElem? (i := 66) rfl))) (hS2 0 (by decide))⟩
  generalize hg : (fun k => if k = 0 then s.heap.size else if k < 20 then aE (k - 1) else if k = 21 then tF else if k = 22 then tW else if k = 23 then aK 0 else aV 0) = g
  have hgE : ∀ i, i < 19 → ad g (1000 + i) = aE i := by
    intro i hi
    unfold ad
    rw [if_neg (by omega), ← hg]
    show (if 1000 + i - 999 = 0 then _ else if 1000 + i - 999 < 20 then aE (1000 + i - 999 - 1) else _) = _
    rw [if_neg (by omega), if_pos (by omega), show 1000 + i - 999 - 1 = i by omega]
  have g20 : ad g 1020 = tF := by rw [← hg]; rfl
  have g21 : ad g 1021 = tW := by rw [← hg]; rfl
  have g22 : ad g 1022 = aK 0 := by rw [← hg]; rfl
  have g23 : ad g 1023 = aV 0 := by rw [← hg]; rfl
  have hAA : AA g = fun q => s.heap.size ≤ q := by rw [← hg]; rfl
  unfold OldF
  rw [hAA, g20, g21, g22, g23]
  refine ⟨⟨fun i hi => ?_, fun i j hi hj h => ?_⟩, fun i hi => ?_, fun i hi => ?_, fun i hi => ?_, ?_, hF2, ?_, ?_, ?_, hC, hU, hV⟩
  · dsimp only; rw [hgE i hi]; exact hEn.1 i hi
  · dsimp only at h; rw [hgE i hi, hgE j hj] at h; exact hEn.2 i j hi hj h
  · dsimp only; rw [hgE i hi]; exact e1 i hi
  · dsimp only; rw [hgE i hi]; exact e2 i hi
  · dsimp only; rw [hgE i hi]; exact e3 i hi
  · rw [show vr g 1020 = Value.ref tF from congrArg Value.ref g20]; exact hF3
  · rw [show vr g 1021 = Value.ref tW from congrArg Value.ref g21]; exact hW3
  · obtain ⟨cell, c1, c2, c3, c4, c5, c6, c7⟩ := hW2
    exact ⟨cell, c1, c2, c3, c4, c5, fun j hj => by dsimp only; rw [show vr g (1000 + j) = Value.ref (aE j) from congrArg Value.ref (hgE j hj)]; exact c6 j hj, c7⟩
  · refine ⟨fun i hi => ?_, fun i j hi hj _ => by omega⟩
    have := hS1.1 i hi
    rw [show i = 0 by omega] at this ⊢
    exact this
