def nseB : List Cond := (vx_at0 RX11 319 RNSE nseN).filter (fun w => !goodWord w)
def ZB (U : State) : Prop := ∀ w ∈ nseB, va_Nw w U
def ZS (g : Nat → Nat) (s : State) : Prop := ZQ g s s.heap ∧ ZB s
theorem ZB.warm {s U : State} (hW : s.WarmedH U.vm) (h : ZB s) : ZB U := by
  intro w hw
  have h1 := List.all_eq_true.mp at0_rest w hw
  have h2 := h w hw
  cases w <;> first | exact va_Nw.warmC hW h2 | exact va_Nw.warmD hW h2 | (exfalso; exact Bool.noConfusion h1)
theorem ZB.use {s : State} {args : Array Value} (h : ZB s) : ∀ w ∈ nseB, w.before args s = true := by
  intro w hw
  have h1 := List.all_eq_true.mp at0_rest w hw
  have h2 := h w hw
  cases w <;> first | exact va_Nw.use rfl h2 | (exfalso; exact Bool.noConfusion h1)
def QT (D : va_G) (cy : Nat → ClassId) (g : Nat → Nat) (K : KT) (M : Nat) (μ : Mem) (o0 : Int × Bool) : Qty := fun below args s t => ZS g s →
  vx_MQ below (QX D cy g K (fun v M2 _ N2 => v = some (vi o0.1) ∧ o0.2 = false ∧ M2 = M ∧ N2 = μ)) (fun E st t => E = RNSE ∧ o0.2 = true ∧ Rq D cy g K M false μ t.heap ∧ va_F (AA g) st t) args s 1 6 (AA g) t
section THR
variable {l : Launch} {D : va_G} {cy : Nat → ClassId} {g : Nat → Nat} {K : KT} {y : MethodName} {cc : ByteArray} {nL : Nat} {rt : Option FieldType} {rm : Room} {cells slots M : Nat} {x : Bool} {μ : Mem} {pc : Nat} {al : List (Nat × Value)} {st : List Value} {o0 : Int × Bool}
theorem et_iretT {a : Int} (hd : decode cc pc = .ok (.ireturn, 1)) (hrt : rt = some .int) (hc : cells ≤ 1 ∧ slots ≤ 6) (hr : (a, false) = o0) : Et l D cy g K y cc nL rt rm (QT D cy g K M μ o0) cells slots M x μ pc al [vi a] := by
  intro p e s m args below meth c H locs ls C hX hR hS hl
  subst hr
  have hW : W p l e rm s m args below meth c H locs 1 6 (MQ below (QX D cy g K (fun v M2 _ N2 => v = some (vi a) ∧ false = false ∧ M2 = M ∧ N2 = μ)) args s 1 6 (AA g)) (F0 m pc ls [vi a]) :=
    W.iret C.1 C.2.1 (C.2.2.2.2.2.1.trans hrt) (fun t ht _ => ⟨⟨_, M, x, μ, rfl, ⟨rfl, rfl, rfl, rfl⟩, by rw [ht]; exact hR⟩, hS.F ht⟩) hS.2.2 hd C.2.2.2.2.2.2.1
  intro T hT X
  obtain ⟨t, a1, a2⟩ := vx_ret hW T hT (stand_widen X hc.1 hc.2)
  exact ⟨t, a1, fun _ => a2⟩
theorem et_throwT (hno : l.stackTraces = false) (hy : y.cls = RX11) (d0 : decode cc pc = .ok (.new 317, 3)) (d3 : decode cc (pc + 3) = .ok (.dup, 1)) (d4 : decode cc (pc + 4) = .ok (.invokespecial 319, 3)) (d7 : decode cc (pc + 7) = .ok (.athrow, 1)) (hrm : 5 < rm.frames ∧ 100 ≤ rm.locals ∧ 1 ≤ rm.cells ∧ 6 ≤ rm.slots) (hr : ((0 : Int), true) = o0) : Et l D cy g K y cc nL rt rm (QT D cy g K M μ o0) 0 0 M x μ pc al [] := by
  intro p e s m args below meth c H locs ls C hX hR hS hl
  subst hr
  intro T hT X
  have hts := C.2.2.2.2.1
  by_cases hZ : ZS g s
  · have hat : ∀ w ∈ vx_at0 RX11 319 RNSE nseN, w.before args s = true := vx_hat (fun w hw => hts w (UW_mem (List.mem_append_right _ (at0_in w (List.mem_filter.mp hw).1)) (List.mem_filter.mp hw).2)) (fun w hw => hw) hZ.2.use
    have hcl : (Cond.classLink RX11 317 RNSE).before args s = true := hts _ (UW_mem (tb6 (List.mem_of_getElem? (i := 185) rfl)) rfl)
    have hin : (Cond.initialized RNSE).before args s = true := hts _ (UW_mem (tb1 (List.mem_of_getElem? (i := 26) rfl)) rfl)
    have hW := vx_throw0 (Qc := QX D cy g K (fun v M2 _ N2 => v = some (vi ((0 : Int), true).1) ∧ ((0 : Int), true).2 = false ∧ M2 = M ∧ N2 = μ)) (XC := fun E st t => E = RNSE ∧ ((0 : Int), true).2 = true ∧ Rq D cy g K M false μ t.heap ∧ va_F (AA g) st t) (free := AA g) (mc := 1) (ms := 6) (rest := []) (A := AA g) C.1 C.2.1 hno (by rw [← hy]; exact C.2.2.2.1) (by decide) (by decide) hcl hin hat at0_ot hZ.1.1 hZ.1.2 hS (by rw [C.2.2.1]; exact hl.1) d0 d3 d4 d7 (fun z hz => absurd (hX z hz) id) (by show 2 + 3 < _; omega) (by show 0 + (13 * (2 + 1) + 42) ≤ _; omega) (by omega) (by omega) C.2.2.2.2.2.2.1 (fun t hv h1 h2 => ⟨rfl, rfl, ⟨⟨hR.1.1, hR.1.2.kept (fun k q hk => h2 q.1 ((hR.1.2 k q hk).lt))⟩, fun h => by cases h⟩, Nat.le_trans hS.1 h1, fun q hq hA => (h2 q (Nat.lt_of_lt_of_le hq hS.1)).trans (hS.2.1 q hq hA)⟩) hS.2.2 (by decide) (by decide) (p := p) (e := e) (R := rm) (s := s) (m := m) (args := args) (below := below) (meth := meth) (c := c) (H := H) (locs := locs) (cells := 0) (slots := 0) (ls := ls)
    obtain ⟨t, a1, a2⟩ := hW T hT X
    exact ⟨t, a1, fun _ => a2⟩
  · exact ⟨_, Steps.refl _, fun h => absurd h hZ⟩
end THR
