def nseB : List Cond := (vx_at0 RX11 319 RNSE nseN).filter (fun w => !goodWord w)
def ZB (U : State) : Prop := ∀ w ∈ nseB, va_Nw w U
def ZS (g : Nat → Nat) (s : State) : Prop := ZQ g s s.heap ∧ ZB s
theorem ZB.warm {s U : State} (hW : s.WarmedH U.vm) (h : ZB s) : ZB U := by
  intro w hw
  have h1 := List.all_eq_true.mp at0_rest w hw
  have h2 := h w hw
  cases w <;> first | exact va_Nw.warmC hW h2 | exact va_Nw.warmD hW h2 | (exfalso; exact Bool.noConfusion h1)
theorem ZB.use {s : State} {args : Array Value} (h : ZB s) : ∀ w ∈ nseB, w.before args s = true := by
  intro w hw
  have h1 := List.all_eq_true.mp at0_rest w hw
  have h2 := h w hw
  cases w <;> first | exact va_Nw.use rfl h2 | (exfalso; exact Bool.noConfusion h1)
def QT (D : va_G) (cy : Nat → ClassId) (g : Nat → Nat) (K : KT) (M : Nat) (μ : Mem) (o0 : Int × Bool) : Qty := fun below args s t => ZS g s →
  vx_MQ below (QX D cy g K (fun v M2 _ N2 => v = some (vi o0.1) ∧ o0.2 = false ∧ M2 = M ∧ N2 = μ)) (fun E st t => E = RNSE ∧ o0.2 = true ∧ Rq D cy g K M false μ t.heap ∧ va_F (AA g) st t) args s 1 6 (AA g) t
section THR
variable {l : Launch} {D : va_G} {cy : Nat → ClassId} {g : Nat → Nat} {K : KT} {y : MethodName} {cc : ByteArray} {nL : Nat} {rt : Option FieldType} {rm : Room} {cells slots M : Nat} {x : Bool} {μ : Mem} {pc : Nat} {al : List (Nat × Value)} {st : List Value} {o0 : Int × Bool}
theorem ev_iretT {a : Int} (hd : decode cc pc = .ok (.ireturn, 1)) (hrt : rt = some .int) (hc : cells ≤ 1 ∧ slots ≤ 6) (hr : (a, false) = o0) : Ev l D cy g K y cc nL rt rm (QT D cy g K M μ o0) cells slots M x μ pc al [vi a] := by
  intro p e s m args below meth c H locs ls C hR hS hl
  subst hr
  have hW : W p l e rm s m args below meth c H locs 1 6 (MQ below (QX D cy g K (fun v M2 _ N2 => v = some (vi a) ∧ false = false ∧ M2 = M ∧ N2 = μ)) args s 1 6 (AA g)) (F0 m pc ls [vi a]) :=
    W.iret C.1 C.2.1 (C.2.2.2.2.2.1.trans hrt) (fun t ht _ => ⟨⟨_, M, x, μ, rfl, ⟨rfl, rfl, rfl, rfl⟩, by rw [ht]; exact hR⟩, hS.F ht⟩) hS.2.2 hd C.2.2.2.2.2.2.1
  intro T hT X
  obtain ⟨t, a1, a2⟩ := vx_ret hW T hT (stand_widen X hc.1 hc.2)
  exact ⟨t, a1, fun _ => a2⟩
end THR
