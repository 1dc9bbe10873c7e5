/-! ===== rests: the method that catches ===== -/
def hhR : List (Nat × Nat × Nat × Nat) := [(0, 14, 17, 13)]
def ZT (g : Nat → Nat) (s : State) : Prop := ZS g s ∧ va_Nw (.castable RNSE RNSE) s
theorem cwL_rests : Cond.codeWith yL_rests cL_rests 7 (some .int) hhR ∈ UW := UW_mem (tb6 (List.mem_of_getElem? (i := 176) rfl)) rfl
theorem clL_13 : Cond.classLink RL 13 RNSE ∈ UW := UW_mem (tb6 (List.mem_of_getElem? (i := 177) rfl)) rfl
theorem stL_rests : Cond.static yL_rests ∈ UW := UW_mem (tb6 (List.mem_of_getElem? (i := 175) rfl)) rfl
theorem goodL_rests : GoodIn UW (Cond.codeWith yL_rests cL_rests 7 (some .int) hhR :: UW) := fun w hw => by
  rcases List.mem_cons.mp hw with rfl | hw
  · exact ⟨cwL_rests, good_of_word (UW_good cwL_rests)⟩
  · exact ⟨hw, good_of_word (UW_good hw)⟩
section CAT
variable {g : Nat → Nat} {s U : State}
theorem ZS.call (h : ZS g s) (hW : s.WarmedH U.vm) (hq : ∀ a : Nat, a < s.heap.size → ¬ AA g a → U.heap[a]? = s.heap[a]?) : ZS g U :=
  ⟨⟨(vx_Zq.moved hW.alike h.1.1).kept hq, (vx_Zq.moved hW.alike h.1.2).kept hq⟩, h.2.warm hW⟩
theorem ZT.call (h : ZT g s) (hW : s.WarmedH U.vm) (hq : ∀ a : Nat, a < s.heap.size → ¬ AA g a → U.heap[a]? = s.heap[a]?) : ZT g U :=
  ⟨h.1.call hW hq, va_Nw.warmC hW h.2⟩
theorem ZB.blind {f : JFrame} {mk : MethodId} {a : Array Value} (h : ZB U) : ZB (U.calling f mk a) := by
  intro w hw
  have h1 := List.all_eq_true.mp at0_rest w hw
  have h2 := h w hw
  cases w <;> first | exact va_Nw.same rfl rfl h2 | (exfalso; exact Bool.noConfusion h1)
theorem ZS.blind {f : JFrame} {mk : MethodId} {a : Array Value} (h : ZS g U) : ZS g (U.calling f mk a) :=
  ⟨⟨vx_Zq.moved (Vm.Alike.refl U.vm) h.1.1, vx_Zq.moved (Vm.Alike.refl U.vm) h.1.2⟩, h.2.blind⟩
theorem ZT.blind {f : JFrame} {mk : MethodId} {a : Array Value} (h : ZT g U) : ZT g (U.calling f mk a) := ⟨h.1.blind, va_Nw.same rfl rfl h.2⟩
end CAT
section CATW
variable {l : Launch} {D : va_G} {cy : Nat → ClassId} {g : Nat → Nat} {K : KT} {y : MethodName} {cc : ByteArray} {nL : Nat} {rt : Option FieldType} {rm : Room} {cells slots M : Nat} {x : Bool} {μ : Mem} {pc : Nat} {al : List (Nat × Value)} {st : List Value} {Φ : Post} {XC : String → State → State → Prop}
def QV (D : va_G) (cy : Nat → ClassId) (g : Nat → Nat) (K : KT) (Φ : Post) (XC : String → State → State → Prop) (mc ms : Nat) : Qty := fun below args s => vx_MQ below (QX D cy g K Φ) XC args s mc ms (AA g)
theorem ev_iretV {a : Int} {mc ms : Nat} (hd : decode cc pc = .ok (.ireturn, 1)) (hrt : rt = some .int) (hc : cells ≤ mc ∧ slots ≤ ms) (h : Φ (some (vi a)) M x μ) : Ev l D cy g K y cc nL rt rm (QV D cy g K Φ XC mc ms) cells slots M x μ pc al [vi a] := by
  intro p e s m args below meth c H locs ls C hR hS hl
  refine W.widen hc.1 hc.2 ?_
  exact vx_ret (W.iret C.1 C.2.1 (C.2.2.2.2.2.1.trans hrt) (fun t ht _ => ⟨⟨_, M, x, μ, rfl, h, by rw [ht]; exact hR⟩, hS.F ht⟩) hS.2.2 hd C.2.2.2.2.2.2.1)
def PLs (μ : Mem) (o0 : Int × Bool) : Post := fun w M2 _ N2 => w = some (vi (b2i o0.2)) ∧ M2 = 97 ∧ N2 = (if o0.2 = true then μ else upd2 μ 96 0 (w32 o0.1))
theorem tL_rests (hno : l.stackTraces = false) (a1 a2 a3 a4 : Int) (μ : Mem) {o0 : Int × Bool} (hf : fX11_rests a1 a2 a3 a4 μ = some o0) : vx_Met l yL_rests (Cond.codeWith yL_rests cL_rests 7 (some .int) hhR :: UW) (rmd 8 1 6) (va_Pc [vr g 0, vi a1, vi a2, vi a3, vi a4, vr g 96] (fun U => Bs D cy g U ∧ Rq D cy g (Kr 0 97) 97 false μ U.heap ∧ ZT g U)) (QX D cy g (Kr 0 97) (PLs μ o0)) (fun _ _ _ => False) 1 6 (AA g) := by
  refine vx_ofWH (by decide) rfl ?_
  intro p e s m a below meth c s₁ B hml hv
  obtain ⟨rfl, hB, hR, hZ⟩ := hv
  have hts : ∀ w ∈ UW, w.before [vr g 0, vi a1, vi a2, vi a3, vi a4, vr g 96].toArray s = true := fun w hw => atoms_spec (ws := Cond.codeWith yL_rests cL_rests 7 (some .int) hhR :: UW) B.pre w (List.mem_cons_of_mem _ hw)
  have hl := lv_entry [vr g 0, vi a1, vi a2, vi a3, vi a4, vr g 96] (n := 7) (Nat.le_of_ble_eq_true rfl)
  rw [lg_entry_eq]
  have C : Cx D cy g yL_rests cL_rests 7 (some .int) p s m [vr g 0, vi a1, vi a2, vi a3, vi a4, vr g 96].toArray meth c := ⟨B.exec, B.bytes, hml, findClass_of_methodNamed B.named, hts, B.returns, B.notSynchronized, (name_of_methodNamed B.named B.method).1, hB⟩
  have htab := vx_table (x := yL_rests) B (hts _ cwL_rests)
  have hM := tX11_rests (D := D) (cy := cy) (g := g) (x := false) hno (sdR (N := μ) (K := Kr 0 97) (lo := 0) (hi := 75) (M := 97) (by decide) (fun k hk => Kr_in2 (inR_w hk rfl rfl))) a1 a2 a3 a4 μ hf
  rw [← LR_self] at hM
  have hS : va_S (AA g) s.heap s.heap [] := va_S.rf
  refine lv_aload C.1 C.2.1 dL_rests_0 (lv_at hl 5 rfl) ?_
  refine lv_iconst C.1 C.2.1 dL_rests_2 rfl ?_
  refine lv_aload_n C.1 C.2.1 dL_rests_3 rfl (lv_at hl 0 rfl) ?_
  refine lv_iload_n C.1 C.2.1 dL_rests_4 rfl (lv_at hl 1 rfl) ?_
  refine lv_iload_n C.1 C.2.1 dL_rests_5 rfl (lv_at hl 2 rfl) ?_
  refine lv_iload_n C.1 C.2.1 dL_rests_6 rfl (lv_at hl 3 rfl) ?_
  refine lv_iload C.1 C.2.1 dL_rests_7 (lv_at hl 4 rfl) ?_
  have ha : (wl cy g (Kr 0 97) 97 μ)[0]? = some (ad g 0, .inr (10, objE g (Kr 0 97 0) 10 (μ 0))) := by rw [wl_get (by decide)]; try rfl
  obtain ⟨cell, r1, r2, r3⟩ := va_recv (ci := 10) hB.1 hR.1.2 rfl ha
  intro T hT X
  rcases vx_runV (C := RX11) (rest := [vi 0, vr g 96]) ⟨C.1, C.2.1, C.2.2.1, C.2.2.2.1, hts⟩ hM ⟨callB_of 4 hts miX11_rests.good rfl rfl rfl (hts _ miX11_rests.2.1) (hts _ lkL_7) miX11_rests.2.2 ⟨Nat.le_of_ble_eq_true rfl, Nat.le_of_ble_eq_true rfl⟩, hts _ inX11_rests.1, hts _ inX11_rests.2⟩
    ⟨fun a U f mk h => ⟨h.1, h.2.1.blind, h.2.2.1, h.2.2.2.blind⟩, ⟨cell, r1, r2, r3⟩, fun U hU hW => ⟨rfl, hB.call hW (fun a h1 h2 => by rw [hU]), by rw [hU]; exact hR, hZ.1.call hW (fun a h1 h2 => by rw [hU])⟩⟩ (As := [vi a1, vi a2, vi a3, vi a4]) (g := F0 m 9 _ _) rfl rfl hl.1 rfl (lv_room (Nat.le_of_ble_eq_true rfl)) dL_rests_9 ⟨Nat.le_of_ble_eq_true rfl, Nat.le_of_ble_eq_true rfl⟩ T hT X with ⟨v, st₀, t, T', L, h0, X', hL, e1, e2, ⟨⟨v', M2, x2, N2, hv, ⟨p1, p2, p3, p4⟩, hq⟩, hz, hk⟩, stp⟩ | ⟨q, st₀, t, T', L, E, ce, h0, X', hL, e1, e2, ⟨q1, q2, hq, hz, hk⟩, hce, hcv, hcl, stp⟩
  · cases hv
    subst p1
    rw [p3, p4] at hq
    rw [h0] at hz hk
    rw [← e1] at hz hk hq
    have hEv : Ev l D cy g (Kr 0 97) yL_rests cL_rests 7 (some .int) (rmd 8 1 6) (QV D cy g (Kr 0 97) (PLs μ o0) (fun _ _ _ => False) 1 6) 1 6 97 x2 μ 12 (lv_args 0 [vr g 0, vi a1, vi a2, vi a3, vi a4, vr g 96]) [vi o0.1, vi 0, vr g 96] := by
      refine ev_i2l dL_rests_12 ?_
      refine ev_last (N2 := upd2 μ 96 0 (w32 o0.1)) dL_rests_13 (by decide) rfl (by decide) (by rw [show (w32 0).toNat = 0 from by decide]) ?_
      refine ev_goto 21 dL_rests_14 (by decide) ?_
      refine ev_iconst dL_rests_21 ?_
      exact ev_iretV dL_rests_22 rfl ⟨Nat.le_refl _, Nat.le_refl _⟩ ⟨by rw [p2]; rfl, rfl, by rw [p2]; rfl⟩
    obtain ⟨t2, b1, b2⟩ := hEv p e s m _ below meth c T'.heap ([] ++ L) _ C hq ⟨Nat.le_trans hS.1 hz, fun q h1 h2 => hk q h1 h2, fun q hq => hL q hq⟩ hl T' rfl X'
    exact ⟨t2, stp t2 b1, b2⟩
  · subst q1
    rw [h0] at hz hk
    rw [← e1] at hz hk hq hce
    have hEv : Ev l D cy g (Kr 0 97) yL_rests cL_rests 7 (some .int) (rmd 8 1 6) (QV D cy g (Kr 0 97) (PLs μ o0) (fun _ _ _ => False) 1 6) 1 6 97 false μ 17 (lv_args 0 [vr g 0, vi a1, vi a2, vi a3, vi a4, vr g 96]) [Value.ref q] := by
      refine ev_astore (al2 := _) dL_rests_17 (by decide) rfl ?_
      refine ev_iconst dL_rests_19 ?_
      exact ev_iretV dL_rests_20 rfl ⟨Nat.le_refl _, Nat.le_refl _⟩ ⟨by rw [q2]; rfl, rfl, by rw [q2]; rfl⟩
    obtain ⟨t2, b1, b2⟩ := vx_catch (own := RL) (name := RNSE) (pc := 9) (E := RNSE) (Q := vx_MQ below (QX D cy g (Kr 0 97) (PLs μ o0)) (fun _ _ _ => False) [vr g 0, vi a1, vi a2, vi a3, vi a4, vr g 96].toArray s 1 6 (AA g)) C.2.2.2.1 [] ⟨0, 14, 17, 13⟩ [] htab (fun z hz => nomatch hz) rfl (by decide) (hts _ clL_13) (va_Nw.use rfl hZ.2) hce hcv hcl (hEv p e s m _ below meth c T'.heap ([] ++ L) _ C hq ⟨Nat.le_trans hS.1 hz, fun q h1 h2 => hk q h1 h2, fun q hq => hL q hq⟩ hl) T' rfl X'
    exact ⟨t2, stp.trans b1, b2⟩
end CATW
