/-! ===== contracts ===== -/
abbrev Post : Type := Option Value → Nat → Bool → Mem → Prop
def QX (D : va_G) (cy : Nat → ClassId) (g : Nat → Nat) (K2 : KT) (Φ : Post) : Array Value → State → Outcome → State → Prop := fun _ st oc t =>
  (∃ (v : Option Value) (M : Nat) (x : Bool) (N : Mem), oc = .returned v ∧ Φ v M x N ∧ Rq D cy g K2 M x N t.heap) ∧ va_F (AA g) st t
def MX (D : va_G) (cy : Nat → ClassId) (g : Nat → Nat) (K2 : KT) (rm : Room) (Φ : Post) : Qty := fun below args s => MQ below (QX D cy g K2 Φ) args s rm.cells rm.slots (AA g)
def Cn (l : Launch) (D : va_G) (cy : Nat → ClassId) (g : Nat → Nat) (K K2 : KT) (y : MethodName) (cc : ByteArray) (nL : Nat) (rt : Option FieldType) (rm : Room) (args : List Value) (M : Nat) (x : Bool) (N : Mem) (Φ : Post) : Prop :=
  Met l y (Cond.code y cc nL rt :: UW) rm (va_Pc args (fun U => Bs D cy g U ∧ Rq D cy g K M x N U.heap)) (QX D cy g K2 Φ) rm.cells rm.slots (AA g)
/-- what is settled of a method: its code, its class, how many arguments -/
def MI (y : MethodName) (cc : ByteArray) (nL : Nat) (rt : Option FieldType) (n : Nat) : Prop :=
  Cond.code y cc nL rt ∈ UW ∧ Cond.initialized y.cls ∈ UW ∧ (y.cls ≠ "java/lang/invoke/MethodHandle" ∧ y.cls ≠ "java/lang/invoke/VarHandle" ∧ (parseMethodDescriptor y.desc).map (fun d => d.parameters.length) = some n)
theorem MI.good {y : MethodName} {cc : ByteArray} {nL : Nat} {rt : Option FieldType} {n : Nat} (h : MI y cc nL rt n) : GoodIn UW (Cond.code y cc nL rt :: UW) := fun w hw => by
  rcases List.mem_cons.mp hw with rfl | hw
  · exact ⟨h.1, good_of_word (UW_good h.1)⟩
  · exact ⟨hw, good_of_word (UW_good hw)⟩
def rmd (d mc ms : Nat) : Room := { frames := d, cells := mc, slots := ms, locals := 40 * d }
section CNS
variable {l : Launch} {D : va_G} {cy : Nat → ClassId} {g : Nat → Nat} {K K2 : KT} {y : MethodName} {cc : ByteArray} {nL : Nat} {rt : Option FieldType} {rm : Room} {M : Nat} {x : Bool} {N : Mem} {Φ : Post}
theorem Cn.of {args : List Value} (hy : plainName y.cls = true) (hlen : (lg_sl args).length ≤ nL)
    (hev : Ev l D cy g K y cc nL rt rm (MX D cy g K2 rm Φ) 0 0 M x N 0 (lv_args 0 args) []) : Cn l D cy g K K2 y cc nL rt rm args M x N Φ := by
  refine Met.ofW (cc := cc) (maxL := nL) (ret := rt) hy rfl ?_
  intro p e s m a below meth c s₁ B hml hv
  obtain ⟨rfl, hB, hR⟩ := hv
  have hts : ∀ w ∈ UW, w.before args.toArray s = true := fun w hw => atoms_spec (ws := Cond.code y cc nL rt :: UW) B.pre w (List.mem_cons_of_mem _ hw)
  have hl := lv_entry args (n := nL) hlen
  rw [lg_entry_eq]
  exact hev p e s m args.toArray below meth c s.heap [] _ ⟨B.exec, B.bytes, hml, findClass_of_methodNamed B.named, hts, B.returns, B.notSynchronized, (name_of_methodNamed B.named B.method).1, hB⟩ hR va_S.rf hl
theorem Cn.weaken {args : List Value} {Φ2 : Post} (h : Cn l D cy g K K2 y cc nL rt rm args M x N Φ) (hΦ : ∀ v M2 x2 N2, Φ v M2 x2 N2 → Φ2 v M2 x2 N2) : Cn l D cy g K K2 y cc nL rt rm args M x N Φ2 := by
  intro p e ha hc hk s m a below hf happ hP hK
  obtain ⟨n, o, h1, h2, h3, ⟨⟨v, M2, x2, N2, e1, e2, e3⟩, h5⟩, h6⟩ := h p e ha hc hk s m a below hf happ hP hK
  exact ⟨n, o, h1, h2, h3, ⟨⟨v, M2, x2, N2, e1, hΦ _ _ _ _ e2, e3⟩, h5⟩, h6⟩
end CNS
section EVE
variable {l : Launch} {D : va_G} {cy : Nat → ClassId} {g : Nat → Nat} {K K2 : KT} {y : MethodName} {cc : ByteArray} {nL : Nat} {rt : Option FieldType} {rm : Room} {Q : Qty} {cells slots M : Nat} {x : Bool} {N : Mem} {pc : Nat} {al : List (Nat × Value)} {st : List Value} {Φ : Post}
/-! ends -/
theorem ev_iret {a : Int} (hd : decode cc pc = .ok (.ireturn, 1)) (hrt : rt = some .int) (hc : cells ≤ rm.cells ∧ slots ≤ rm.slots) (h : Φ (some (vi a)) M x N) : Ev l D cy g K y cc nL rt rm (MX D cy g K rm Φ) cells slots M x N pc al [vi a] := by
  intro p e s m args below meth c H locs ls C hR hS hl
  refine W.widen hc.1 hc.2 ?_
  exact W.iret C.1 C.2.1 (C.2.2.2.2.2.1.trans hrt) (fun t ht _ => ⟨⟨_, M, x, N, rfl, h, by rw [ht]; exact hR⟩, hS.F ht⟩) hS.2.2 hd C.2.2.2.2.2.2.1
theorem ev_bret {b : Bool} (hd : decode cc pc = .ok (.ireturn, 1)) (hrt : rt = some .boolean) (hc : cells ≤ rm.cells ∧ slots ≤ rm.slots) (h : Φ (some (vb b)) M x N) : Ev l D cy g K y cc nL rt rm (MX D cy g K rm Φ) cells slots M x N pc al [vb b] := by
  intro p e s m args below meth c H locs ls C hR hS hl
  refine W.widen hc.1 hc.2 ?_
  exact W.zret C.1 C.2.1 (C.2.2.2.2.2.1.trans hrt) (by cases b <;> rfl) (fun t ht _ => ⟨⟨_, M, x, N, rfl, h, by rw [ht]; exact hR⟩, hS.F ht⟩) hS.2.2 hd C.2.2.2.2.2.2.1
theorem ev_cret {a : Int} (hd : decode cc pc = .ok (.ireturn, 1)) (hrt : rt = some .char) (hc : cells ≤ rm.cells ∧ slots ≤ rm.slots) (ha : 0 ≤ a ∧ a < 65536) (h : Φ (some (vi a)) M x N) : Ev l D cy g K y cc nL rt rm (MX D cy g K rm Φ) cells slots M x N pc al [vi a] := by
  intro p e s m args below meth c H locs ls C hR hS hl
  refine W.widen hc.1 hc.2 ?_
  have hn := nar_cv a
  rw [show a % 65536 = a by omega] at hn
  exact W.zret C.1 C.2.1 (C.2.2.2.2.2.1.trans hrt) hn (fun t ht _ => ⟨⟨_, M, x, N, rfl, h, by rw [ht]; exact hR⟩, hS.F ht⟩) hS.2.2 hd C.2.2.2.2.2.2.1
theorem ev_lret {a : Int} (hd : decode cc pc = .ok (.lreturn, 1)) (hrt : rt = some .long) (hc : cells ≤ rm.cells ∧ slots ≤ rm.slots) (h : Φ (some (vl a)) M x N) : Ev l D cy g K y cc nL rt rm (MX D cy g K rm Φ) cells slots M x N pc al [vl a] := by
  intro p e s m args below meth c H locs ls C hR hS hl
  refine W.widen hc.1 hc.2 ?_
  exact W.lret C.1 C.2.1 (C.2.2.2.2.2.1.trans hrt) (fun t ht _ => ⟨⟨_, M, x, N, rfl, h, by rw [ht]; exact hR⟩, hS.F ht⟩) hS.2.2 hd C.2.2.2.2.2.2.1
theorem ev_aret {k : Nat} {ty : FieldType} (hd : decode cc pc = .ok (.areturn, 1)) (hrt : rt = some ty) (hty : (∃ n, ty = .object n) ∨ ∃ t, ty = .array t) (hc : cells ≤ rm.cells ∧ slots ≤ rm.slots) (h : Φ (some (vr g k)) M x N) : Ev l D cy g K y cc nL rt rm (MX D cy g K rm Φ) cells slots M x N pc al [vr g k] := by
  intro p e s m args below meth c H locs ls C hR hS hl
  refine W.widen hc.1 hc.2 ?_
  exact W.aret C.1 C.2.1 (C.2.2.2.2.2.1.trans hrt) hty (Or.inr ⟨_, rfl⟩) (fun t ht _ => ⟨⟨_, M, x, N, rfl, h, by rw [ht]; exact hR⟩, hS.F ht⟩) hS.2.2 hd C.2.2.2.2.2.2.1
theorem ev_vret (hd : decode cc pc = .ok (.return_, 1)) (hrt : rt = none) (hc : cells ≤ rm.cells ∧ slots ≤ rm.slots) (h : Φ none M x N) : Ev l D cy g K y cc nL rt rm (MX D cy g K rm Φ) cells slots M x N pc al [] := by
  intro p e s m args below meth c H locs ls C hR hS hl
  refine W.widen hc.1 hc.2 ?_
  exact W.vret C.1 C.2.1 (C.2.2.2.2.2.1.trans hrt) (fun t ht _ => ⟨⟨_, M, x, N, rfl, h, by rw [ht]; exact hR⟩, hS.F ht⟩) hS.2.2 hd C.2.2.2.2.2.2.1
/-! calls -/
variable {y2 : MethodName} {cc2 : ByteArray} {nL2 n2 ix : Nat} {rt2 : Option FieldType} {rm2 : Room} {As : List Value} {Φ2 : Post}
theorem ev_called {p : Program} {e : Env} {s : State} {m : MethodId} {args a2 : Array Value} {below : List Frame} {meth : Method} {c : Code} {H : Heap} {locs : List Loc} {ls : Array Slot} {st0 : List Value}
    (C : Cx D cy g y cc nL rt p s m args meth c) (hS : va_S (AA g) s.heap H locs) (hl : lv_has ls nL al)
    (hr : va_Run p l e rm s m args below meth c H locs cells slots rm2.cells rm2.slots (F0 m pc ls st0) st (QX D cy g K2 Φ2 a2) (AA g))
    (kk : ∀ v M2 x2 N2, Φ2 v M2 x2 N2 → Ev l D cy g K2 y cc nL rt rm Q (cells + rm2.cells) (slots + rm2.slots) M2 x2 N2 (pc + 3) al (v.toList ++ st)) :
    W p l e rm s m args below meth c H locs cells slots (Q below args s) (F0 m pc ls st0) := by
  intro T hT X
  obtain ⟨v, st₀, t, T', L, h0, X', hL, e1, e2, ⟨⟨v', M2, x2, N2, hv, hp, hq⟩, hz, hk⟩, stp⟩ := hr T hT X
  cases hv
  rw [h0] at hz hk
  rw [← e1] at hz hk hq
  obtain ⟨t2, a1, b1⟩ := kk v M2 x2 N2 hp p e s m args below meth c T'.heap (locs ++ L) ls C hq
    ⟨Nat.le_trans hS.1 hz, fun q h1 h2 => (hk q (Nat.lt_of_lt_of_le h1 hS.1) h2).trans (hS.2.1 q h1 h2), fun q hq => by
      rcases List.mem_append.mp hq with h | h
      · exact hS.2.2 q h
      · exact hL q h⟩ hl T' rfl X'
  exact ⟨t2, stp t2 a1, b1⟩
theorem pre_blind {args : List Value} : FrameBlind (va_Pc args (fun U => Bs D cy g U ∧ Rq D cy g K M x N U.heap)) := fun a U f mk h => ⟨h.1, h.2.1.blind, h.2.2⟩
theorem pre_of {s : State} {H : Heap} {locs : List Loc} {args : List Value} (hB : Bs D cy g s) (hR : Rq D cy g K M x N H) (hS : va_S (AA g) s.heap H locs) : ∀ U : State, U.heap = H → s.WarmedH U.vm → va_Pc args (fun U => Bs D cy g U ∧ Rq D cy g K M x N U.heap) args.toArray U :=
  fun U hU hW => ⟨rfl, hB.call hW (fun a h1 h2 => by rw [hU]; exact hS.2.1 a h1 h2), by rw [hU]; exact hR⟩
theorem ev_callV {k ci : Nat} {q : vw_C} (mi : MI y2 cc2 nL2 rt2 n2) (hC : Cn l D cy g K K2 y2 cc2 nL2 rt2 rm2 (vr g k :: As) M x N Φ2)
    (hd : decode cc pc = .ok (.invokevirtual ix, 3)) (hlk : Cond.methodLink y.cls ix y2 ∈ UW) (hin : Cond.instanceMethod y2 ∈ UW ∧ Cond.selects y2.cls y2 y2 ∈ UW) (hn : As.length = n2)
    (hM : k < M) (hs : sh k = (0, ci)) (hq : vwCl[ci]? = some q ∧ q.1 = y2.cls)
    (hrm : (rm2.frames + 1 ≤ rm.frames ∧ 8 + (nL2 + 11) + rm2.locals ≤ rm.locals) ∧ cells + rm2.cells ≤ rm.cells ∧ slots + rm2.slots ≤ rm.slots) (hst : (st.map fun v => v.category).sum ≤ 8)
    (kk : ∀ v M2 x2 N2, Φ2 v M2 x2 N2 → Ev l D cy g K2 y cc nL rt rm Q (cells + rm2.cells) (slots + rm2.slots) M2 x2 N2 (pc + 3) al (v.toList ++ st)) : Ev l D cy g K y cc nL rt rm Q cells slots M x N pc al (As.reverse ++ vr g k :: st) := by
  intro p e s m args below meth c H locs ls C hR hS hl
  have hts := C.2.2.2.2.1
  have hB := C.2.2.2.2.2.2.2.2
  have ha : (wl cy g K M N)[k]? = some (ad g k, .inr (ci, objE g (K k) ci (N k))) := by rw [wl_get hM, hs]; rfl
  obtain ⟨cell, r1, r2, r3⟩ := va_recv hB.1 hR.1.2 hq.1 ha
  exact ev_called C hS hl (va_runV (C := y2.cls) ⟨C.1, C.2.1, C.2.2.1, C.2.2.2.1, hts⟩ hC ⟨callB_of n2 hts mi.good rfl rfl rfl (hts _ mi.2.1) (hts _ hlk) mi.2.2 hrm.1, hts _ hin.1, hts _ hin.2⟩
    ⟨pre_blind, ⟨cell, r1, r2, by rw [← hq.2]; exact r3⟩, pre_of hB hR hS⟩ rfl hn hl.1 rfl (lv_room hst) hd hrm.2) kk
theorem ev_callVW {k : Nat} (mi : MI y2 cc2 nL2 rt2 n2) (hC : Cn l D cy g K K2 y2 cc2 nL2 rt2 rm2 (vr g k :: As) M x N Φ2)
    (hd : decode cc pc = .ok (.invokevirtual ix, 3)) (hlk : Cond.methodLink y.cls ix y2 ∈ UW) (hin : Cond.instanceMethod y2 ∈ UW ∧ Cond.selects y2.cls y2 y2 ∈ UW) (hn : As.length = n2)
    (hk : 1000 ≤ k ∧ k < 1019) (hq : RX10 = y2.cls)
    (hrm : (rm2.frames + 1 ≤ rm.frames ∧ 8 + (nL2 + 11) + rm2.locals ≤ rm.locals) ∧ cells + rm2.cells ≤ rm.cells ∧ slots + rm2.slots ≤ rm.slots) (hst : (st.map fun v => v.category).sum ≤ 8)
    (kk : ∀ v M2 x2 N2, Φ2 v M2 x2 N2 → Ev l D cy g K2 y cc nL rt rm Q (cells + rm2.cells) (slots + rm2.slots) M2 x2 N2 (pc + 3) al (v.toList ++ st)) : Ev l D cy g K y cc nL rt rm Q cells slots M x N pc al (As.reverse ++ vr g k :: st) := by
  intro p e s m args below meth c H locs ls C hR hS hl
  have hts := C.2.2.2.2.1
  have hB := C.2.2.2.2.2.2.2.2
  obtain ⟨i, rfl⟩ : ∃ i, k = 1000 + i := ⟨k - 1000, by omega⟩
  obtain ⟨h1, h2, h3, h4, h5, h6, o1, -⟩ := id hB
  obtain ⟨cell, r1, r2, r3⟩ := va_recvE o1 (i := i) (by rw [wnm_len]; omega) hS
  exact ev_called C hS hl (va_runV (C := y2.cls) ⟨C.1, C.2.1, C.2.2.1, C.2.2.2.1, hts⟩ hC ⟨callB_of n2 hts mi.good rfl rfl rfl (hts _ mi.2.1) (hts _ hlk) mi.2.2 hrm.1, hts _ hin.1, hts _ hin.2⟩
    ⟨pre_blind, ⟨cell, r1, r2, by rw [← hq]; exact r3⟩, pre_of hB hR hS⟩ rfl hn hl.1 rfl (lv_room hst) hd hrm.2) kk
theorem ev_callS (mi : MI y2 cc2 nL2 rt2 n2) (hC : Cn l D cy g K K2 y2 cc2 nL2 rt2 rm2 As M x N Φ2)
    (hd : decode cc pc = .ok (.invokestatic ix, 3)) (hlk : Cond.methodLink y.cls ix y2 ∈ UW) (hin : Cond.static y2 ∈ UW) (hn : As.length = n2)
    (hrm : (rm2.frames + 1 ≤ rm.frames ∧ 8 + (nL2 + 11) + rm2.locals ≤ rm.locals) ∧ cells + rm2.cells ≤ rm.cells ∧ slots + rm2.slots ≤ rm.slots) (hst : (st.map fun v => v.category).sum ≤ 8)
    (kk : ∀ v M2 x2 N2, Φ2 v M2 x2 N2 → Ev l D cy g K2 y cc nL rt rm Q (cells + rm2.cells) (slots + rm2.slots) M2 x2 N2 (pc + 3) al (v.toList ++ st)) : Ev l D cy g K y cc nL rt rm Q cells slots M x N pc al (As.reverse ++ st) := by
  intro p e s m args below meth c H locs ls C hR hS hl
  have hts := C.2.2.2.2.1
  have hB := C.2.2.2.2.2.2.2.2
  exact ev_called C hS hl (va_runS ⟨C.1, C.2.1, C.2.2.1, C.2.2.2.1, hts⟩ hC ⟨callB_of n2 hts mi.good rfl rfl rfl (hts _ mi.2.1) (hts _ hlk) mi.2.2 hrm.1, hts _ hin⟩
    ⟨pre_blind, pre_of hB hR hS⟩ rfl hn hl.1 rfl (lv_room hst) hd hrm.2) kk
theorem ev_callSN {host : String} (mi : MI y2 cc2 nL2 rt2 n2) (hC : Cn l D cy g K K2 y2 cc2 nL2 rt2 rm2 As M x N Φ2)
    (hd : decode cc pc = .ok (.invokestatic ix, 3)) (hlk : (y.cls, ix, y2, host) ∈ nestM) (hin : Cond.static y2 ∈ UW) (hn : As.length = n2)
    (hrm : (rm2.frames + 1 ≤ rm.frames ∧ 8 + (nL2 + 11) + rm2.locals ≤ rm.locals) ∧ cells + rm2.cells ≤ rm.cells ∧ slots + rm2.slots ≤ rm.slots) (hst : (st.map fun v => v.category).sum ≤ 8)
    (kk : ∀ v M2 x2 N2, Φ2 v M2 x2 N2 → Ev l D cy g K2 y cc nL rt rm Q (cells + rm2.cells) (slots + rm2.slots) M2 x2 N2 (pc + 3) al (v.toList ++ st)) : Ev l D cy g K y cc nL rt rm Q cells slots M x N pc al (As.reverse ++ st) := by
  intro p e s m args below meth c H locs ls C hR hS hl
  have hts := C.2.2.2.2.1
  have hB := C.2.2.2.2.2.2.2.2
  exact ev_called C hS hl (va_runSN ⟨C.1, C.2.1, C.2.2.1, C.2.2.2.1, hts⟩ hC ⟨va_cnB n2 hts mi.good rfl rfl rfl (hB.2.1 _ hlk) (hts _ mi.2.1) mi.2.2 hrm.1, hts _ hin, trivial⟩
    ⟨pre_blind, pre_of hB hR hS⟩ rfl hn hl.1 rfl (lv_room hst) hd hrm.2) kk
theorem ev_callI {k : Nat} (mi : MI y2 cc2 nL2 none n2) (hC : Cn l D cy g K K2 y2 cc2 nL2 none rm2 (vr g k :: As) M x N Φ2)
    (hd : decode cc pc = .ok (.invokespecial ix, 3)) (hlk : Cond.methodLink y.cls ix y2 ∈ UW) (hin : y2.name = "<init>" ∧ Cond.instanceMethod y2 ∈ UW) (hn : As.length = n2)
    (hrm : (rm2.frames + 1 ≤ rm.frames ∧ 8 + (nL2 + 11) + rm2.locals ≤ rm.locals) ∧ cells + rm2.cells ≤ rm.cells ∧ slots + rm2.slots ≤ rm.slots) (hst : (st.map fun v => v.category).sum ≤ 8)
    (kk : ∀ v M2 x2 N2, Φ2 v M2 x2 N2 → Ev l D cy g K2 y cc nL rt rm Q (cells + rm2.cells) (slots + rm2.slots) M2 x2 N2 (pc + 3) al (v.toList ++ st)) : Ev l D cy g K y cc nL rt rm Q cells slots M x N pc al (As.reverse ++ vr g k :: st) := by
  intro p e s m args below meth c H locs ls C hR hS hl
  have hts := C.2.2.2.2.1
  have hB := C.2.2.2.2.2.2.2.2
  exact ev_called C hS hl (va_runI ⟨C.1, C.2.1, C.2.2.1, C.2.2.2.1, hts⟩ hC ⟨callB_of n2 hts mi.good rfl rfl rfl (hts _ mi.2.1) (hts _ hlk) mi.2.2 hrm.1, hin.1, hts _ hin.2⟩
    ⟨pre_blind, pre_of (args := vr g k :: As) hB hR hS⟩ rfl hn hl.1 rfl (lv_room hst) hd hrm.2) kk
theorem ev_callIN {k : Nat} {host : String} (mi : MI y2 cc2 nL2 none n2) (hC : Cn l D cy g K K2 y2 cc2 nL2 none rm2 (vr g k :: As) M x N Φ2)
    (hd : decode cc pc = .ok (.invokespecial ix, 3)) (hlk : (y.cls, ix, y2, host) ∈ nestM) (hin : y2.name = "<init>" ∧ Cond.instanceMethod y2 ∈ UW) (hn : As.length = n2)
    (hrm : (rm2.frames + 1 ≤ rm.frames ∧ 8 + (nL2 + 11) + rm2.locals ≤ rm.locals) ∧ cells + rm2.cells ≤ rm.cells ∧ slots + rm2.slots ≤ rm.slots) (hst : (st.map fun v => v.category).sum ≤ 8)
    (kk : ∀ v M2 x2 N2, Φ2 v M2 x2 N2 → Ev l D cy g K2 y cc nL rt rm Q (cells + rm2.cells) (slots + rm2.slots) M2 x2 N2 (pc + 3) al (v.toList ++ st)) : Ev l D cy g K y cc nL rt rm Q cells slots M x N pc al (As.reverse ++ vr g k :: st) := by
  intro p e s m args below meth c H locs ls C hR hS hl
  have hts := C.2.2.2.2.1
  have hB := C.2.2.2.2.2.2.2.2
  exact ev_called C hS hl (va_runIN ⟨C.1, C.2.1, C.2.2.1, C.2.2.2.1, hts⟩ hC ⟨va_cnB n2 hts mi.good rfl rfl rfl (hB.2.1 _ hlk) (hts _ mi.2.1) mi.2.2 hrm.1, hin.1, hts _ hin.2⟩
    ⟨pre_blind, pre_of (args := vr g k :: As) hB hR hS⟩ rfl hn hl.1 rfl (lv_room hst) hd hrm.2) kk
end EVE
