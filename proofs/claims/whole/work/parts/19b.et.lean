def Et (l : Launch) (D : va_G) (cy : Nat → ClassId) (g : Nat → Nat) (K : KT) (y : MethodName) (cc : ByteArray) (nL : Nat) (rt : Option FieldType) (rm : Room) (Q : Qty) (cells slots M : Nat) (x : Bool) (μ : Mem) (pc : Nat) (al : List (Nat × Value)) (st : List Value) : Prop :=
  ∀ (p : Program) (e : Env) (s : State) (m : MethodId) (args : Array Value) (below : List Frame) (meth : Method) (c : Code) (H : Heap) (locs : List Loc) (ls : Array Slot),
    Cx D cy g y cc nL rt p s m args meth c → (∀ z ∈ c.exceptionTable.toList, False) → Rq D cy g K M x μ H → va_S (AA g) s.heap H locs → lv_has ls nL al →
    W p l e rm s m args below meth c H locs cells slots (Q below args s) (F0 m pc ls st)
section ETR
variable {l : Launch} {D : va_G} {cy : Nat → ClassId} {g : Nat → Nat} {K K2 : KT} {y : MethodName} {cc : ByteArray} {nL : Nat} {rt : Option FieldType} {rm : Room} {Q : Qty} {cells slots M : Nat} {x : Bool} {N μ : Mem} {pc : Nat} {al : List (Nat × Value)} {st : List Value}
variable {y2 : MethodName} {cc2 : ByteArray} {nL2 n2 ix d2 : Nat} {rt2 : Option FieldType} {rm2 : Room} {As : List Value} {Φ2 : Post} {N2 : Mem} {V : Value}
theorem et_iload_n {f : Fin 4} {v : Int32} (hd : decode cc pc = .ok (.iload_n f, 1)) (k : Nat) (hk : al[k]? = some ((f : Nat), .int v)) (kk : Et l D cy g K y cc nL rt rm Q cells slots M x μ (pc + 1) al (.int v :: st)) : Et l D cy g K y cc nL rt rm Q cells slots M x μ pc al st := by
  intro p e s m args below meth c H locs ls C hX hR hS hl
  exact lv_iload_n C.1 C.2.1 hd rfl (lv_at hl k hk) (kk p e s m args below meth c H locs ls C hX hR hS hl)
theorem et_iload {i : Nat} {v : Int32} (hd : decode cc pc = .ok (.iload i, 2)) (k : Nat) (hk : al[k]? = some (i, .int v)) (kk : Et l D cy g K y cc nL rt rm Q cells slots M x μ (pc + 2) al (.int v :: st)) : Et l D cy g K y cc nL rt rm Q cells slots M x μ pc al st := by
  intro p e s m args below meth c H locs ls C hX hR hS hl
  exact lv_iload C.1 C.2.1 hd (lv_at hl k hk) (kk p e s m args below meth c H locs ls C hX hR hS hl)
theorem et_istore_n {f : Fin 4} {v : Int32} {al2 : List (Nat × Value)} (hd : decode cc pc = .ok (.istore_n f, 1)) (i : Nat) (hi : (f : Nat) = i) (hn : i < nL) (he : (i, Value.int v) :: al.filter (fun q => !(q.1 == i) && !(q.1 + 1 == i && q.2.category == 2)) = al2) (kk : Et l D cy g K y cc nL rt rm Q cells slots M x μ (pc + 1) al2 st) : Et l D cy g K y cc nL rt rm Q cells slots M x μ pc al (.int v :: st) := by
  intro p e s m args below meth c H locs ls C hX hR hS hl
  exact lv_istore_n C.1 C.2.1 hd hi hl hn he (fun ls2 hl2 => kk p e s m args below meth c H locs ls2 C hX hR hS hl2)
theorem et_istore {i : Nat} {v : Int32} {al2 : List (Nat × Value)} (hd : decode cc pc = .ok (.istore i, 2)) (hn : i < nL) (he : (i, Value.int v) :: al.filter (fun q => !(q.1 == i) && !(q.1 + 1 == i && q.2.category == 2)) = al2) (kk : Et l D cy g K y cc nL rt rm Q cells slots M x μ (pc + 2) al2 st) : Et l D cy g K y cc nL rt rm Q cells slots M x μ pc al (.int v :: st) := by
  intro p e s m args below meth c H locs ls C hX hR hS hl
  exact lv_istore C.1 C.2.1 hd hl hn he (fun ls2 hl2 => kk p e s m args below meth c H locs ls2 C hX hR hS hl2)
theorem et_iinc {i : Nat} {n : Int} {v : Int} {al2 : List (Nat × Value)} (hd : decode cc pc = .ok (.iinc i n, 3)) (k : Nat) (hk : al[k]? = some (i, vi v)) (hn : i < nL) (he : (i, vi (v + n)) :: al.filter (fun q => !(q.1 == i) && !(q.1 + 1 == i && q.2.category == 2)) = al2) (kk : Et l D cy g K y cc nL rt rm Q cells slots M x μ (pc + 3) al2 st) : Et l D cy g K y cc nL rt rm Q cells slots M x μ pc al st := by
  intro p e s m args below meth c H locs ls C hX hR hS hl
  exact lv_iinc C.1 C.2.1 hd hl hk (Int32.ofInt_add v n).symm hn he (fun ls2 hl2 => kk p e s m args below meth c H locs ls2 C hX hR hS hl2)
theorem et_sub {al2 : List (Nat × Value)} (ks : List Nat) (h : lv_pick al ks = al2) (kk : Et l D cy g K y cc nL rt rm Q cells slots M x μ pc al2 st) : Et l D cy g K y cc nL rt rm Q cells slots M x μ pc al st := by
  intro p e s m args below meth c H locs ls C hX hR hS hl
  exact kk p e s m args below meth c H locs ls C hX hR hS (lv_sub hl ks h)
theorem et_iconst {n : Int} (hd : decode cc pc = .ok (.iconst n, 1)) (kk : Et l D cy g K y cc nL rt rm Q cells slots M x μ (pc + 1) al (vi n :: st)) : Et l D cy g K y cc nL rt rm Q cells slots M x μ pc al st := by
  intro p e s m args below meth c H locs ls C hX hR hS hl
  exact lv_iconst C.1 C.2.1 hd rfl (kk p e s m args below meth c H locs ls C hX hR hS hl)
theorem et_iadd {a b : Int} (hd : decode cc pc = .ok (.iadd, 1)) (kk : Et l D cy g K y cc nL rt rm Q cells slots M x μ (pc + 1) al (vi (a + b) :: st)) : Et l D cy g K y cc nL rt rm Q cells slots M x μ pc al (vi b :: vi a :: st) := by
  intro p e s m args below meth c H locs ls C hX hR hS hl
  exact lv_iadd C.1 C.2.1 hd (Int32.ofInt_add a b ▸ kk p e s m args below meth c H locs ls C hX hR hS hl)
theorem et_isub {a b : Int} (hd : decode cc pc = .ok (.isub, 1)) (kk : Et l D cy g K y cc nL rt rm Q cells slots M x μ (pc + 1) al (vi (a - b) :: st)) : Et l D cy g K y cc nL rt rm Q cells slots M x μ pc al (vi b :: vi a :: st) := by
  intro p e s m args below meth c H locs ls C hX hR hS hl
  exact lv_isub C.1 C.2.1 hd (Int32.ofInt_sub a b ▸ kk p e s m args below meth c H locs ls C hX hR hS hl)
theorem et_idiv {a b : Int} (hd : decode cc pc = .ok (.idiv, 1)) (h0 : ¬ w32 b = 0) (kk : Et l D cy g K y cc nL rt rm Q cells slots M x μ (pc + 1) al (vi (i_div a b) :: st)) : Et l D cy g K y cc nL rt rm Q cells slots M x μ pc al (vi b :: vi a :: st) := by
  intro p e s m args below meth c H locs ls C hX hR hS hl
  have k2 := kk p e s m args below meth c H locs ls C hX hR hS hl
  unfold vi i_div at k2
  rw [ii] at k2
  exact lv_idiv C.1 C.2.1 hd (fun q => h0 (by show (Int32.ofInt b).toInt = 0; rw [q]; rfl)) k2
theorem et_irem {a b : Int} (hd : decode cc pc = .ok (.irem, 1)) (h0 : ¬ w32 b = 0) (kk : Et l D cy g K y cc nL rt rm Q cells slots M x μ (pc + 1) al (vi (i_rem a b) :: st)) : Et l D cy g K y cc nL rt rm Q cells slots M x μ pc al (vi b :: vi a :: st) := by
  intro p e s m args below meth c H locs ls C hX hR hS hl
  have k2 := kk p e s m args below meth c H locs ls C hX hR hS hl
  unfold vi i_rem at k2
  rw [ii] at k2
  exact lv_irem C.1 C.2.1 hd (fun q => h0 (by show (Int32.ofInt b).toInt = 0; rw [q]; rfl)) k2
theorem et_if_eq {a : Int} {off : Int} (tgt : Nat) (hd : decode cc pc = .ok (.ifCond .eq off, 3)) (ht : (pc : Int) + off = (tgt : Int)) (kt : (w32 a = 0) → Et l D cy g K y cc nL rt rm Q cells slots M x μ tgt al st) (kf : ¬ (w32 a = 0) → Et l D cy g K y cc nL rt rm Q cells slots M x μ (pc + 3) al st) : Et l D cy g K y cc nL rt rm Q cells slots M x μ pc al (vi a :: st) := by
  intro p e s m args below meth c H locs ls C hX hR hS hl
  exact lv_if_eq C.1 C.2.1 hd ht (fun h => kt (i0_eq.mp h) p e s m args below meth c H locs ls C hX hR hS hl) (fun h => kf (fun q => h (i0_eq.mpr q)) p e s m args below meth c H locs ls C hX hR hS hl)
theorem et_if_ne {a : Int} {off : Int} (tgt : Nat) (hd : decode cc pc = .ok (.ifCond .ne off, 3)) (ht : (pc : Int) + off = (tgt : Int)) (kt : ¬ w32 a = 0 → Et l D cy g K y cc nL rt rm Q cells slots M x N tgt al st) (kf : w32 a = 0 → Et l D cy g K y cc nL rt rm Q cells slots M x N (pc + 3) al st) : Et l D cy g K y cc nL rt rm Q cells slots M x N pc al (vi a :: st) := by
  intro p e s m args below meth c H locs ls C hX hR hS hl
  exact lv_if_ne C.1 C.2.1 hd ht (fun h => kt (fun q => h (i0_eq.mpr q)) p e s m args below meth c H locs ls C hX hR hS hl) (fun h => kf (i0_eq.mp h) p e s m args below meth c H locs ls C hX hR hS hl)
theorem et_icmp_ge {a b : Int} {off : Int} (tgt : Nat) (hd : decode cc pc = .ok (.if_icmp .ge off, 3)) (ht : (pc : Int) + off = (tgt : Int)) (kt : ¬ w32 a < w32 b → Et l D cy g K y cc nL rt rm Q cells slots M x N tgt al st) (kf : w32 a < w32 b → Et l D cy g K y cc nL rt rm Q cells slots M x N (pc + 3) al st) : Et l D cy g K y cc nL rt rm Q cells slots M x N pc al (vi b :: vi a :: st) := by
  intro p e s m args below meth c H locs ls C hX hR hS hl
  exact lv_icmp_ge C.1 C.2.1 hd ht (fun h => kt (not_lt32 h) p e s m args below meth c H locs ls C hX hR hS hl) (fun h => kf (lt32_not h) p e s m args below meth c H locs ls C hX hR hS hl)
theorem et_icmp_lt {a b : Int} {off : Int} (tgt : Nat) (hd : decode cc pc = .ok (.if_icmp .lt off, 3)) (ht : (pc : Int) + off = (tgt : Int)) (kt : (w32 a < w32 b) → Et l D cy g K y cc nL rt rm Q cells slots M x μ tgt al st) (kf : ¬ (w32 a < w32 b) → Et l D cy g K y cc nL rt rm Q cells slots M x μ (pc + 3) al st) : Et l D cy g K y cc nL rt rm Q cells slots M x μ pc al (vi b :: vi a :: st) := by
  intro p e s m args below meth c H locs ls C hX hR hS hl
  exact lv_icmp_lt C.1 C.2.1 hd ht (fun h => kt (ofInt_lt32.mp h) p e s m args below meth c H locs ls C hX hR hS hl) (fun h => kf (fun q => h (ofInt_lt32.mpr q)) p e s m args below meth c H locs ls C hX hR hS hl)
theorem et_icmp_ne {a b : Int} {off : Int} (tgt : Nat) (hd : decode cc pc = .ok (.if_icmp .ne off, 3)) (ht : (pc : Int) + off = (tgt : Int)) (kt : ¬ w32 a = w32 b → Et l D cy g K y cc nL rt rm Q cells slots M x N tgt al st) (kf : w32 a = w32 b → Et l D cy g K y cc nL rt rm Q cells slots M x N (pc + 3) al st) : Et l D cy g K y cc nL rt rm Q cells slots M x N pc al (vi b :: vi a :: st) := by
  intro p e s m args below meth c H locs ls C hX hR hS hl
  exact lv_icmp_ne C.1 C.2.1 hd ht (fun h => kt (fun q => h (ofInt_inj32.mpr q)) p e s m args below meth c H locs ls C hX hR hS hl) (fun h => kf (ofInt_inj32.mp h) p e s m args below meth c H locs ls C hX hR hS hl)
theorem et_icmp_eq {a b : Int} {off : Int} (tgt : Nat) (hd : decode cc pc = .ok (.if_icmp .eq off, 3)) (ht : (pc : Int) + off = (tgt : Int)) (kt : (w32 a = w32 b) → Et l D cy g K y cc nL rt rm Q cells slots M x μ tgt al st) (kf : ¬ (w32 a = w32 b) → Et l D cy g K y cc nL rt rm Q cells slots M x μ (pc + 3) al st) : Et l D cy g K y cc nL rt rm Q cells slots M x μ pc al (vi b :: vi a :: st) := by
  intro p e s m args below meth c H locs ls C hX hR hS hl
  exact lv_icmp_eq C.1 C.2.1 hd ht (fun h => kt (ofInt_inj32.mp h) p e s m args below meth c H locs ls C hX hR hS hl) (fun h => kf (fun q => h (ofInt_inj32.mpr q)) p e s m args below meth c H locs ls C hX hR hS hl)
theorem et_goto {off : Int} (tgt : Nat) (hd : decode cc pc = .ok (.goto off, 3)) (ht : (pc : Int) + off = (tgt : Int)) (kk : Et l D cy g K y cc nL rt rm Q cells slots M x N tgt al st) : Et l D cy g K y cc nL rt rm Q cells slots M x N pc al st := by
  intro p e s m args below meth c H locs ls C hX hR hS hl
  exact lv_goto C.1 C.2.1 hd ht (kk p e s m args below meth c H locs ls C hX hR hS hl)
theorem et_ifb_eq {b : Bool} {off : Int} (tgt : Nat) (hd : decode cc pc = .ok (.ifCond .eq off, 3)) (ht : (pc : Int) + off = (tgt : Int)) (kt : ¬ b = true → Et l D cy g K y cc nL rt rm Q cells slots M x N tgt al st) (kf : b = true → Et l D cy g K y cc nL rt rm Q cells slots M x N (pc + 3) al st) : Et l D cy g K y cc nL rt rm Q cells slots M x N pc al (vb b :: st) :=
  et_if_eq tgt hd ht (fun h => kt (b2i_0.mp h)) (fun h => kf (by cases b <;> first | rfl | exact absurd rfl h))
theorem et_ifb_ne {b : Bool} {off : Int} (tgt : Nat) (hd : decode cc pc = .ok (.ifCond .ne off, 3)) (ht : (pc : Int) + off = (tgt : Int)) (kt : b = true → Et l D cy g K y cc nL rt rm Q cells slots M x N tgt al st) (kf : ¬ b = true → Et l D cy g K y cc nL rt rm Q cells slots M x N (pc + 3) al st) : Et l D cy g K y cc nL rt rm Q cells slots M x N pc al (vb b :: st) :=
  et_if_ne tgt hd ht (fun h => kt (by cases b <;> first | rfl | exact absurd rfl h)) (fun h => kf (b2i_0.mp h))
theorem et_rn {v w : Value} (h : w = v) (kk : Et l D cy g K y cc nL rt rm Q cells slots M x N pc al (w :: st)) : Et l D cy g K y cc nL rt rm Q cells slots M x N pc al (v :: st) := by rw [← h]; exact kk
theorem et_rni {a b : Int} (h : a = b) (kk : Et l D cy g K y cc nL rt rm Q cells slots M x N pc al (vi a :: st)) : Et l D cy g K y cc nL rt rm Q cells slots M x N pc al (vi b :: st) := by rw [← h]; exact kk
theorem et_rnb {a b : Bool} (h : a = b) (kk : Et l D cy g K y cc nL rt rm Q cells slots M x N pc al (vb a :: st)) : Et l D cy g K y cc nL rt rm Q cells slots M x N pc al (vb b :: st) := by rw [← h]; exact kk
theorem et_called {p : Program} {e : Env} {s : State} {m : MethodId} {args a2 : Array Value} {below : List Frame} {meth : Method} {c : Code} {H : Heap} {locs : List Loc} {ls : Array Slot} {st0 : List Value}
    (C : Cx D cy g y cc nL rt p s m args meth c) (hX : ∀ z ∈ c.exceptionTable.toList, False) (hS : va_S (AA g) s.heap H locs) (hl : lv_has ls nL al)
    (hr : va_Run p l e rm s m args below meth c H locs cells slots rm2.cells rm2.slots (F0 m pc ls st0) st (QX D cy g K2 Φ2 a2) (AA g))
    (kk : ∀ v M2 x2 N2, Φ2 v M2 x2 N2 → Et l D cy g K2 y cc nL rt rm Q (cells + rm2.cells) (slots + rm2.slots) M2 x2 N2 (pc + 3) al (v.toList ++ st)) :
    W p l e rm s m args below meth c H locs cells slots (Q below args s) (F0 m pc ls st0) := by
  intro T hT X
  obtain ⟨v, st₀, t, T', L, h0, X', hL, e1, e2, ⟨⟨v', M2, x2, N2, hv, hp, hq⟩, hz, hk⟩, stp⟩ := hr T hT X
  cases hv
  rw [h0] at hz hk
  rw [← e1] at hz hk hq
  obtain ⟨t2, a1, b1⟩ := kk v M2 x2 N2 hp p e s m args below meth c T'.heap (locs ++ L) ls C hX hq
    ⟨Nat.le_trans hS.1 hz, fun q h1 h2 => (hk q (Nat.lt_of_lt_of_le h1 hS.1) h2).trans (hS.2.1 q h1 h2), fun q hq => by
      rcases List.mem_append.mp hq with h | h
      · exact hS.2.2 q h
      · exact hL q h⟩ hl T' rfl X'
  exact ⟨t2, stp t2 a1, b1⟩
theorem et_callS (mi : MI y2 cc2 nL2 rt2 n2) (hC : Cn l D cy g K K2 y2 cc2 nL2 rt2 rm2 As M x N Φ2)
    (hd : decode cc pc = .ok (.invokestatic ix, 3)) (hlk : Cond.methodLink y.cls ix y2 ∈ UW) (hin : Cond.static y2 ∈ UW) (hn : As.length = n2)
    (hrm : (rm2.frames + 1 ≤ rm.frames ∧ 8 + (nL2 + 11) + rm2.locals ≤ rm.locals) ∧ cells + rm2.cells ≤ rm.cells ∧ slots + rm2.slots ≤ rm.slots) (hst : (st.map fun v => v.category).sum ≤ 8)
    (kk : ∀ v M2 x2 N2, Φ2 v M2 x2 N2 → Et l D cy g K2 y cc nL rt rm Q (cells + rm2.cells) (slots + rm2.slots) M2 x2 N2 (pc + 3) al (v.toList ++ st)) : Et l D cy g K y cc nL rt rm Q cells slots M x N pc al (As.reverse ++ st) := by
  intro p e s m args below meth c H locs ls C hX hR hS hl
  have hts := C.2.2.2.2.1
  have hB := C.2.2.2.2.2.2.2.2
  exact et_called C hX hS hl (va_runS ⟨C.1, C.2.1, C.2.2.1, C.2.2.2.1, hts⟩ hC ⟨callB_of n2 hts mi.good rfl rfl rfl (hts _ mi.2.1) (hts _ hlk) mi.2.2 hrm.1, hts _ hin⟩
    ⟨pre_blind, pre_of hB hR hS⟩ rfl hn hl.1 rfl (lv_room hst) hd hrm.2) kk
theorem ct_S1  (mi : MI y2 cc2 nL2 rt2 n2) (hC : Cn l D cy g K K y2 cc2 nL2 rt2 (rmd d2 0 0) As M x N (PE (some V) M x N2)) (hd : decode cc pc = .ok (.invokestatic ix, 3)) (hlk : Cond.methodLink y.cls ix y2 ∈ UW) (hin : Cond.static y2 ∈ UW) (hn : As.length = n2) (hrm : (d2 + 1 ≤ rm.frames ∧ 8 + (nL2 + 11) + 40 * d2 ≤ rm.locals) ∧ cells ≤ rm.cells ∧ slots ≤ rm.slots) (hst : (st.map fun v => v.category).sum ≤ 8) (kk : Et l D cy g K y cc nL rt rm Q cells slots M x N2 (pc + 3) al (V :: st)) : Et l D cy g K y cc nL rt rm Q cells slots M x N pc al (As.reverse ++ st) := by
  refine et_callS mi hC hd hlk hin hn ⟨hrm.1, hrm.2⟩ hst (fun v M2 x2 N3 hp => ?_)
  obtain ⟨rfl, rfl, rfl, rfl⟩ := hp
  exact kk
end ETR
