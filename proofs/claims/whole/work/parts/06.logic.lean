/-! ===== the judgement: from here the method comes to its end, whatever the machine around it ===== -/
def UW : List Cond := lw_tbl.filter goodWord
theorem UW_mem {w : Cond} (h : w ∈ lw_tbl) (hg : goodWord w = true) : w ∈ UW := List.mem_filter.mpr ⟨h, hg⟩
theorem UW_tbl {w : Cond} (h : w ∈ UW) : w ∈ lw_tbl := (List.mem_filter.mp h).1
theorem UW_good {w : Cond} (h : w ∈ UW) : goodWord w = true := (List.mem_filter.mp h).2
theorem UW_at (i : Nat) {w : Cond} (h : lw_tbl[i]? = some w) (hg : goodWord w = true) : w ∈ UW := UW_mem (List.mem_of_getElem? h) hg
abbrev Qty : Type := List Frame → Array Value → State → State → Prop
def Cx (D : va_G) (cy : Nat → ClassId) (g : Nat → Nat) (y : MethodName) (cc : ByteArray) (nL : Nat) (rt : Option FieldType) (p : Program) (s : State) (m : MethodId) (args : Array Value) (meth : Method) (c : Code) : Prop :=
  p.tables.exec = Jvm.exec ∧ c.code = cc ∧ c.maxLocals = nL ∧ s.vm.findClass y.cls = some m.cls ∧ (∀ w ∈ UW, w.before args s = true) ∧ meth.sig.returnType = rt ∧ meth.locks = false ∧ meth.name = y.name ∧ Bs D cy g s
def Rq (D : va_G) (cy : Nat → ClassId) (g : Nat → Nat) (K : KT) (M : Nat) (x : Bool) (μ : Mem) (H : Heap) : Prop := Rp D cy g K M μ H ∧ (x = true → H.size = g 0 + M)
def Ev (l : Launch) (D : va_G) (cy : Nat → ClassId) (g : Nat → Nat) (K : KT) (y : MethodName) (cc : ByteArray) (nL : Nat) (rt : Option FieldType) (rm : Room) (Q : Qty) (cells slots M : Nat) (x : Bool) (μ : Mem) (pc : Nat) (al : List (Nat × Value)) (st : List Value) : Prop :=
  ∀ (p : Program) (e : Env) (s : State) (m : MethodId) (args : Array Value) (below : List Frame) (meth : Method) (c : Code) (H : Heap) (locs : List Loc) (ls : Array Slot),
    Cx D cy g y cc nL rt p s m args meth c → Rq D cy g K M x μ H → va_S (AA g) s.heap H locs → lv_has ls nL al →
    W p l e rm s m args below meth c H locs cells slots (Q below args s) (F0 m pc ls st)
theorem inb_vp {i : Int} {n : Nat} (h : 0 ≤ w32 i ∧ w32 i < n) : vp_in (Int32.ofInt i) n := by
  rintro (q | q)
  · have := Int32.lt_iff_toInt_lt.mp q
    rw [Int32.toInt_zero] at this
    exact absurd this (by have := h.1; unfold w32 at this; omega)
  · have h2 : n ≤ (w32 i).toNat := q
    omega
section EVR
variable {l : Launch} {D : va_G} {cy : Nat → ClassId} {g : Nat → Nat} {K : KT} {y : MethodName} {cc : ByteArray} {nL : Nat} {rt : Option FieldType} {rm : Room} {Q : Qty} {cells slots M : Nat} {x : Bool} {μ : Mem} {pc : Nat} {al : List (Nat × Value)} {st : List Value}
theorem ev_iload_n {f : Fin 4} {v : Int32} (hd : decode cc pc = .ok (.iload_n f, 1)) (k : Nat) (hk : al[k]? = some ((f : Nat), .int v)) (kk : Ev l D cy g K y cc nL rt rm Q cells slots M x μ (pc + 1) al (.int v :: st)) : Ev l D cy g K y cc nL rt rm Q cells slots M x μ pc al st := by
  intro p e s m args below meth c H locs ls C hR hS hl
  exact lv_iload_n C.1 C.2.1 hd rfl (lv_at hl k hk) (kk p e s m args below meth c H locs ls C hR hS hl)
theorem ev_iload {i : Nat} {v : Int32} (hd : decode cc pc = .ok (.iload i, 2)) (k : Nat) (hk : al[k]? = some (i, .int v)) (kk : Ev l D cy g K y cc nL rt rm Q cells slots M x μ (pc + 2) al (.int v :: st)) : Ev l D cy g K y cc nL rt rm Q cells slots M x μ pc al st := by
  intro p e s m args below meth c H locs ls C hR hS hl
  exact lv_iload C.1 C.2.1 hd (lv_at hl k hk) (kk p e s m args below meth c H locs ls C hR hS hl)
theorem ev_lload_n {f : Fin 4} {v : Int64} (hd : decode cc pc = .ok (.lload_n f, 1)) (k : Nat) (hk : al[k]? = some ((f : Nat), .long v)) (kk : Ev l D cy g K y cc nL rt rm Q cells slots M x μ (pc + 1) al (.long v :: st)) : Ev l D cy g K y cc nL rt rm Q cells slots M x μ pc al st := by
  intro p e s m args below meth c H locs ls C hR hS hl
  exact lv_lload_n C.1 C.2.1 hd rfl (lv_at hl k hk) (kk p e s m args below meth c H locs ls C hR hS hl)
theorem ev_lload {i : Nat} {v : Int64} (hd : decode cc pc = .ok (.lload i, 2)) (k : Nat) (hk : al[k]? = some (i, .long v)) (kk : Ev l D cy g K y cc nL rt rm Q cells slots M x μ (pc + 2) al (.long v :: st)) : Ev l D cy g K y cc nL rt rm Q cells slots M x μ pc al st := by
  intro p e s m args below meth c H locs ls C hR hS hl
  exact lv_lload C.1 C.2.1 hd (lv_at hl k hk) (kk p e s m args below meth c H locs ls C hR hS hl)
theorem ev_aload_n {f : Fin 4} {v : Nat} (hd : decode cc pc = .ok (.aload_n f, 1)) (k : Nat) (hk : al[k]? = some ((f : Nat), .ref v)) (kk : Ev l D cy g K y cc nL rt rm Q cells slots M x μ (pc + 1) al (.ref v :: st)) : Ev l D cy g K y cc nL rt rm Q cells slots M x μ pc al st := by
  intro p e s m args below meth c H locs ls C hR hS hl
  exact lv_aload_n C.1 C.2.1 hd rfl (lv_at hl k hk) (kk p e s m args below meth c H locs ls C hR hS hl)
theorem ev_aload {i : Nat} {v : Nat} (hd : decode cc pc = .ok (.aload i, 2)) (k : Nat) (hk : al[k]? = some (i, .ref v)) (kk : Ev l D cy g K y cc nL rt rm Q cells slots M x μ (pc + 2) al (.ref v :: st)) : Ev l D cy g K y cc nL rt rm Q cells slots M x μ pc al st := by
  intro p e s m args below meth c H locs ls C hR hS hl
  exact lv_aload C.1 C.2.1 hd (lv_at hl k hk) (kk p e s m args below meth c H locs ls C hR hS hl)
theorem ev_istore_n {f : Fin 4} {v : Int32} {al2 : List (Nat × Value)} (hd : decode cc pc = .ok (.istore_n f, 1)) (i : Nat) (hi : (f : Nat) = i) (hn : i < nL) (he : (i, Value.int v) :: al.filter (fun q => !(q.1 == i) && !(q.1 + 1 == i && q.2.category == 2)) = al2) (kk : Ev l D cy g K y cc nL rt rm Q cells slots M x μ (pc + 1) al2 st) : Ev l D cy g K y cc nL rt rm Q cells slots M x μ pc al (.int v :: st) := by
  intro p e s m args below meth c H locs ls C hR hS hl
  exact lv_istore_n C.1 C.2.1 hd hi hl hn he (fun ls2 hl2 => kk p e s m args below meth c H locs ls2 C hR hS hl2)
theorem ev_istore {i : Nat} {v : Int32} {al2 : List (Nat × Value)} (hd : decode cc pc = .ok (.istore i, 2)) (hn : i < nL) (he : (i, Value.int v) :: al.filter (fun q => !(q.1 == i) && !(q.1 + 1 == i && q.2.category == 2)) = al2) (kk : Ev l D cy g K y cc nL rt rm Q cells slots M x μ (pc + 2) al2 st) : Ev l D cy g K y cc nL rt rm Q cells slots M x μ pc al (.int v :: st) := by
  intro p e s m args below meth c H locs ls C hR hS hl
  exact lv_istore C.1 C.2.1 hd hl hn he (fun ls2 hl2 => kk p e s m args below meth c H locs ls2 C hR hS hl2)
theorem ev_lstore_n {f : Fin 4} {v : Int64} {al2 : List (Nat × Value)} (hd : decode cc pc = .ok (.lstore_n f, 1)) (i : Nat) (hi : (f : Nat) = i) (hn : i + 1 < nL) (he : (i, Value.long v) :: al.filter (fun q => !(q.1 == i) && (!(q.1 == i + 1) && !(q.1 + 1 == i && q.2.category == 2))) = al2) (kk : Ev l D cy g K y cc nL rt rm Q cells slots M x μ (pc + 1) al2 st) : Ev l D cy g K y cc nL rt rm Q cells slots M x μ pc al (.long v :: st) := by
  intro p e s m args below meth c H locs ls C hR hS hl
  exact lv_lstore_n C.1 C.2.1 hd hi hl hn he (fun ls2 hl2 => kk p e s m args below meth c H locs ls2 C hR hS hl2)
theorem ev_lstore {i : Nat} {v : Int64} {al2 : List (Nat × Value)} (hd : decode cc pc = .ok (.lstore i, 2)) (hn : i + 1 < nL) (he : (i, Value.long v) :: al.filter (fun q => !(q.1 == i) && (!(q.1 == i + 1) && !(q.1 + 1 == i && q.2.category == 2))) = al2) (kk : Ev l D cy g K y cc nL rt rm Q cells slots M x μ (pc + 2) al2 st) : Ev l D cy g K y cc nL rt rm Q cells slots M x μ pc al (.long v :: st) := by
  intro p e s m args below meth c H locs ls C hR hS hl
  exact lv_lstore C.1 C.2.1 hd hl hn he (fun ls2 hl2 => kk p e s m args below meth c H locs ls2 C hR hS hl2)
theorem ev_astore_n {f : Fin 4} {v : Nat} {al2 : List (Nat × Value)} (hd : decode cc pc = .ok (.astore_n f, 1)) (i : Nat) (hi : (f : Nat) = i) (hn : i < nL) (he : (i, Value.ref v) :: al.filter (fun q => !(q.1 == i) && !(q.1 + 1 == i && q.2.category == 2)) = al2) (kk : Ev l D cy g K y cc nL rt rm Q cells slots M x μ (pc + 1) al2 st) : Ev l D cy g K y cc nL rt rm Q cells slots M x μ pc al (.ref v :: st) := by
  intro p e s m args below meth c H locs ls C hR hS hl
  exact lv_astore_n C.1 C.2.1 hd hi hl hn he (fun ls2 hl2 => kk p e s m args below meth c H locs ls2 C hR hS hl2)
theorem ev_astore {i : Nat} {v : Nat} {al2 : List (Nat × Value)} (hd : decode cc pc = .ok (.astore i, 2)) (hn : i < nL) (he : (i, Value.ref v) :: al.filter (fun q => !(q.1 == i) && !(q.1 + 1 == i && q.2.category == 2)) = al2) (kk : Ev l D cy g K y cc nL rt rm Q cells slots M x μ (pc + 2) al2 st) : Ev l D cy g K y cc nL rt rm Q cells slots M x μ pc al (.ref v :: st) := by
  intro p e s m args below meth c H locs ls C hR hS hl
  exact lv_astore C.1 C.2.1 hd hl hn he (fun ls2 hl2 => kk p e s m args below meth c H locs ls2 C hR hS hl2)
theorem ev_iinc {i : Nat} {n : Int} {v : Int} {al2 : List (Nat × Value)} (hd : decode cc pc = .ok (.iinc i n, 3)) (k : Nat) (hk : al[k]? = some (i, vi v)) (hn : i < nL) (he : (i, vi (v + n)) :: al.filter (fun q => !(q.1 == i) && !(q.1 + 1 == i && q.2.category == 2)) = al2) (kk : Ev l D cy g K y cc nL rt rm Q cells slots M x μ (pc + 3) al2 st) : Ev l D cy g K y cc nL rt rm Q cells slots M x μ pc al st := by
  intro p e s m args below meth c H locs ls C hR hS hl
  exact lv_iinc C.1 C.2.1 hd hl hk (Int32.ofInt_add v n).symm hn he (fun ls2 hl2 => kk p e s m args below meth c H locs ls2 C hR hS hl2)
theorem ev_sub {al2 : List (Nat × Value)} (ks : List Nat) (h : lv_pick al ks = al2) (kk : Ev l D cy g K y cc nL rt rm Q cells slots M x μ pc al2 st) : Ev l D cy g K y cc nL rt rm Q cells slots M x μ pc al st := by
  intro p e s m args below meth c H locs ls C hR hS hl
  exact kk p e s m args below meth c H locs ls C hR hS (lv_sub hl ks h)
theorem ev_iconst {n : Int} (hd : decode cc pc = .ok (.iconst n, 1)) (kk : Ev l D cy g K y cc nL rt rm Q cells slots M x μ (pc + 1) al (vi n :: st)) : Ev l D cy g K y cc nL rt rm Q cells slots M x μ pc al st := by
  intro p e s m args below meth c H locs ls C hR hS hl
  exact lv_iconst C.1 C.2.1 hd rfl (kk p e s m args below meth c H locs ls C hR hS hl)
theorem ev_bipush {n : Int} (hd : decode cc pc = .ok (.bipush n, 2)) (hn : (Int8.ofInt n).toInt32 = Int32.ofInt n) (kk : Ev l D cy g K y cc nL rt rm Q cells slots M x μ (pc + 2) al (vi n :: st)) : Ev l D cy g K y cc nL rt rm Q cells slots M x μ pc al st := by
  intro p e s m args below meth c H locs ls C hR hS hl
  exact lv_bipush C.1 C.2.1 hd hn (kk p e s m args below meth c H locs ls C hR hS hl)
theorem ev_sipush {n : Int} (hd : decode cc pc = .ok (.sipush n, 3)) (hn : (Int16.ofInt n).toInt32 = Int32.ofInt n) (kk : Ev l D cy g K y cc nL rt rm Q cells slots M x μ (pc + 3) al (vi n :: st)) : Ev l D cy g K y cc nL rt rm Q cells slots M x μ pc al st := by
  intro p e s m args below meth c H locs ls C hR hS hl
  exact lv_sipush C.1 C.2.1 hd hn (kk p e s m args below meth c H locs ls C hR hS hl)
theorem ev_lconst {f : Fin 2} (n : Int) (hd : decode cc pc = .ok (.lconst f, 1)) (hn : Int64.ofNat (f : Nat) = Int64.ofInt n) (kk : Ev l D cy g K y cc nL rt rm Q cells slots M x μ (pc + 1) al (vl n :: st)) : Ev l D cy g K y cc nL rt rm Q cells slots M x μ pc al st := by
  intro p e s m args below meth c H locs ls C hR hS hl
  exact lv_lconst C.1 C.2.1 hd hn (kk p e s m args below meth c H locs ls C hR hS hl)
theorem ev_ldc {ix : Nat} (n : Int) {v : Int32} (hd : decode cc pc = .ok (.ldc ix, 2)) (hw : Cond.constant y.cls ix v ∈ UW) (hn : v = Int32.ofInt n) (kk : Ev l D cy g K y cc nL rt rm Q cells slots M x μ (pc + 2) al (vi n :: st)) : Ev l D cy g K y cc nL rt rm Q cells slots M x μ pc al st := by
  intro p e s m args below meth c H locs ls C hR hS hl
  subst hn
  exact lv_ldc C.1 C.2.1 C.2.2.2.1 (C.2.2.2.2.1 _ hw) hd (kk p e s m args below meth c H locs ls C hR hS hl)
theorem ev_ldcw {ix : Nat} (n : Int) {v : Int32} (hd : decode cc pc = .ok (.ldc_w ix, 3)) (hw : Cond.constant y.cls ix v ∈ UW) (hn : v = Int32.ofInt n) (kk : Ev l D cy g K y cc nL rt rm Q cells slots M x μ (pc + 3) al (vi n :: st)) : Ev l D cy g K y cc nL rt rm Q cells slots M x μ pc al st := by
  intro p e s m args below meth c H locs ls C hR hS hl
  subst hn
  exact lv_ldcw C.1 C.2.1 C.2.2.2.1 (C.2.2.2.2.1 _ hw) hd (kk p e s m args below meth c H locs ls C hR hS hl)
theorem ev_ldc2 {ix : Nat} (n : Int) {v : Int64} (hd : decode cc pc = .ok (.ldc2_w ix, 3)) (hw : Cond.constantLong y.cls ix v ∈ UW) (hn : v = Int64.ofInt n) (kk : Ev l D cy g K y cc nL rt rm Q cells slots M x μ (pc + 3) al (vl n :: st)) : Ev l D cy g K y cc nL rt rm Q cells slots M x μ pc al st := by
  intro p e s m args below meth c H locs ls C hR hS hl
  subst hn
  exact lv_ldc2 C.1 C.2.1 C.2.2.2.1 (C.2.2.2.2.1 _ hw) hd (kk p e s m args below meth c H locs ls C hR hS hl)
theorem ev_dup {v : Value} (hd : decode cc pc = .ok (.dup, 1)) (hv : v.category = 1) (kk : Ev l D cy g K y cc nL rt rm Q cells slots M x μ (pc + 1) al (v :: v :: st)) : Ev l D cy g K y cc nL rt rm Q cells slots M x μ pc al (v :: st) := by
  intro p e s m args below meth c H locs ls C hR hS hl
  exact lv_dup C.1 C.2.1 hd hv (kk p e s m args below meth c H locs ls C hR hS hl)
theorem ev_dup2 {v u : Value} (hd : decode cc pc = .ok (.dup2, 1)) (hv : v.category = 1) (hu : u.category = 1) (kk : Ev l D cy g K y cc nL rt rm Q cells slots M x μ (pc + 1) al (v :: u :: v :: u :: st)) : Ev l D cy g K y cc nL rt rm Q cells slots M x μ pc al (v :: u :: st) := by
  intro p e s m args below meth c H locs ls C hR hS hl
  exact lv_dup2_11 C.1 C.2.1 hd hv hu (kk p e s m args below meth c H locs ls C hR hS hl)
theorem ev_pop {v : Value} (hd : decode cc pc = .ok (.pop, 1)) (hv : v.category = 1) (kk : Ev l D cy g K y cc nL rt rm Q cells slots M x μ (pc + 1) al st) : Ev l D cy g K y cc nL rt rm Q cells slots M x μ pc al (v :: st) := by
  intro p e s m args below meth c H locs ls C hR hS hl
  exact lv_pop C.1 C.2.1 hd hv (kk p e s m args below meth c H locs ls C hR hS hl)
theorem ev_iadd {a b : Int} (hd : decode cc pc = .ok (.iadd, 1)) (kk : Ev l D cy g K y cc nL rt rm Q cells slots M x μ (pc + 1) al (vi (a + b) :: st)) : Ev l D cy g K y cc nL rt rm Q cells slots M x μ pc al (vi b :: vi a :: st) := by
  intro p e s m args below meth c H locs ls C hR hS hl
  exact lv_iadd C.1 C.2.1 hd (Int32.ofInt_add a b ▸ kk p e s m args below meth c H locs ls C hR hS hl)
theorem ev_isub {a b : Int} (hd : decode cc pc = .ok (.isub, 1)) (kk : Ev l D cy g K y cc nL rt rm Q cells slots M x μ (pc + 1) al (vi (a - b) :: st)) : Ev l D cy g K y cc nL rt rm Q cells slots M x μ pc al (vi b :: vi a :: st) := by
  intro p e s m args below meth c H locs ls C hR hS hl
  exact lv_isub C.1 C.2.1 hd (Int32.ofInt_sub a b ▸ kk p e s m args below meth c H locs ls C hR hS hl)
theorem ev_imul {a b : Int} (hd : decode cc pc = .ok (.imul, 1)) (kk : Ev l D cy g K y cc nL rt rm Q cells slots M x μ (pc + 1) al (vi (a * b) :: st)) : Ev l D cy g K y cc nL rt rm Q cells slots M x μ pc al (vi b :: vi a :: st) := by
  intro p e s m args below meth c H locs ls C hR hS hl
  exact lv_imul C.1 C.2.1 hd (Int32.ofInt_mul a b ▸ kk p e s m args below meth c H locs ls C hR hS hl)
theorem ev_ladd {a b : Int} (hd : decode cc pc = .ok (.ladd, 1)) (kk : Ev l D cy g K y cc nL rt rm Q cells slots M x μ (pc + 1) al (vl (a + b) :: st)) : Ev l D cy g K y cc nL rt rm Q cells slots M x μ pc al (vl b :: vl a :: st) := by
  intro p e s m args below meth c H locs ls C hR hS hl
  exact lv_ladd C.1 C.2.1 hd (Int64.ofInt_add a b ▸ kk p e s m args below meth c H locs ls C hR hS hl)
theorem ev_lsub {a b : Int} (hd : decode cc pc = .ok (.lsub, 1)) (kk : Ev l D cy g K y cc nL rt rm Q cells slots M x μ (pc + 1) al (vl (a - b) :: st)) : Ev l D cy g K y cc nL rt rm Q cells slots M x μ pc al (vl b :: vl a :: st) := by
  intro p e s m args below meth c H locs ls C hR hS hl
  exact lv_lsub C.1 C.2.1 hd (Int64.ofInt_sub a b ▸ kk p e s m args below meth c H locs ls C hR hS hl)
theorem ev_lmul {a b : Int} (hd : decode cc pc = .ok (.lmul, 1)) (kk : Ev l D cy g K y cc nL rt rm Q cells slots M x μ (pc + 1) al (vl (a * b) :: st)) : Ev l D cy g K y cc nL rt rm Q cells slots M x μ pc al (vl b :: vl a :: st) := by
  intro p e s m args below meth c H locs ls C hR hS hl
  exact lv_lmul C.1 C.2.1 hd (Int64.ofInt_mul a b ▸ kk p e s m args below meth c H locs ls C hR hS hl)
theorem ev_ineg {a : Int} (hd : decode cc pc = .ok (.ineg, 1)) (kk : Ev l D cy g K y cc nL rt rm Q cells slots M x μ (pc + 1) al (vi (-a) :: st)) : Ev l D cy g K y cc nL rt rm Q cells slots M x μ pc al (vi a :: st) := by
  intro p e s m args below meth c H locs ls C hR hS hl
  exact lv_ineg C.1 C.2.1 hd (Int32.ofInt_neg a ▸ kk p e s m args below meth c H locs ls C hR hS hl)
theorem ev_iand {a b : Int} (hd : decode cc pc = .ok (.iand, 1)) (kk : Ev l D cy g K y cc nL rt rm Q cells slots M x μ (pc + 1) al (vi (i_and a b) :: st)) : Ev l D cy g K y cc nL rt rm Q cells slots M x μ pc al (vi b :: vi a :: st) := by
  intro p e s m args below meth c H locs ls C hR hS hl
  have k2 := kk p e s m args below meth c H locs ls C hR hS hl
  unfold vi i_and at k2
  rw [ii] at k2
  exact lv_iand C.1 C.2.1 hd k2
theorem ev_ior {a b : Int} (hd : decode cc pc = .ok (.ior, 1)) (kk : Ev l D cy g K y cc nL rt rm Q cells slots M x μ (pc + 1) al (vi (i_or a b) :: st)) : Ev l D cy g K y cc nL rt rm Q cells slots M x μ pc al (vi b :: vi a :: st) := by
  intro p e s m args below meth c H locs ls C hR hS hl
  have k2 := kk p e s m args below meth c H locs ls C hR hS hl
  unfold vi i_or at k2
  rw [ii] at k2
  exact lv_ior C.1 C.2.1 hd k2
theorem ev_ixor {a b : Int} (hd : decode cc pc = .ok (.ixor, 1)) (kk : Ev l D cy g K y cc nL rt rm Q cells slots M x μ (pc + 1) al (vi (i_xor a b) :: st)) : Ev l D cy g K y cc nL rt rm Q cells slots M x μ pc al (vi b :: vi a :: st) := by
  intro p e s m args below meth c H locs ls C hR hS hl
  have k2 := kk p e s m args below meth c H locs ls C hR hS hl
  unfold vi i_xor at k2
  rw [ii] at k2
  exact lv_ixor C.1 C.2.1 hd k2
theorem ev_ishl {a b : Int} (hd : decode cc pc = .ok (.ishl, 1)) (kk : Ev l D cy g K y cc nL rt rm Q cells slots M x μ (pc + 1) al (vi (i_shl a b) :: st)) : Ev l D cy g K y cc nL rt rm Q cells slots M x μ pc al (vi b :: vi a :: st) := by
  intro p e s m args below meth c H locs ls C hR hS hl
  have k2 := kk p e s m args below meth c H locs ls C hR hS hl
  unfold vi i_shl at k2
  rw [ii] at k2
  exact lv_ishl C.1 C.2.1 hd k2
theorem ev_ishr {a b : Int} (hd : decode cc pc = .ok (.ishr, 1)) (kk : Ev l D cy g K y cc nL rt rm Q cells slots M x μ (pc + 1) al (vi (i_shr a b) :: st)) : Ev l D cy g K y cc nL rt rm Q cells slots M x μ pc al (vi b :: vi a :: st) := by
  intro p e s m args below meth c H locs ls C hR hS hl
  have k2 := kk p e s m args below meth c H locs ls C hR hS hl
  unfold vi i_shr at k2
  rw [ii] at k2
  exact lv_ishr C.1 C.2.1 hd k2
theorem ev_idiv {a b : Int} (hd : decode cc pc = .ok (.idiv, 1)) (h0 : ¬ w32 b = 0) (kk : Ev l D cy g K y cc nL rt rm Q cells slots M x μ (pc + 1) al (vi (i_div a b) :: st)) : Ev l D cy g K y cc nL rt rm Q cells slots M x μ pc al (vi b :: vi a :: st) := by
  intro p e s m args below meth c H locs ls C hR hS hl
  have k2 := kk p e s m args below meth c H locs ls C hR hS hl
  unfold vi i_div at k2
  rw [ii] at k2
  exact lv_idiv C.1 C.2.1 hd (fun q => h0 (by show (Int32.ofInt b).toInt = 0; rw [q]; rfl)) k2
theorem ev_irem {a b : Int} (hd : decode cc pc = .ok (.irem, 1)) (h0 : ¬ w32 b = 0) (kk : Ev l D cy g K y cc nL rt rm Q cells slots M x μ (pc + 1) al (vi (i_rem a b) :: st)) : Ev l D cy g K y cc nL rt rm Q cells slots M x μ pc al (vi b :: vi a :: st) := by
  intro p e s m args below meth c H locs ls C hR hS hl
  have k2 := kk p e s m args below meth c H locs ls C hR hS hl
  unfold vi i_rem at k2
  rw [ii] at k2
  exact lv_irem C.1 C.2.1 hd (fun q => h0 (by show (Int32.ofInt b).toInt = 0; rw [q]; rfl)) k2
theorem ev_land {a b : Int} (hd : decode cc pc = .ok (.land, 1)) (kk : Ev l D cy g K y cc nL rt rm Q cells slots M x μ (pc + 1) al (vl (l_and a b) :: st)) : Ev l D cy g K y cc nL rt rm Q cells slots M x μ pc al (vl b :: vl a :: st) := by
  intro p e s m args below meth c H locs ls C hR hS hl
  have k2 := kk p e s m args below meth c H locs ls C hR hS hl
  unfold vl l_and at k2
  rw [ll] at k2
  exact lv_land C.1 C.2.1 hd k2
theorem ev_lor {a b : Int} (hd : decode cc pc = .ok (.lor, 1)) (kk : Ev l D cy g K y cc nL rt rm Q cells slots M x μ (pc + 1) al (vl (l_or a b) :: st)) : Ev l D cy g K y cc nL rt rm Q cells slots M x μ pc al (vl b :: vl a :: st) := by
  intro p e s m args below meth c H locs ls C hR hS hl
  have k2 := kk p e s m args below meth c H locs ls C hR hS hl
  unfold vl l_or at k2
  rw [ll] at k2
  exact lv_lor C.1 C.2.1 hd k2
theorem ev_ldiv {a b : Int} (hd : decode cc pc = .ok (.ldiv, 1)) (h0 : ¬ w64 b = 0) (kk : Ev l D cy g K y cc nL rt rm Q cells slots M x μ (pc + 1) al (vl (l_div a b) :: st)) : Ev l D cy g K y cc nL rt rm Q cells slots M x μ pc al (vl b :: vl a :: st) := by
  intro p e s m args below meth c H locs ls C hR hS hl
  have k2 := kk p e s m args below meth c H locs ls C hR hS hl
  unfold vl l_div at k2
  rw [ll] at k2
  exact lv_ldiv C.1 C.2.1 hd (fun q => h0 (by show (Int64.ofInt b).toInt = 0; rw [q]; rfl)) k2
theorem ev_lrem {a b : Int} (hd : decode cc pc = .ok (.lrem, 1)) (h0 : ¬ w64 b = 0) (kk : Ev l D cy g K y cc nL rt rm Q cells slots M x μ (pc + 1) al (vl (l_rem a b) :: st)) : Ev l D cy g K y cc nL rt rm Q cells slots M x μ pc al (vl b :: vl a :: st) := by
  intro p e s m args below meth c H locs ls C hR hS hl
  have k2 := kk p e s m args below meth c H locs ls C hR hS hl
  unfold vl l_rem at k2
  rw [ll] at k2
  exact lv_lrem C.1 C.2.1 hd (fun q => h0 (by show (Int64.ofInt b).toInt = 0; rw [q]; rfl)) k2
theorem ev_lshl {a b : Int} (hd : decode cc pc = .ok (.lshl, 1)) (kk : Ev l D cy g K y cc nL rt rm Q cells slots M x μ (pc + 1) al (vl (l_shl a b) :: st)) : Ev l D cy g K y cc nL rt rm Q cells slots M x μ pc al (vi b :: vl a :: st) := by
  intro p e s m args below meth c H locs ls C hR hS hl
  have k2 := kk p e s m args below meth c H locs ls C hR hS hl
  unfold vl l_shl at k2
  rw [ll] at k2
  exact lv_lshl C.1 C.2.1 hd rfl k2
theorem ev_lshr {a b : Int} (hd : decode cc pc = .ok (.lshr, 1)) (kk : Ev l D cy g K y cc nL rt rm Q cells slots M x μ (pc + 1) al (vl (l_shr a b) :: st)) : Ev l D cy g K y cc nL rt rm Q cells slots M x μ pc al (vi b :: vl a :: st) := by
  intro p e s m args below meth c H locs ls C hR hS hl
  have k2 := kk p e s m args below meth c H locs ls C hR hS hl
  unfold vl l_shr at k2
  rw [ll] at k2
  exact lv_lshr C.1 C.2.1 hd rfl k2
theorem ev_lushr {a b : Int} (hd : decode cc pc = .ok (.lushr, 1)) (kk : Ev l D cy g K y cc nL rt rm Q cells slots M x μ (pc + 1) al (vl (l_ushr a b) :: st)) : Ev l D cy g K y cc nL rt rm Q cells slots M x μ pc al (vi b :: vl a :: st) := by
  intro p e s m args below meth c H locs ls C hR hS hl
  have k2 := kk p e s m args below meth c H locs ls C hR hS hl
  unfold vl l_ushr at k2
  rw [ll] at k2
  exact lv_lushr C.1 C.2.1 hd rfl k2
theorem ev_i2l {a : Int} (hd : decode cc pc = .ok (.i2l, 1)) (kk : Ev l D cy g K y cc nL rt rm Q cells slots M x μ (pc + 1) al (vl (w32 a) :: st)) : Ev l D cy g K y cc nL rt rm Q cells slots M x μ pc al (vi a :: st) := by
  intro p e s m args below meth c H locs ls C hR hS hl
  exact lv_i2l C.1 C.2.1 hd (i2l_v a) (kk p e s m args below meth c H locs ls C hR hS hl)
theorem ev_l2i {a : Int} (hd : decode cc pc = .ok (.l2i, 1)) (kk : Ev l D cy g K y cc nL rt rm Q cells slots M x μ (pc + 1) al (vi (l_2i a) :: st)) : Ev l D cy g K y cc nL rt rm Q cells slots M x μ pc al (vl a :: st) := by
  intro p e s m args below meth c H locs ls C hR hS hl
  have k2 := kk p e s m args below meth c H locs ls C hR hS hl
  unfold vi l_2i at k2
  rw [ii] at k2
  exact lv_l2i C.1 C.2.1 hd rfl k2
theorem ev_i2c {a : Int} (hd : decode cc pc = .ok (.i2c, 1)) (kk : Ev l D cy g K y cc nL rt rm Q cells slots M x μ (pc + 1) al (vi (i_2c a) :: st)) : Ev l D cy g K y cc nL rt rm Q cells slots M x μ pc al (vi a :: st) := by
  intro p e s m args below meth c H locs ls C hR hS hl
  have k2 := kk p e s m args below meth c H locs ls C hR hS hl
  unfold vi i_2c at k2
  rw [ii] at k2
  exact lv_i2c C.1 C.2.1 hd rfl k2
theorem i0_eq {a : Int} : Int32.ofInt a = 0 ↔ w32 a = 0 := by
  rw [← Int32.toInt_inj, Int32.toInt_zero]; exact Iff.rfl
theorem i0_lt {a : Int} : Int32.ofInt a < 0 ↔ w32 a < 0 := by
  rw [Int32.lt_iff_toInt_lt, Int32.toInt_zero]; exact Iff.rfl
theorem i0_le {a : Int} : Int32.ofInt a ≤ 0 ↔ w32 a ≤ 0 := by
  rw [Int32.le_iff_toInt_le, Int32.toInt_zero]; exact Iff.rfl
theorem ev_if_eq {a : Int} {off : Int} (tgt : Nat) (hd : decode cc pc = .ok (.ifCond .eq off, 3)) (ht : (pc : Int) + off = (tgt : Int)) (kt : (w32 a = 0) → Ev l D cy g K y cc nL rt rm Q cells slots M x μ tgt al st) (kf : ¬ (w32 a = 0) → Ev l D cy g K y cc nL rt rm Q cells slots M x μ (pc + 3) al st) : Ev l D cy g K y cc nL rt rm Q cells slots M x μ pc al (vi a :: st) := by
  intro p e s m args below meth c H locs ls C hR hS hl
  exact lv_if_eq C.1 C.2.1 hd ht (fun h => kt (i0_eq.mp h) p e s m args below meth c H locs ls C hR hS hl) (fun h => kf (fun q => h (i0_eq.mpr q)) p e s m args below meth c H locs ls C hR hS hl)
theorem ev_if_lt {a : Int} {off : Int} (tgt : Nat) (hd : decode cc pc = .ok (.ifCond .lt off, 3)) (ht : (pc : Int) + off = (tgt : Int)) (kt : (w32 a < 0) → Ev l D cy g K y cc nL rt rm Q cells slots M x μ tgt al st) (kf : ¬ (w32 a < 0) → Ev l D cy g K y cc nL rt rm Q cells slots M x μ (pc + 3) al st) : Ev l D cy g K y cc nL rt rm Q cells slots M x μ pc al (vi a :: st) := by
  intro p e s m args below meth c H locs ls C hR hS hl
  exact lv_if_lt C.1 C.2.1 hd ht (fun h => kt (i0_lt.mp h) p e s m args below meth c H locs ls C hR hS hl) (fun h => kf (fun q => h (i0_lt.mpr q)) p e s m args below meth c H locs ls C hR hS hl)
theorem ev_if_le {a : Int} {off : Int} (tgt : Nat) (hd : decode cc pc = .ok (.ifCond .le off, 3)) (ht : (pc : Int) + off = (tgt : Int)) (kt : (w32 a ≤ 0) → Ev l D cy g K y cc nL rt rm Q cells slots M x μ tgt al st) (kf : ¬ (w32 a ≤ 0) → Ev l D cy g K y cc nL rt rm Q cells slots M x μ (pc + 3) al st) : Ev l D cy g K y cc nL rt rm Q cells slots M x μ pc al (vi a :: st) := by
  intro p e s m args below meth c H locs ls C hR hS hl
  exact lv_if_le C.1 C.2.1 hd ht (fun h => kt (i0_le.mp h) p e s m args below meth c H locs ls C hR hS hl) (fun h => kf (fun q => h (i0_le.mpr q)) p e s m args below meth c H locs ls C hR hS hl)
theorem ev_icmp_eq {a b : Int} {off : Int} (tgt : Nat) (hd : decode cc pc = .ok (.if_icmp .eq off, 3)) (ht : (pc : Int) + off = (tgt : Int)) (kt : (w32 a = w32 b) → Ev l D cy g K y cc nL rt rm Q cells slots M x μ tgt al st) (kf : ¬ (w32 a = w32 b) → Ev l D cy g K y cc nL rt rm Q cells slots M x μ (pc + 3) al st) : Ev l D cy g K y cc nL rt rm Q cells slots M x μ pc al (vi b :: vi a :: st) := by
  intro p e s m args below meth c H locs ls C hR hS hl
  exact lv_icmp_eq C.1 C.2.1 hd ht (fun h => kt (ofInt_inj32.mp h) p e s m args below meth c H locs ls C hR hS hl) (fun h => kf (fun q => h (ofInt_inj32.mpr q)) p e s m args below meth c H locs ls C hR hS hl)
theorem ev_icmp_lt {a b : Int} {off : Int} (tgt : Nat) (hd : decode cc pc = .ok (.if_icmp .lt off, 3)) (ht : (pc : Int) + off = (tgt : Int)) (kt : (w32 a < w32 b) → Ev l D cy g K y cc nL rt rm Q cells slots M x μ tgt al st) (kf : ¬ (w32 a < w32 b) → Ev l D cy g K y cc nL rt rm Q cells slots M x μ (pc + 3) al st) : Ev l D cy g K y cc nL rt rm Q cells slots M x μ pc al (vi b :: vi a :: st) := by
  intro p e s m args below meth c H locs ls C hR hS hl
  exact lv_icmp_lt C.1 C.2.1 hd ht (fun h => kt (ofInt_lt32.mp h) p e s m args below meth c H locs ls C hR hS hl) (fun h => kf (fun q => h (ofInt_lt32.mpr q)) p e s m args below meth c H locs ls C hR hS hl)
theorem ev_icmp_le {a b : Int} {off : Int} (tgt : Nat) (hd : decode cc pc = .ok (.if_icmp .le off, 3)) (ht : (pc : Int) + off = (tgt : Int)) (kt : (w32 a ≤ w32 b) → Ev l D cy g K y cc nL rt rm Q cells slots M x μ tgt al st) (kf : ¬ (w32 a ≤ w32 b) → Ev l D cy g K y cc nL rt rm Q cells slots M x μ (pc + 3) al st) : Ev l D cy g K y cc nL rt rm Q cells slots M x μ pc al (vi b :: vi a :: st) := by
  intro p e s m args below meth c H locs ls C hR hS hl
  exact lv_icmp_le C.1 C.2.1 hd ht (fun h => kt (ofInt_le32.mp h) p e s m args below meth c H locs ls C hR hS hl) (fun h => kf (fun q => h (ofInt_le32.mpr q)) p e s m args below meth c H locs ls C hR hS hl)
end EVR
