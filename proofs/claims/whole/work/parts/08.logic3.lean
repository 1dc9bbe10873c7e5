/-- what is settled of a class: its place, its words, its fields' types and names -/
def CI (ci : Nat) (C : String) (T : u_T) (n : Nat) (ty : Nat → FieldType) : Prop :=
  vwCl[ci]? = some (C, T, n) ∧ (ftyL ci).length = n ∧ (∀ w ∈ u_ws C T n, w ∈ UW) ∧ (∀ k, k < n → parseFieldDescriptor (T k).2.2.1 = some (ty k)) ∧ (∀ a, a < n → ∀ b, b < n → a ≠ b → (T a).2.1 ≠ (T b).2.1)
theorem wnm_len : wnm.length = 19 := by decide
theorem char_fits {v : Int} (h : 0 ≤ v ∧ v < 65536) : fits .char (vi v) = true := by
  have e := w32_eq (x := v) (by omega) (by omega)
  have h1 : (0 : Int32) ≤ Int32.ofInt v := Int32.le_iff_toInt_le.mpr (by rw [Int32.toInt_zero]; show 0 ≤ w32 v; omega)
  have h2 : Int32.ofInt v ≤ (65535 : Int32) := Int32.le_iff_toInt_le.mpr (by show w32 v ≤ (65535 : Int32).toInt; rw [show (65535 : Int32).toInt = 65535 from rfl]; omega)
  show (decide (0 ≤ Int32.ofInt v) && decide (Int32.ofInt v ≤ 65535)) = true
  rw [decide_eq_true h1, decide_eq_true h2]; rfl
theorem w_inj {g : Nat → Nat} {U : State} {H : Heap} (o1 : va_En RX10 dW wnm [] (fun i => ad g (1000 + i)) (AA g) U H) {a b : Nat} (ha : 1000 ≤ a ∧ a < 1019) (hb : 1000 ≤ b ∧ b < 1019) (h : ad g a = ad g b) : a = b := by
  obtain ⟨i, rfl⟩ : ∃ i, a = 1000 + i := ⟨a - 1000, by omega⟩
  obtain ⟨j, rfl⟩ : ∃ j, b = 1000 + j := ⟨b - 1000, by omega⟩
  have h2 := o1.2
  rw [wnm_len] at h2
  have := h2 i j (by omega) (by omega) h
  omega
section EVR3
variable {l : Launch} {D : va_G} {cy : Nat → ClassId} {g : Nat → Nat} {K : KT} {y : MethodName} {cc : ByteArray} {nL : Nat} {rt : Option FieldType} {rm : Room} {Q : Qty} {cells slots M : Nat} {x : Bool} {N : Mem} {pc : Nat} {al : List (Nat × Value)} {st : List Value}
theorem ev_get {k ci n ix j : Nat} {C0 : String} {T : u_T} {ty : Nat → FieldType} {nm ds rf : String} (hd : decode cc pc = .ok (.getfield ix, 3)) (hM : k < M) (hs : sh k = (0, ci)) (hC : CI ci C0 T n ty) (hj : j < n) (hl0 : (T j).1 = rf ∧ (T j).2.1 = nm ∧ (T j).2.2.1 = ds) (hw : Cond.fieldLink y.cls ix rf nm ds ∈ UW) (kk : Ev l D cy g K y cc nL rt rm Q cells slots M x N (pc + 3) al (fval g (K k j) (fty ci j) (N k j) :: st)) : Ev l D cy g K y cc nL rt rm Q cells slots M x N pc al (vr g k :: st) := by
  intro p e s m args below meth c H locs ls C hR hS hl
  obtain ⟨e1, e2, e3⟩ := hl0
  subst e1; subst e2; subst e3
  have ha : (wl cy g K M N)[k]? = some (ad g k, .inr (ci, objE g (K k) ci (N k))) := by rw [wl_get hM, hs]; rfl
  exact va_get C.1 C.2.1 C.2.2.2.2.1 hC.2.2.1 C.2.2.2.1 C.2.2.2.2.2.2.2.2.1 hR.1.2 k ha hC.1 j hj (C.2.2.2.2.1 _ hw) (fun _ h => h) (objE_get (by rw [hC.2.1]; exact hj)) hd (kk p e s m args below meth c H locs ls C hR hS hl)
def FW (y : MethodName) (T : u_T) (j ix : Nat) : Prop := Cond.fieldLink y.cls ix (T j).1 (T j).2.1 (T j).2.2.1 ∈ UW
theorem ev_getI {k ci n ix : Nat} {C0 : String} {T : u_T} {ty : Nat → FieldType} {mm : Nat → Int} (j : Nat) (hd : decode cc pc = .ok (.getfield ix, 3)) (hM : k < M) (hs : sh k = (0, ci)) (hm : N k = mm) (hC : CI ci C0 T n ty) (hj : j < n) (ht : fty ci j = 0) (hw : FW y T j ix) (kk : Ev l D cy g K y cc nL rt rm Q cells slots M x N (pc + 3) al (vi (mm j) :: st)) : Ev l D cy g K y cc nL rt rm Q cells slots M x N pc al (vr g k :: st) := by
  subst hm
  refine ev_get (j := j) hd hM hs hC hj ⟨rfl, rfl, rfl⟩ hw ?_
  rw [ht]; exact kk
theorem ev_getJ {k ci n ix : Nat} {C0 : String} {T : u_T} {ty : Nat → FieldType} {mm : Nat → Int} (j : Nat) (hd : decode cc pc = .ok (.getfield ix, 3)) (hM : k < M) (hs : sh k = (0, ci)) (hm : N k = mm) (hC : CI ci C0 T n ty) (hj : j < n) (ht : fty ci j = 1) (hw : FW y T j ix) (kk : Ev l D cy g K y cc nL rt rm Q cells slots M x N (pc + 3) al (vl (mm j) :: st)) : Ev l D cy g K y cc nL rt rm Q cells slots M x N pc al (vr g k :: st) := by
  subst hm
  refine ev_get (j := j) hd hM hs hC hj ⟨rfl, rfl, rfl⟩ hw ?_
  rw [ht]; exact kk
theorem ev_getZ {k ci n ix : Nat} {C0 : String} {T : u_T} {ty : Nat → FieldType} {mm : Nat → Int} (j : Nat) (hd : decode cc pc = .ok (.getfield ix, 3)) (hM : k < M) (hs : sh k = (0, ci)) (hm : N k = mm) (hC : CI ci C0 T n ty) (hj : j < n) (ht : fty ci j = 3) (hw : FW y T j ix) (kk : Ev l D cy g K y cc nL rt rm Q cells slots M x N (pc + 3) al (vb (mm j != 0) :: st)) : Ev l D cy g K y cc nL rt rm Q cells slots M x N pc al (vr g k :: st) := by
  subst hm
  refine ev_get (j := j) hd hM hs hC hj ⟨rfl, rfl, rfl⟩ hw ?_
  rw [ht]; exact kk
theorem ev_getC {k ci n ix : Nat} {C0 : String} {T : u_T} {ty : Nat → FieldType} {mm : Nat → Int} (j : Nat) (hd : decode cc pc = .ok (.getfield ix, 3)) (hM : k < M) (hs : sh k = (0, ci)) (hm : N k = mm) (hC : CI ci C0 T n ty) (hj : j < n) (ht : fty ci j = 4) (hw : FW y T j ix) (kk : Ev l D cy g K y cc nL rt rm Q cells slots M x N (pc + 3) al (vi (mm j % 65536) :: st)) : Ev l D cy g K y cc nL rt rm Q cells slots M x N pc al (vr g k :: st) := by
  subst hm
  refine ev_get (j := j) hd hM hs hC hj ⟨rfl, rfl, rfl⟩ hw ?_
  rw [ht]; exact kk
theorem ev_getK {k ci n ix r : Nat} {C0 : String} {T : u_T} {ty : Nat → FieldType} (j : Nat) (hd : decode cc pc = .ok (.getfield ix, 3)) (hM : k < M) (hs : sh k = (0, ci)) (hK : K k j = some r) (hC : CI ci C0 T n ty) (hj : j < n) (ht : fty ci j = 2) (hw : FW y T j ix) (kk : Ev l D cy g K y cc nL rt rm Q cells slots M x N (pc + 3) al (vr g r :: st)) : Ev l D cy g K y cc nL rt rm Q cells slots M x N pc al (vr g k :: st) := by
  refine ev_get (j := j) hd hM hs hC hj ⟨rfl, rfl, rfl⟩ hw ?_
  rw [ht, hK]; exact kk
theorem ev_getR {k ci n ix : Nat} {C0 : String} {T : u_T} {ty : Nat → FieldType} {mm : Nat → Int} (j : Nat) (hd : decode cc pc = .ok (.getfield ix, 3)) (hM : k < M) (hs : sh k = (0, ci)) (hm : N k = mm) (hK : K k j = none) (h0 : 0 ≤ mm j) (hC : CI ci C0 T n ty) (hj : j < n) (ht : fty ci j = 2) (hw : FW y T j ix) (kk : Ev l D cy g K y cc nL rt rm Q cells slots M x N (pc + 3) al (vr g (mm j).toNat :: st)) : Ev l D cy g K y cc nL rt rm Q cells slots M x N pc al (vr g k :: st) := by
  subst hm
  refine ev_get (j := j) hd hM hs hC hj ⟨rfl, rfl, rfl⟩ hw ?_
  rw [ht, hK]
  have e : fval g none 2 (N k j) = vr g (N k j).toNat := by
    show va_rf (if N k j < 0 then none else some (ad g (N k j).toNat)) = _
    rw [if_neg (by omega)]; rfl
  rw [e]; exact kk
theorem ev_put {k ci n ix j : Nat} {C0 : String} {T : u_T} {ty : Nat → FieldType} {V : Value} {v : Int} {N2 : Mem} (hd : decode cc pc = .ok (.putfield ix, 3)) (hM : k < M) (hs : sh k = (0, ci)) (hC : CI ci C0 T n ty) (hj : j < n) (hfin : (T j).2.2.2 = false ∨ ((T j).2.2.2 = true ∧ y.name = "<init>" ∧ (T j).1 = y.cls)) (hw : FW y T j ix) (hV : V = fval g (K k j) (fty ci j) v) (hn : narrow (ty j) V = V) (hf : fits (ty j) V = true) (hN : N2 = upd2 N k j v) (kk : Ev l D cy g K y cc nL rt rm Q cells slots M x N2 (pc + 3) al st) : Ev l D cy g K y cc nL rt rm Q cells slots M x N pc al (V :: vr g k :: st) := by
  intro p e s m args below meth c H locs ls C hR hS hl
  have hK := C.2.2.2.2.2.2.2.2.1
  have hts := C.2.2.2.2.1
  have ha : (wl cy g K M N)[k]? = some (ad g k, .inr (ci, objE g (K k) ci (N k))) := by rw [wl_get hM, hs]; rfl
  have hap := va_apart (own := y.cls) hts hC.2.2.1 ty hC.2.2.2.1 hC.2.2.2.2 hK hC.1
  obtain ⟨r, h1, cell, q1, q2, q3, q4⟩ := hR.1.2 k _ ha
  have hr : r = (C0, T, n) := Option.some.inj (h1.symm.trans hC.1)
  subst hr
  obtain ⟨hSl, hfc, kC, hkC, hkind⟩ := hK.1 ci _ hC.1
  obtain ⟨cf, kf, fi, f, hi, hsl⟩ := hSl j hj
  have hlay := hts _ (hC.2.2.1 _ (u_in_lay hj))
  have hst := (u_facts hfc hkC (u_lays hts hC.2.2.1 hj) hi).1
  have go : ∀ (H1 : Heap), H1[ad g k]? = some (cell.setSlot (D.2 ci j) V) → H1.size = H.size → (∀ q : Nat, q ≠ ad g k → H1[q]? = H[q]?) → W p l e rm s m args below meth c H1 (locs ++ [⟨ad g k, D.2 ci j⟩]) cells slots (Q below args s) (F0 m (pc + 3) ls st) := by
    intro H1 e1 z oq
    refine kk p e s m args below meth c H1 _ ls C (wrote hM hR hN rfl ?_ z oq) (hS.put z oq (AA_ad (Nat.lt_of_lt_of_le hM hR.1.1))) hl
    rw [hs]
    have hset : (objE g (K k) ci (N k)).set j V = objE g (K k) ci (N2 k) := objE_set (by rw [hV, hN, upd2_self, if_pos rfl]) (fun a ha => by rw [hN, upd2_self, if_neg ha])
    show va_at D vwCl (ad g k, .inr (ci, objE g (K k) ci (N2 k))) H1
    rw [← hset]
    exact ⟨_, hC.1, t_OB.to (V := updV (vp_V (objE g (K k) ci (N k))) j V) ⟨_, e1, q2, q3, t_set q4 hap hj V⟩ (fun a _ => vp_updV_set (by simp [objE, hC.2.1]; exact hj) V a)⟩
  rcases hfin with hfin | ⟨hfin, hini, hdecl⟩
  · unfold u_lay at hlay
    rw [if_neg (by rw [hfin]; decide)] at hlay
    have h6 := u_store hfc hkC hkind hlay hi (hC.2.2.2.1 j hj) hn hf
    refine W.putK C.1 C.2.1 (f := f) ⟨C.2.2.2.1, hts _ hw, ⟨_, _, _, hi⟩, hst⟩ (by rw [q2]; exact h6) q1 q3 (by rw [hsl]; exact k2_hasslot (q4 j hj)) rfl rfl hd fun H1 e1 e2 e3 => ?_
    rw [hsl] at e1 ⊢
    exact go H1 e1 e2 e3
  · unfold u_lay at hlay
    rw [if_pos hfin] at hlay
    have hcf : m.cls = cf := by
      obtain ⟨_, _, c', _, _, _, -, -, hf', -, -, -, hown2, -⟩ := Cond.laysFinal_spec hlay
      have e1 : c' = cf := by have := hi.symm.trans hf'; simp at this; exact this.1.symm
      rw [hdecl] at hown2
      rw [← e1]; exact Option.some.inj (C.2.2.2.1.symm.trans hown2)
    have h6 := u_fits hfc hkC hkind (Or.inr hlay) hi (hC.2.2.2.1 j hj) hn hf
    refine W.putFinK C.1 C.2.1 C.2.2.2.1 (hts _ hw) hi hst hcf (C.2.2.2.2.2.2.2.1.trans hini) (by rw [q2]; exact h6) q1 q3 (by rw [hsl]; exact k2_hasslot (q4 j hj)) rfl rfl hd fun H1 e1 e2 e3 => ?_
    rw [hsl] at e1 ⊢
    exact go H1 e1 e2 e3
theorem ev_putI {k ci n ix : Nat} {C0 : String} {T : u_T} {ty : Nat → FieldType} {N2 : Mem} {v : Int} (j : Nat) (hd : decode cc pc = .ok (.putfield ix, 3)) (hM : k < M) (hs : sh k = (0, ci)) (hC : CI ci C0 T n ty) (hj : j < n) (hfin : (T j).2.2.2 = false ∨ ((T j).2.2.2 = true ∧ y.name = "<init>" ∧ (T j).1 = y.cls)) (ht : fty ci j = 0) (hy : ty j = .int) (hw : FW y T j ix) (hN : N2 = upd2 N k j v) (kk : Ev l D cy g K y cc nL rt rm Q cells slots M x N2 (pc + 3) al st) : Ev l D cy g K y cc nL rt rm Q cells slots M x N pc al (vi v :: vr g k :: st) :=
  ev_put hd hM hs hC hj hfin hw (by rw [ht]; exact rfl) (by rw [hy]; exact rfl) (by rw [hy]; exact rfl) hN kk
theorem ev_putJ {k ci n ix : Nat} {C0 : String} {T : u_T} {ty : Nat → FieldType} {N2 : Mem} {v : Int} (j : Nat) (hd : decode cc pc = .ok (.putfield ix, 3)) (hM : k < M) (hs : sh k = (0, ci)) (hC : CI ci C0 T n ty) (hj : j < n) (hfin : (T j).2.2.2 = false ∨ ((T j).2.2.2 = true ∧ y.name = "<init>" ∧ (T j).1 = y.cls)) (ht : fty ci j = 1) (hy : ty j = .long) (hw : FW y T j ix) (hN : N2 = upd2 N k j v) (kk : Ev l D cy g K y cc nL rt rm Q cells slots M x N2 (pc + 3) al st) : Ev l D cy g K y cc nL rt rm Q cells slots M x N pc al (vl v :: vr g k :: st) :=
  ev_put hd hM hs hC hj hfin hw (by rw [ht]; exact rfl) (by rw [hy]; exact rfl) (by rw [hy]; exact rfl) hN kk
theorem ev_putZ {k ci n ix : Nat} {C0 : String} {T : u_T} {ty : Nat → FieldType} {N2 : Mem} {b : Bool} (j : Nat) (hd : decode cc pc = .ok (.putfield ix, 3)) (hM : k < M) (hs : sh k = (0, ci)) (hC : CI ci C0 T n ty) (hj : j < n) (hfin : (T j).2.2.2 = false ∨ ((T j).2.2.2 = true ∧ y.name = "<init>" ∧ (T j).1 = y.cls)) (ht : fty ci j = 3) (hy : ty j = .boolean) (hw : FW y T j ix) (hN : N2 = upd2 N k j (b2i b)) (kk : Ev l D cy g K y cc nL rt rm Q cells slots M x N2 (pc + 3) al st) : Ev l D cy g K y cc nL rt rm Q cells slots M x N pc al (vb b :: vr g k :: st) :=
  ev_put hd hM hs hC hj hfin hw (by rw [ht]; exact (by cases b <;> rfl)) (by rw [hy]; exact (by cases b <;> rfl)) (by rw [hy]; exact (by cases b <;> rfl)) hN kk
theorem ev_putC {k ci n ix : Nat} {C0 : String} {T : u_T} {ty : Nat → FieldType} {N2 : Mem} {v : Int} (j : Nat) (hd : decode cc pc = .ok (.putfield ix, 3)) (hM : k < M) (hs : sh k = (0, ci)) (hC : CI ci C0 T n ty) (hj : j < n) (hfin : (T j).2.2.2 = false ∨ ((T j).2.2.2 = true ∧ y.name = "<init>" ∧ (T j).1 = y.cls)) (ht : fty ci j = 4) (hy : ty j = .char) (hw : FW y T j ix) (hv : 0 ≤ v ∧ v < 65536) (hN : N2 = upd2 N k j v) (kk : Ev l D cy g K y cc nL rt rm Q cells slots M x N2 (pc + 3) al st) : Ev l D cy g K y cc nL rt rm Q cells slots M x N pc al (vi v :: vr g k :: st) := by
  have e : v % 65536 = v := by omega
  refine ev_put hd hM hs hC hj hfin hw (by rw [ht]; show vi v = vi (v % 65536); rw [e]) (by rw [hy]; have h := nar_cv v; rw [e] at h; exact h) (by rw [hy]; have h := nar_cv v; rw [e] at h; first | rfl | exact char_fits hv) hN kk
theorem ev_putR {k ci n ix : Nat} {C0 : String} {T : u_T} {ty : Nat → FieldType} {N2 : Mem} {r : Nat} (j : Nat) (hd : decode cc pc = .ok (.putfield ix, 3)) (hM : k < M) (hs : sh k = (0, ci)) (hC : CI ci C0 T n ty) (hj : j < n) (hfin : (T j).2.2.2 = false ∨ ((T j).2.2.2 = true ∧ y.name = "<init>" ∧ (T j).1 = y.cls)) (ht : fty ci j = 2) (hw : FW y T j ix) (hK : K k j = none) (hn : ∀ a : Nat, narrow (ty j) (.ref a) = .ref a ∧ fits (ty j) (.ref a) = true) (hN : N2 = upd2 N k j (r : Int)) (kk : Ev l D cy g K y cc nL rt rm Q cells slots M x N2 (pc + 3) al st) : Ev l D cy g K y cc nL rt rm Q cells slots M x N pc al (vr g r :: vr g k :: st) :=
  ev_put hd hM hs hC hj hfin hw (by rw [ht, hK]; show _ = va_rf (if (r : Int) < 0 then none else some (ad g (r : Int).toNat)); rw [if_neg (by omega)]; rfl) (hn _).1 (hn _).2 hN kk
theorem ev_getsW {ix : Nat} {nm : String} (i : Nat) (hd : decode cc pc = .ok (.getstatic ix, 3)) (hi : i < 19) (hnm : wnm.getD i "" = nm) (hw : Cond.fieldLink y.cls ix RX10 nm dW ∈ UW) (kk : Ev l D cy g K y cc nL rt rm Q cells slots M x N (pc + 3) al (vr g (1000 + i) :: st)) : Ev l D cy g K y cc nL rt rm Q cells slots M x N pc al st := by
  intro p e s m args below meth c H locs ls C hR hS hl
  subst hnm
  exact va_gets C.1 C.2.1 (C.2.2.2.2.2.2.2.2.2.2.2.2.2.2.1.1 i hi).1 hS C.2.2.2.1 (C.2.2.2.2.1 _ hw) (fun _ h => h) hd (kk p e s m args below meth c H locs ls C hR hS hl)
theorem ev_getsF {ix : Nat} {host : String} (hd : decode cc pc = .ok (.getstatic ix, 3)) (hw : (y.cls, ix, RX11, "FACTORIALS", "[I", host) ∈ nestF) (kk : Ev l D cy g K y cc nL rt rm Q cells slots M x N (pc + 3) al (vr g 1020 :: st)) : Ev l D cy g K y cc nL rt rm Q cells slots M x N pc al st := by
  intro p e s m args below meth c H locs ls C hR hS hl
  obtain ⟨h1, h2, h3, h4, h5, h6, o1, o2, o3, o4, o5, -⟩ := C.2.2.2.2.2.2.2.2
  exact va_getsN C.1 C.2.1 o5 hS C.2.2.2.1 (va_Nw.use rfl (h3 _ hw)) (fun _ h => h) hd (kk p e s m args below meth c H locs ls C hR hS hl)
theorem ev_getsWs {ix : Nat} {host : String} (hd : decode cc pc = .ok (.getstatic ix, 3)) (hw : (y.cls, ix, RX11, "WORDS", "[LHotCakes$Word;", host) ∈ nestF) (kk : Ev l D cy g K y cc nL rt rm Q cells slots M x N (pc + 3) al (vr g 1021 :: st)) : Ev l D cy g K y cc nL rt rm Q cells slots M x N pc al st := by
  intro p e s m args below meth c H locs ls C hR hS hl
  obtain ⟨h1, h2, h3, h4, h5, h6, o1, o2, o3, o4, o5, o6, o7, -⟩ := C.2.2.2.2.2.2.2.2
  exact va_getsN C.1 C.2.1 o7 hS C.2.2.2.1 (va_Nw.use rfl (h3 _ hw)) (fun _ h => h) hd (kk p e s m args below meth c H locs ls C hR hS hl)
theorem ev_ialdF {i : Int} (hd : decode cc pc = .ok (.iaload, 1)) (hi : 0 ≤ w32 i ∧ w32 i < ((6 : Nat) : Int)) (kk : Ev l D cy g K y cc nL rt rm Q cells slots M x N (pc + 1) al (vi (factL.getD (w32 i).toNat 0) :: st)) : Ev l D cy g K y cc nL rt rm Q cells slots M x N pc al (vi i :: vr g 1020 :: st) := by
  intro p e s m args below meth c H locs ls C hR hS hl
  obtain ⟨h1, h2, h3, h4, h5, h6, o1, o2, o3, o4, o5, o6, o7, -⟩ := C.2.2.2.2.2.2.2.2
  exact va_ti C.1 C.2.1 o6 hS (inb_vp hi) rfl hd (kk p e s m args below meth c H locs ls C hR hS hl)
theorem ev_alenF  (hd : decode cc pc = .ok (.arraylength, 1)) (kk : Ev l D cy g K y cc nL rt rm Q cells slots M x N (pc + 1) al (vi ((6 : Nat) : Int) :: st)) : Ev l D cy g K y cc nL rt rm Q cells slots M x N pc al (vr g 1020 :: st) := by
  intro p e s m args below meth c H locs ls C hR hS hl
  obtain ⟨h1, h2, h3, h4, h5, h6, o1, o2, o3, o4, o5, o6, o7, -⟩ := C.2.2.2.2.2.2.2.2
  exact va_tlen C.1 C.2.1 o6 hS rfl hd (kk p e s m args below meth c H locs ls C hR hS hl)
theorem ev_aaldW {i : Int} (hd : decode cc pc = .ok (.aaload, 1)) (hi : 0 ≤ w32 i ∧ w32 i < ((19 : Nat) : Int)) (kk : Ev l D cy g K y cc nL rt rm Q cells slots M x N (pc + 1) al (vr g (1000 + (w32 i).toNat) :: st)) : Ev l D cy g K y cc nL rt rm Q cells slots M x N pc al (vi i :: vr g 1021 :: st) := by
  intro p e s m args below meth c H locs ls C hR hS hl
  obtain ⟨h1, h2, h3, h4, h5, h6, o1, o2, o3, o4, o5, o6, o7, o8, -⟩ := C.2.2.2.2.2.2.2.2
  exact vb_tq C.1 C.2.1 o8 hS (inb_vp hi) rfl hd (kk p e s m args below meth c H locs ls C hR hS hl)
theorem ev_alenW  (hd : decode cc pc = .ok (.arraylength, 1)) (kk : Ev l D cy g K y cc nL rt rm Q cells slots M x N (pc + 1) al (vi ((19 : Nat) : Int) :: st)) : Ev l D cy g K y cc nL rt rm Q cells slots M x N pc al (vr g 1021 :: st) := by
  intro p e s m args below meth c H locs ls C hR hS hl
  obtain ⟨h1, h2, h3, h4, h5, h6, o1, o2, o3, o4, o5, o6, o7, o8, -⟩ := C.2.2.2.2.2.2.2.2
  exact va_tlen C.1 C.2.1 o8 hS rfl hd (kk p e s m args below meth c H locs ls C hR hS hl)
theorem ev_getWJ {ix k : Nat} (hd : decode cc pc = .ok (.getfield ix, 3)) (hk : 1000 ≤ k ∧ k < 1019) (hw : Cond.fieldLink y.cls ix RX10 "letters" "J" ∈ UW) (kk : Ev l D cy g K y cc nL rt rm Q cells slots M x N (pc + 3) al (vl (wlet.getD (k - 1000) 0) :: st)) : Ev l D cy g K y cc nL rt rm Q cells slots M x N pc al (vr g k :: st) := by
  intro p e s m args below meth c H locs ls C hR hS hl
  obtain ⟨h1, h2, h3, h4, h5, h6, o1, o2, o3, o4, -⟩ := C.2.2.2.2.2.2.2.2
  obtain ⟨i, rfl⟩ : ∃ i, k = 1000 + i := ⟨k - 1000, by omega⟩
  have he : 1000 + i - 1000 = i := by omega
  rw [he] at kk
  exact va_getX C.1 C.2.1 o2 (i := i) (by omega) hS C.2.2.2.1 (C.2.2.2.2.1 _ hw) (fun _ h => h) hd (kk p e s m args below meth c H locs ls C hR hS hl)
theorem ev_getWZ {ix k : Nat} (hd : decode cc pc = .ok (.getfield ix, 3)) (hk : 1000 ≤ k ∧ k < 1019) (hw : Cond.fieldLink y.cls ix RX10 "mayName" "Z" ∈ UW) (kk : Ev l D cy g K y cc nL rt rm Q cells slots M x N (pc + 3) al (vi (wmay.getD (k - 1000) 0) :: st)) : Ev l D cy g K y cc nL rt rm Q cells slots M x N pc al (vr g k :: st) := by
  intro p e s m args below meth c H locs ls C hR hS hl
  obtain ⟨h1, h2, h3, h4, h5, h6, o1, o2, o3, o4, -⟩ := C.2.2.2.2.2.2.2.2
  obtain ⟨i, rfl⟩ : ∃ i, k = 1000 + i := ⟨k - 1000, by omega⟩
  have he : 1000 + i - 1000 = i := by omega
  rw [he] at kk
  exact va_getX C.1 C.2.1 o3 (i := i) (by omega) hS C.2.2.2.1 (C.2.2.2.2.1 _ hw) (fun _ h => h) hd (kk p e s m args below meth c H locs ls C hR hS hl)
theorem ev_getWI {ix k : Nat} (hd : decode cc pc = .ok (.getfield ix, 3)) (hk : 1000 ≤ k ∧ k < 1019) (hw : Cond.fieldLink y.cls ix RX10 "sense" "I" ∈ UW) (kk : Ev l D cy g K y cc nL rt rm Q cells slots M x N (pc + 3) al (vi (wsen.getD (k - 1000) 0) :: st)) : Ev l D cy g K y cc nL rt rm Q cells slots M x N pc al (vr g k :: st) := by
  intro p e s m args below meth c H locs ls C hR hS hl
  obtain ⟨h1, h2, h3, h4, h5, h6, o1, o2, o3, o4, -⟩ := C.2.2.2.2.2.2.2.2
  obtain ⟨i, rfl⟩ : ∃ i, k = 1000 + i := ⟨k - 1000, by omega⟩
  have he : 1000 + i - 1000 = i := by omega
  rw [he] at kk
  exact va_getX C.1 C.2.1 o4 (i := i) (by omega) hS C.2.2.2.1 (C.2.2.2.2.1 _ hw) (fun _ h => h) hd (kk p e s m args below meth c H locs ls C hR hS hl)
theorem ev_acmp_eq {a b : Nat} {off : Int} (tgt : Nat) (hd : decode cc pc = .ok (.if_acmp .eq off, 3)) (ht : (pc : Int) + off = (tgt : Int)) (ha : 1000 ≤ a ∧ a < 1019) (hb : 1000 ≤ b ∧ b < 1019) (kt : a = b → Ev l D cy g K y cc nL rt rm Q cells slots M x N tgt al st) (kf : ¬ a = b → Ev l D cy g K y cc nL rt rm Q cells slots M x N (pc + 3) al st) : Ev l D cy g K y cc nL rt rm Q cells slots M x N pc al (vr g b :: vr g a :: st) := by
  intro p e s m args below meth c H locs ls C hR hS hl
  obtain ⟨h1, h2, h3, h4, h5, h6, o1, -⟩ := C.2.2.2.2.2.2.2.2
  have hin : some (ad g a) = some (ad g b) → a = b := by
    intro z
    exact w_inj o1 ha hb (Option.some.inj z)
  exact lv_acmp_eq C.1 C.2.1 (rx := some (ad g a)) (ry := some (ad g b)) hd ht (fun h => kt (hin h) p e s m args below meth c H locs ls C hR hS hl) (fun h => kf (fun q => h (by rw [q])) p e s m args below meth c H locs ls C hR hS hl)
theorem ev_acmp_ne {a b : Nat} {off : Int} (tgt : Nat) (hd : decode cc pc = .ok (.if_acmp .ne off, 3)) (ht : (pc : Int) + off = (tgt : Int)) (ha : 1000 ≤ a ∧ a < 1019) (hb : 1000 ≤ b ∧ b < 1019) (kt : ¬ a = b → Ev l D cy g K y cc nL rt rm Q cells slots M x N tgt al st) (kf : a = b → Ev l D cy g K y cc nL rt rm Q cells slots M x N (pc + 3) al st) : Ev l D cy g K y cc nL rt rm Q cells slots M x N pc al (vr g b :: vr g a :: st) := by
  intro p e s m args below meth c H locs ls C hR hS hl
  obtain ⟨h1, h2, h3, h4, h5, h6, o1, -⟩ := C.2.2.2.2.2.2.2.2
  have hin : some (ad g a) = some (ad g b) → a = b := by
    intro z
    exact w_inj o1 ha hb (Option.some.inj z)
  exact lv_acmp_ne C.1 C.2.1 (rx := some (ad g a)) (ry := some (ad g b)) hd ht (fun h => kt (fun q => h (by rw [q])) p e s m args below meth c H locs ls C hR hS hl) (fun h => kf (hin h) p e s m args below meth c H locs ls C hR hS hl)
end EVR3
