/-- a guard: what the code never looks at by itself is no result here -/
def gd {α : Type} (c : Prop) [Decidable c] (a : Option α) : Option α := if c then a else none
theorem gd_elim {α : Type} {c : Prop} [Decidable c] {a : Option α} {o : α} (h : gd c a = some o) : c ∧ a = some o := by
  unfold gd at h
  by_cases hc : c
  · rw [if_pos hc] at h; exact ⟨hc, h⟩
  · rw [if_neg hc] at h; cases h
theorem gd_pos {α : Type} {c : Prop} [Decidable c] {a : Option α} (h : c) : gd c a = a := if_pos h
theorem PE_i (v : Option Value) (M : Nat) (x : Bool) (N : Mem) : PE v M x N v M x N := ⟨rfl, rfl, rfl, rfl⟩
theorem c_rng (a : Int) : 0 ≤ a % 65536 ∧ a % 65536 < 65536 := by omega
theorem dy_Gr {a : Int} (h : a = 5 ∨ a = 15) : isGr a.toNat ∧ 0 ≤ a := by
  rcases h with rfl | rfl
  · exact ⟨Or.inl rfl, by decide⟩
  · exact ⟨Or.inr rfl, by decide⟩
theorem dy_Ct {a : Int} (h : a = 36 ∨ a = 37) : isCt a.toNat ∧ 0 ≤ a := by
  rcases h with rfl | rfl
  · exact ⟨Or.inl rfl, by decide⟩
  · exact ⟨Or.inr rfl, by decide⟩
theorem dy_Wd {a : Int} (h : 1000 ≤ a ∧ a < 1019) : isWd a.toNat ∧ 0 ≤ a := ⟨⟨by omega, by omega⟩, by omega⟩
theorem wd_of {i : Int} {r : Nat} (h : 0 ≤ w32 i ∧ w32 i < 19) (e : r = 1000 + (w32 i).toNat) : isWd r := ⟨by omega, by omega⟩
theorem wmay_b (k : Nat) : vb (wmay.getD k 0 != 0) = vi (wmay.getD k 0) := by
  by_cases h : k < 19
  · have h2 : ∀ k, k < 19 → vb (wmay.getD k 0 != 0) = vi (wmay.getD k 0) := by decide +kernel
    exact h2 k h
  · have : wmay.getD k 0 = 0 := by
      rw [List.getD_eq_getElem?_getD, List.getElem?_eq_none (by show 19 ≤ k; omega)]; rfl
    rw [this]; rfl
def imax (a b : Int) : Int := if w32 a < w32 b then b else a
def imin (a b : Int) : Int := if w32 b < w32 a then b else a
def lmin (a b : Int) : Int := if w64 b < w64 a then b else a
theorem ia_of {r n : Nat} (h : sh r = (1, n)) : sh r = (1, alen r) := by
  have e : alen r = n := by unfold alen; rw [h]
  rw [e]; exact h
theorem al_of {r n : Nat} (h : sh r = (1, n)) (hn : n < 1000000) : alen r < 1000000 := by
  unfold alen; rw [h]; exact hn
/-- so many of a row's first are filled -/
def fill3 (μ : Mem) (k n : Nat) (v : Int) : Mem := fun a j => if a = k ∧ j < n then v else μ a j
theorem flJ0_38 : Cond.fieldLink RJ0 38 "java/lang/String" "COMPACT_STRINGS" "Z" ∈ UW := UW_mem (tb3 (List.mem_of_getElem? (i := 79) rfl)) rfl
theorem flJ0_1053 : Cond.fieldLink RJ0 1053 "jdk/internal/util/Preconditions" "SIOOBE_FORMATTER" "Ljava/util/function/BiFunction;" ∈ UW := UW_mem (tb3 (List.mem_of_getElem? (i := 118) rfl)) rfl
theorem flJ0_15 : Cond.fieldLink RJ0 15 "java/lang/String" "coder" "B" ∈ UW := UW_mem (tb9 (List.mem_of_getElem? (i := 132) rfl)) rfl
theorem flJ0_9 : Cond.fieldLink RJ0 9 "java/lang/String" "value" "[B" ∈ UW := UW_mem (tb9 (List.mem_of_getElem? (i := 133) rfl)) rfl
theorem Cn.ofF {l : Launch} {D : va_G} {cy : Nat → ClassId} {g : Nat → Nat} {K K2 : KT} {y : MethodName} {cc : ByteArray} {nL : Nat} {rt : Option FieldType} {rm : Room} {M : Nat} {x : Bool} {N : Mem} {Φ : Post} {args : List Value} (hy : plainFor y = true) (hlen : (lg_sl args).length ≤ nL)
    (hev : Ev l D cy g K y cc nL rt rm (MX D cy g K2 rm Φ) 0 0 M x N 0 (lv_args 0 args) []) : Cn l D cy g K K2 y cc nL rt rm args M x N Φ := by
  refine va_MetF (cc := cc) (maxL := nL) (ret := rt) hy rfl ?_
  intro p e s m a below meth c s₁ B hml hv
  obtain ⟨rfl, hB, hR⟩ := hv
  have hts : ∀ w ∈ UW, w.before args.toArray s = true := fun w hw => atoms_spec (ws := Cond.code y cc nL rt :: UW) B.pre w (List.mem_cons_of_mem _ hw)
  have hl := lv_entry args (n := nL) hlen
  rw [lg_entry_eq]
  exact hev p e s m args.toArray below meth c s.heap [] _ ⟨B.exec, B.bytes, hml, findClass_of_methodNamed B.named, hts, B.returns, B.notSynchronized, (name_of_methodNamed B.named B.method).1, hB⟩ hR va_S.rf hl
def i_2b (x : Int) : Int := (Int32.ofInt x).toInt8.toInt32.toInt
def sgnL : List Int := [40, 41, 60, 61, 43, 45, 42, 59]
section EVH
variable {l : Launch} {D : va_G} {cy : Nat → ClassId} {g : Nat → Nat} {K : KT} {y : MethodName} {cc : ByteArray} {nL : Nat} {rt : Option FieldType} {rm : Room} {Q : Qty} {cells slots M : Nat} {x : Bool} {N : Mem} {pc : Nat} {al : List (Nat × Value)} {st : List Value}
theorem ev_ldcS (hd : decode cc pc = .ok (.ldc 67, 2)) (hy : y.cls = RX9) (kk : Ev l D cy g K y cc nL rt rm Q cells slots M x N (pc + 2) al (vr g 1022 :: st)) : Ev l D cy g K y cc nL rt rm Q cells slots M x N pc al st := by
  intro p e s m args below meth c H locs ls C hR hS hl
  have hB := C.2.2.2.2.2.2.2.2
  exact va_ldcS C.1 C.2.1 C.2.2.2.1 (by rw [hy]; exact hB.2.2.2.2.2.1) hd (kk p e s m args below meth c H locs ls C hR hS hl)
theorem ev_iushr {a b : Int} (hd : decode cc pc = .ok (.iushr, 1)) (kk : Ev l D cy g K y cc nL rt rm Q cells slots M x N (pc + 1) al (vi (i_ushr a b) :: st)) : Ev l D cy g K y cc nL rt rm Q cells slots M x N pc al (vi b :: vi a :: st) := by
  intro p e s m args below meth c H locs ls C hR hS hl
  have k2 := kk p e s m args below meth c H locs ls C hR hS hl
  unfold vi i_ushr at k2
  rw [ii] at k2
  exact lv_iushr C.1 C.2.1 hd rfl k2
theorem ev_mmax {a b : Int} {ix : Nat} (hd : decode cc pc = .ok (.invokestatic ix, 3)) (hlk : Cond.methodLink y.cls ix yJ9_max_7cf53 ∈ UW) (hrm : 1 ≤ rm.frames ∧ (st.map fun v => v.category).sum + 13 ≤ rm.locals ∧ cells ≤ rm.cells ∧ slots ≤ rm.slots)
    (kk : Ev l D cy g K y cc nL rt rm Q cells slots M x N (pc + 3) al (vi (imax a b) :: st)) : Ev l D cy g K y cc nL rt rm Q cells slots M x N pc al (vi b :: vi a :: st) := by
  intro p e s m args below meth c H locs ls C hR hS hl
  have k2 := kk p e s m args below meth c H locs ls C hR hS hl
  have hts := C.2.2.2.2.1
  have he : vi (imax a b) = .int (if Int32.ofInt a < Int32.ofInt b then Int32.ofInt b else Int32.ofInt a) := by
    unfold imax
    by_cases h : w32 a < w32 b
    · rw [if_pos h, if_pos (ofInt_lt32.mpr h)]
    · rw [if_neg h, if_neg (fun q => h (ofInt_lt32.mp q))]
  rw [he] at k2
  exact va_mmax C.1 C.2.1 (C.2.2.1.trans hl.1.symm) C.2.2.2.1 (hts _ hlk) (hts _ stJ9_max_7cf53) (hts _ iniJ9) (hts _ miJ9_max_7cf53.1) hrm.1 hrm.2.1 hrm.2.2.1 hrm.2.2.2 hd k2
theorem ev_mmin {a b : Int} {ix : Nat} (hd : decode cc pc = .ok (.invokestatic ix, 3)) (hlk : Cond.methodLink y.cls ix yJ9_min_7cf53 ∈ UW) (hrm : 1 ≤ rm.frames ∧ (st.map fun v => v.category).sum + 13 ≤ rm.locals ∧ cells ≤ rm.cells ∧ slots ≤ rm.slots)
    (kk : Ev l D cy g K y cc nL rt rm Q cells slots M x N (pc + 3) al (vi (imin a b) :: st)) : Ev l D cy g K y cc nL rt rm Q cells slots M x N pc al (vi b :: vi a :: st) := by
  intro p e s m args below meth c H locs ls C hR hS hl
  have k2 := kk p e s m args below meth c H locs ls C hR hS hl
  have hts := C.2.2.2.2.1
  have he : vi (imin a b) = .int (if Int32.ofInt b < Int32.ofInt a then Int32.ofInt b else Int32.ofInt a) := by
    unfold imin
    by_cases h : w32 b < w32 a
    · rw [if_pos h, if_pos (ofInt_lt32.mpr h)]
    · rw [if_neg h, if_neg (fun q => h (ofInt_lt32.mp q))]
  rw [he] at k2
  exact va_mmin C.1 C.2.1 (C.2.2.1.trans hl.1.symm) C.2.2.2.1 (hts _ hlk) (hts _ stJ9_min_7cf53) (hts _ iniJ9) (hts _ miJ9_min_7cf53.1) hrm.1 hrm.2.1 hrm.2.2.1 hrm.2.2.2 hd k2
theorem ev_mminL {a b : Int} {ix : Nat} (hd : decode cc pc = .ok (.invokestatic ix, 3)) (hlk : Cond.methodLink y.cls ix yJ9_min_f86c9 ∈ UW) (hrm : 1 ≤ rm.frames ∧ (st.map fun v => v.category).sum + 15 ≤ rm.locals ∧ cells ≤ rm.cells ∧ slots ≤ rm.slots)
    (kk : Ev l D cy g K y cc nL rt rm Q cells slots M x N (pc + 3) al (vl (lmin a b) :: st)) : Ev l D cy g K y cc nL rt rm Q cells slots M x N pc al (vl b :: vl a :: st) := by
  intro p e s m args below meth c H locs ls C hR hS hl
  have k2 := kk p e s m args below meth c H locs ls C hR hS hl
  have hts := C.2.2.2.2.1
  have he : vl (lmin a b) = .long (if Int64.ofInt b < Int64.ofInt a then Int64.ofInt b else Int64.ofInt a) := by
    have hl : Int64.ofInt b < Int64.ofInt a ↔ w64 b < w64 a := Int64.lt_iff_toInt_lt
    unfold lmin
    by_cases h : w64 b < w64 a
    · rw [if_pos h, if_pos (hl.mpr h)]
    · rw [if_neg h, if_neg (fun q => h (hl.mp q))]
  rw [he] at k2
  exact va_mmin_long C.1 C.2.1 (C.2.2.1.trans hl.1.symm) C.2.2.2.1 (hts _ hlk) (hts _ stJ9_min_f86c9) (hts _ iniJ9) (hts _ miJ9_min_f86c9.1) hrm.1 hrm.2.1 hrm.2.2.1 hrm.2.2.2 hd k2
theorem ev_i2b {a : Int} (hd : decode cc pc = .ok (.i2b, 1)) (kk : Ev l D cy g K y cc nL rt rm Q cells slots M x N (pc + 1) al (vi (i_2b a) :: st)) : Ev l D cy g K y cc nL rt rm Q cells slots M x N pc al (vi a :: st) := by
  intro p e s m args below meth c H locs ls C hR hS hl
  have k2 := kk p e s m args below meth c H locs ls C hR hS hl
  unfold vi i_2b at k2
  rw [ii] at k2
  exact lv_i2b C.1 C.2.1 hd rfl k2
theorem ev_strcoder {ix : Nat} (hd : decode cc pc = .ok (.getfield ix, 3)) (hw : Cond.fieldLink y.cls ix "java/lang/String" "coder" "B" ∈ UW) (kk : Ev l D cy g K y cc nL rt rm Q cells slots M x N (pc + 3) al (vi 0 :: st)) : Ev l D cy g K y cc nL rt rm Q cells slots M x N pc al (vr g 1022 :: st) := by
  intro p e s m args below meth c H locs ls C hR hS hl
  obtain ⟨h1, h2, h3, h4, h5, h6, o1, o2, o3, o4, o5, o6, o7, o8, o9, -⟩ := C.2.2.2.2.2.2.2.2
  have hE : va_Ef 1 "java/lang/String" "coder" "B" (fun _ => .int 0) (fun _ => ad g 1022) (AA g) s s.heap := fun i hi => (o9.1 i hi).2.1
  exact va_getX C.1 C.2.1 hE (i := 0) (by omega) hS C.2.2.2.1 (C.2.2.2.2.1 _ hw) (fun _ h => h) hd (kk p e s m args below meth c H locs ls C hR hS hl)
theorem ev_strvalue {ix : Nat} (hd : decode cc pc = .ok (.getfield ix, 3)) (hw : Cond.fieldLink y.cls ix "java/lang/String" "value" "[B" ∈ UW) (kk : Ev l D cy g K y cc nL rt rm Q cells slots M x N (pc + 3) al (vr g 1023 :: st)) : Ev l D cy g K y cc nL rt rm Q cells slots M x N pc al (vr g 1022 :: st) := by
  intro p e s m args below meth c H locs ls C hR hS hl
  obtain ⟨h1, h2, h3, h4, h5, h6, o1, o2, o3, o4, o5, o6, o7, o8, o9, -⟩ := C.2.2.2.2.2.2.2.2
  have hE : va_Ef 1 "java/lang/String" "value" "[B" (fun _ => vr g 1023) (fun _ => ad g 1022) (AA g) s s.heap := fun i hi => (o9.1 i hi).2.2.1
  exact va_getX C.1 C.2.1 hE (i := 0) (by omega) hS C.2.2.2.1 (C.2.2.2.2.1 _ hw) (fun _ h => h) hd (kk p e s m args below meth c H locs ls C hR hS hl)
theorem ev_alenV (hd : decode cc pc = .ok (.arraylength, 1)) (kk : Ev l D cy g K y cc nL rt rm Q cells slots M x N (pc + 1) al (vi ((8 : Nat) : Int) :: st)) : Ev l D cy g K y cc nL rt rm Q cells slots M x N pc al (vr g 1023 :: st) := by
  intro p e s m args below meth c H locs ls C hR hS hl
  obtain ⟨h1, h2, h3, h4, h5, h6, o1, o2, o3, o4, o5, o6, o7, o8, o9, -⟩ := C.2.2.2.2.2.2.2.2
  exact va_tlen C.1 C.2.1 (o9.1 0 (by omega)).2.2.2 hS rfl hd (kk p e s m args below meth c H locs ls C hR hS hl)
theorem ev_baldV {i : Int} (hd : decode cc pc = .ok (.baload, 1)) (hi : 0 ≤ w32 i ∧ w32 i < ((8 : Nat) : Int)) (kk : Ev l D cy g K y cc nL rt rm Q cells slots M x N (pc + 1) al (vi (sgnL.getD (w32 i).toNat 0) :: st)) : Ev l D cy g K y cc nL rt rm Q cells slots M x N pc al (vi i :: vr g 1023 :: st) := by
  intro p e s m args below meth c H locs ls C hR hS hl
  obtain ⟨h1, h2, h3, h4, h5, h6, o1, o2, o3, o4, o5, o6, o7, o8, o9, -⟩ := C.2.2.2.2.2.2.2.2
  refine va_tb C.1 C.2.1 (o9.1 0 (by omega)).2.2.2 hS (inb_vp hi) (v := vi (sgnL.getD (w32 i).toNat 0)) ?_ hd (kk p e s m args below meth c H locs ls C hR hS hl)
  have key : ∀ k, k < 8 → (Value.int (([[40, 41, 60, 61, 43, 45, 42, 59]] : List (List Int32)).getD 0 [] |>.getD k 0)) = vi (sgnL.getD k 0) := by decide +kernel
  exact key (w32 i).toNat (by omega)
theorem ev_getsCS {ix : Nat} (hd : decode cc pc = .ok (.getstatic ix, 3)) (hw : Cond.fieldLink y.cls ix "java/lang/String" "COMPACT_STRINGS" "Z" ∈ UW) (kk : Ev l D cy g K y cc nL rt rm Q cells slots M x N (pc + 3) al (vi 1 :: st)) : Ev l D cy g K y cc nL rt rm Q cells slots M x N pc al st := by
  intro p e s m args below meth c H locs ls C hR hS hl
  obtain ⟨h1, h2, h3, h4, h5, h6, o1, o2, o3, o4, o5, o6, o7, o8, o9, o10, -⟩ := C.2.2.2.2.2.2.2.2
  exact va_gets C.1 C.2.1 o10 hS C.2.2.2.1 (C.2.2.2.2.1 _ hw) (fun _ h => h) hd (kk p e s m args below meth c H locs ls C hR hS hl)
theorem ev_yret {a : Int} {Φ : Post} (hd : decode cc pc = .ok (.ireturn, 1)) (hrt : rt = some .byte) (hc : cells ≤ rm.cells ∧ slots ≤ rm.slots) (hn : narrow .byte (vi a) = vi a) (h : Φ (some (vi a)) M x N) : Ev l D cy g K y cc nL rt rm (MX D cy g K rm Φ) cells slots M x N pc al [vi a] := by
  intro p e s m args below meth c H locs ls C hR hS hl
  refine W.widen hc.1 hc.2 ?_
  exact W.zret C.1 C.2.1 (C.2.2.2.2.2.1.trans hrt) hn (fun t ht _ => ⟨⟨_, M, x, N, rfl, h, by rw [ht]; exact hR⟩, hS.F ht⟩) hS.2.2 hd C.2.2.2.2.2.2.1
variable {y2 : MethodName} {cc2 : ByteArray} {nL2 n2 ix d2 : Nat} {rt2 : Option FieldType} {As : List Value} {N2 : Mem} {V : Value}
theorem cl_T1 (mi : MI y2 cc2 nL2 rt2 n2) (hC : Cn l D cy g K K y2 cc2 nL2 rt2 (rmd d2 0 0) (vr g 1022 :: As) M x N (PE (some V) M x N2))
    (hd : decode cc pc = .ok (.invokevirtual ix, 3)) (hlk : Cond.methodLink y.cls ix y2 ∈ UW) (hin : Cond.instanceMethod y2 ∈ UW ∧ Cond.selects y2.cls y2 y2 ∈ UW) (hn : As.length = n2) (hq : "java/lang/String" = y2.cls)
    (hrm : (d2 + 1 ≤ rm.frames ∧ 8 + (nL2 + 11) + 40 * d2 ≤ rm.locals) ∧ cells ≤ rm.cells ∧ slots ≤ rm.slots) (hst : (st.map fun v => v.category).sum ≤ 8)
    (kk : Ev l D cy g K y cc nL rt rm Q cells slots M x N2 (pc + 3) al (V :: st)) : Ev l D cy g K y cc nL rt rm Q cells slots M x N pc al (As.reverse ++ vr g 1022 :: st) := by
  intro p e s m args below meth c H locs ls C hR hS hl
  have hts := C.2.2.2.2.1
  have hB := C.2.2.2.2.2.2.2.2
  obtain ⟨h1, h2, h3, h4, h5, h6, o1, o2, o3, o4, o5, o6, o7, o8, o9, -⟩ := id hB
  obtain ⟨cell, r1, r2, r3⟩ := vk_recv o9 (i := 0) (by omega) hS
  refine ev_called C hS hl (va_runV (C := y2.cls) ⟨C.1, C.2.1, C.2.2.1, C.2.2.2.1, hts⟩ hC ⟨callB_of n2 hts mi.good rfl rfl rfl (hts _ mi.2.1) (hts _ hlk) mi.2.2 hrm.1, hts _ hin.1, hts _ hin.2⟩
    ⟨pre_blind, ⟨cell, r1, r2, by rw [← hq]; exact r3⟩, pre_of hB hR hS⟩ rfl hn hl.1 rfl (lv_room hst) hd ⟨hrm.2.1, hrm.2.2⟩) (fun v M2 x2 N3 hp => ?_)
  obtain ⟨rfl, rfl, rfl, rfl⟩ := hp
  exact kk
end EVH
/-- Arrays.fill: all of a row -/
theorem fill3_succ (μ : Mem) (k n : Nat) (v : Int) : fill3 μ k (n + 1) v = upd2 (fill3 μ k n v) k n v := by
  funext a j
  unfold fill3 upd2
  by_cases ha : a = k
  · by_cases hj : j = n
    · simp [ha, hj]
    · by_cases hjn : j < n
      · have : j < n + 1 := by omega
        simp [ha, hj, hjn, this]
      · have : ¬ j < n + 1 := by omega
        simp [ha, hj, hjn, this]
  · simp [ha]
theorem fill3_0 (μ : Mem) (k : Nat) (v : Int) : fill3 μ k 0 v = μ := by
  funext a j
  simp [fill3]
theorem tJ7_fill_53178 {l : Launch} {D : va_G} {cy : Nat → ClassId} {g : Nat → Nat} {K : KT} {M : Nat} {x : Bool} {P : Nat → Prop} {L : Mem → Mem} (hS : Sd M K P L) (k : Nat) (v : Int) (μ : Mem) (hk : P k ∧ sh k = (1, alen k)) (hn : alen k < 1000000) {o : Mem} (hf : fill3 μ k (alen k) v = o) :
    Cn l D cy g K K yJ7_fill_53178 cJ7_fill_53178 4 none (rmd 1 0 0) [vr g k, vi v] M x (L μ) (PE none M x (L o)) := by
  subst hf
  refine Cn.ofF (by decide) (Nat.le_of_ble_eq_true rfl) ?_
  have loop : ∀ (c i : Nat), i + c = alen k → Ev l D cy g K yJ7_fill_53178 cJ7_fill_53178 4 none (rmd 1 0 0) (MX D cy g K (rmd 1 0 0) (PE none M x (L (fill3 μ k (alen k) v)))) 0 0 M x (L (fill3 μ k i v)) 5 [(2, vi (i : Int)), (3, vi (alen k : Int)), (0, vr g k), (1, vi v)] [] := by
    intro c
    induction c with
    | zero =>
      intro i hi
      have hi : i = alen k := by omega
      subst hi
      refine ev_iload_n dJ7_fill_53178_5 0 rfl ?_
      refine ev_iload_n dJ7_fill_53178_6 1 rfl ?_
      refine ev_icmp_ge 20 dJ7_fill_53178_7 (by decide) (fun h => ?_) (fun h => by omega)
      exact ev_vret dJ7_fill_53178_20 rfl ⟨Nat.zero_le _, Nat.zero_le _⟩ (PE_i _ _ _ _)
    | succ c ih =>
      intro i hi
      have hw : w32 (i : Int) = i := w32_eq (by omega) (by omega)
      have hw2 : w32 (alen k : Int) = alen k := w32_eq (by omega) (by omega)
      refine ev_iload_n dJ7_fill_53178_5 0 rfl ?_
      refine ev_iload_n dJ7_fill_53178_6 1 rfl ?_
      refine ev_icmp_ge 20 dJ7_fill_53178_7 (by decide) (fun h => by omega) (fun h => ?_)
      refine ev_aload_n dJ7_fill_53178_10 2 rfl ?_
      refine ev_iload_n dJ7_fill_53178_11 0 rfl ?_
      refine ev_iload_n dJ7_fill_53178_12 3 rfl ?_
      refine ev_iast dJ7_fill_53178_13 (hS.lt hk.1) hk.2 (by omega) (N2 := L (fill3 μ k (i + 1) v)) (by rw [hw, Int.toNat_natCast]; exact hS.up hk.1 (fill3_succ μ k i v)) ?_
      refine ev_iinc (al2 := [(2, vi ((i : Int) + 1)), (3, vi (alen k : Int)), (0, vr g k), (1, vi v)]) dJ7_fill_53178_14 0 rfl (by decide) rfl ?_
      refine ev_goto 5 dJ7_fill_53178_17 (by decide) ?_
      have := ih (i + 1) (by omega)
      exact this
  show Ev _ _ _ _ _ _ _ _ _ _ _ _ _ _ _ _ 0 [(0, vr g k), (1, vi v)] []
  refine ev_iconst dJ7_fill_53178_0 ?_
  refine ev_istore_n (al2 := [(2, vi 0), (0, vr g k), (1, vi v)]) dJ7_fill_53178_1 2 rfl (by decide) rfl ?_
  refine ev_aload_n dJ7_fill_53178_2 1 rfl ?_
  refine ev_alen dJ7_fill_53178_3 (hS.lt hk.1) hk.2 (by decide) ?_
  refine ev_istore_n (al2 := [(3, vi (alen k : Int)), (2, vi 0), (0, vr g k), (1, vi v)]) dJ7_fill_53178_4 3 rfl (by decide) rfl ?_
  have := loop (alen k) 0 (by omega)
  rw [fill3_0] at this
  exact ev_sub [1, 0, 2, 3] rfl this
section WRP
variable {l : Launch} {D : va_G} {cy : Nat → ClassId} {g : Nat → Nat} {K : KT} {y : MethodName} {cc : ByteArray} {nL : Nat} {rt : Option FieldType} {rm : Room} {Q : Qty} {cells slots M : Nat} {x : Bool} {N : Mem} {pc : Nat} {al : List (Nat × Value)} {st : List Value}
theorem ev_iaddw {a b : Int} (hd : decode cc pc = .ok (.iadd, 1)) (kk : Ev l D cy g K y cc nL rt rm Q cells slots M x N (pc + 1) al (vi (w32 (a + b)) :: st)) : Ev l D cy g K y cc nL rt rm Q cells slots M x N pc al (vi b :: vi a :: st) := by
  rw [vi_w32] at kk; exact ev_iadd hd kk
theorem ev_isubw {a b : Int} (hd : decode cc pc = .ok (.isub, 1)) (kk : Ev l D cy g K y cc nL rt rm Q cells slots M x N (pc + 1) al (vi (w32 (a - b)) :: st)) : Ev l D cy g K y cc nL rt rm Q cells slots M x N pc al (vi b :: vi a :: st) := by
  rw [vi_w32] at kk; exact ev_isub hd kk
theorem ev_imulw {a b : Int} (hd : decode cc pc = .ok (.imul, 1)) (kk : Ev l D cy g K y cc nL rt rm Q cells slots M x N (pc + 1) al (vi (w32 (a * b)) :: st)) : Ev l D cy g K y cc nL rt rm Q cells slots M x N pc al (vi b :: vi a :: st) := by
  rw [vi_w32] at kk; exact ev_imul hd kk
end WRP
