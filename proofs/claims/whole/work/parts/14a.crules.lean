/-! ===== what constructors do ===== -/
def ups : List (Nat × Nat × Int) → Mem → Mem
  | [], N => N
  | (k, i, v) :: us, N => upd2 (ups us N) k i v
def rdl : List (Nat × Nat × Int) → Nat → Nat → Option Int
  | [], _, _ => none
  | (k, i, v) :: us, a, j => if (a == k && j == i) = true then some v else rdl us a j
theorem upc {us : List (Nat × Nat × Int)} {N : Mem} {k i : Nat} {v : Int} : ups ((k, i, v) :: us) N = upd2 (ups us N) k i v := rfl
theorem upcw {us : List (Nat × Nat × Int)} {N : Mem} {k : Nat} {i v : Int} (j : Nat) (h : (w32 i).toNat = j) : ups ((k, j, v) :: us) N = upd2 (ups us N) k (w32 i).toNat v := by rw [h]; rfl
theorem ups_rd {N : Mem} {v : Int} : ∀ (us : List (Nat × Nat × Int)) (a j : Nat), rdl us a j = some v → ups us N a j = v
  | [], _, _, h => by cases h
  | (k, i, w) :: us, a, j, h => by
    unfold rdl at h
    show (if a = k ∧ j = i then w else ups us N a j) = v
    by_cases hc : (a == k && j == i) = true
    · rw [if_pos hc] at h
      have h2 : a = k ∧ j = i := by simpa using hc
      rw [if_pos h2]; exact Option.some.inj h
    · rw [if_neg hc] at h
      have h2 : ¬ (a = k ∧ j = i) := fun q => hc (by simpa using q)
      rw [if_neg h2]; exact ups_rd us a j h
theorem ups_no {N : Mem} : ∀ (us : List (Nat × Nat × Int)) (a : Nat), us.all (fun q => q.1 != a) = true → ups us N a = N a
  | [], _, _ => rfl
  | (k, i, w) :: us, a, h => by
    have h1 := List.all_cons (a := (k, i, w)) (l := us) (f := fun q => q.1 != a)
    rw [h1, Bool.and_eq_true] at h
    have h2 : a ≠ k := fun e => by have := h.1; simp [e] at this
    exact (upd2_ne h2).trans (ups_no us a h.2)
theorem ups_app {N : Mem} : ∀ (us vs : List (Nat × Nat × Int)), ups us (ups vs N) = ups (us ++ vs) N
  | [], _ => rfl
  | (k, i, w) :: us, vs => congrArg (fun m => upd2 m k i w) (ups_app us vs)
/-- what a new cell holds -/
def dfl (k j : Nat) : Int := if (sh k).1 = 0 then (if fty (sh k).2 j = 2 then -1 else 0) else if 5 ≤ (sh k).1 then -1 else 0
/-- from here on the memory is as new -/
def Fr (M : Nat) (N : Mem) : Prop := ∀ k, M ≤ k → N k = dfl k
theorem fr {M0 M : Nat} {N : Mem} {us : List (Nat × Nat × Int)} (h : Fr M0 N) (hu : us.all (fun q => q.1 != M) = true) (hM : Nat.ble M0 M = true) : ups us N M = dfl M :=
  (ups_no us M hu).trans (h M (Nat.le_of_ble_eq_true hM))
theorem Fr.ups {M0 M : Nat} {N : Mem} {us : List (Nat × Nat × Int)} (h : Fr M0 N) (hu : us.all (fun q => Nat.blt q.1 M) = true) (hM : Nat.ble M0 M = true) : Fr M (ups us N) := by
  intro k hk
  refine (ups_no us k ?_).trans (h k (Nat.le_trans (Nat.le_of_ble_eq_true hM) hk))
  rw [List.all_eq_true] at hu ⊢
  intro q hq
  have h1 := Nat.le_of_ble_eq_true (hu q hq)
  have : q.1 ≠ k := by omega
  simpa using this
def Kr (lo hi : Nat) : KT := fun k => if inR lo hi k = true then Kf k else fun _ => none
theorem wl_snoc {cy : Nat → ClassId} {g : Nat → Nat} {K : KT} {M : Nat} {μ : Mem} : wl cy g K (M + 1) μ = wl cy g K M μ ++ [(ad g M, cellE cy g (K M) (sh M).1 (sh M).2 (μ M))] := by
  simp [wl, List.range_succ]
section CRU
variable {l : Launch} {D : va_G} {cy : Nat → ClassId} {g : Nat → Nat} {K K2 : KT} {y : MethodName} {cc : ByteArray} {nL : Nat} {rt : Option FieldType} {rm : Room} {Q : Qty} {cells slots M : Nat} {x : Bool} {N : Mem} {pc : Nat} {al : List (Nat × Value)} {st : List Value}
theorem grew {H H1 : Heap} (hR : Rq D cy g K M true N H) (hM : M < 1000) (e : va_at D vwCl (ad g M, cellE cy g (K M) (sh M).1 (sh M).2 (N M)) H1) (z : H1.size = ad g M + 1) (o : ∀ q, q < ad g M → H1[q]? = H[q]?) : Rq D cy g K (M + 1) true N H1 := by
  have hz : H.size = ad g M := by rw [ad_lt hM]; exact hR.2 rfl
  refine ⟨⟨by omega, ?_⟩, fun _ => by rw [z, ad_lt hM]; omega⟩
  rw [wl_snoc]
  refine (hR.1.2.kept (fun k x hx => o x.1 (by rw [← hz]; exact (hR.1.2 k x hx).lt))).app (fun k x hx => ?_)
  have hz1 : k < 1 := (List.getElem?_eq_some_iff.mp hx).1
  rw [show k = 0 by omega] at hx
  cases hx
  exact e
theorem grewS {H0 H H1 : Heap} {locs : List Loc} (hS : va_S (AA g) H0 H locs) (hz : H.size = ad g M) (z : H1.size = ad g M + 1) (o : ∀ q, q < ad g M → H1[q]? = H[q]?) : va_S (AA g) H0 H1 locs :=
  ⟨Nat.le_trans hS.1 (by omega), fun x h1 h2 => (o x (by rw [← hz]; exact Nat.lt_of_lt_of_le h1 hS.1)).trans (hS.2.1 x h1 h2), hS.2.2⟩
theorem fresh_at {H : Heap} (hR : Rq D cy g K M true N H) (hM : M < 1000) : H.size = ad g M := by rw [ad_lt hM]; exact hR.2 rfl
theorem ev_new {ix ci n : Nat} {C0 : String} {T : u_T} {ty : Nat → FieldType} (hd : decode cc pc = .ok (.new ix, 3)) (hs : sh M = (0, ci)) (hC : CI ci C0 T n ty) (hcl : Cond.classLink y.cls ix C0 ∈ UW) (hin : Cond.instantiable C0 n ∈ UW) (hini : Cond.initialized C0 ∈ UW) (hM : M < 1000) (hK0 : K M = fun _ => none) (hz : N M = dfl M) (hv : ∀ j, j < n → defaultValue (ty j) = fval g none (fty ci j) (if fty ci j = 2 then -1 else 0)) (hrm : cells + 1 ≤ rm.cells ∧ slots + n ≤ rm.slots) (kk : Ev l D cy g K y cc nL rt rm Q (cells + 1) (slots + n) (M + 1) true N (pc + 3) al (vr g M :: st)) : Ev l D cy g K y cc nL rt rm Q cells slots M true N pc al st := by
  intro p e s m args below meth c H locs ls C hR hS hl
  have hts := C.2.2.2.2.1
  have hK := C.2.2.2.2.2.2.2.2.1
  have hKn := hK.1 ci _ hC.1
  have hz0 := fresh_at hR hM
  refine W.newcK C.1 C.2.1 C.2.2.2.1 (hts _ hcl) (hts _ hin) (hts _ hini) rfl hd hrm.1 hrm.2 hKn.2.1 hz0 fun H1 kC hkC e1 z1 o1 => ?_
  refine kk p e s m args below meth c H1 locs ls C (grew hR hM ?_ z1 o1) (grewS hS hz0 z1 o1) hl
  rw [hs]
  show va_at D vwCl (ad g M, .inr (ci, objE g (K M) ci (N M))) H1
  refine ⟨_, hC.1, (u_born ty hts hC.2.2.1 hKn hkC e1 hC.2.2.2.1).to (fun j hj => (hv j hj).trans ?_)⟩
  show _ = (objE g (K M) ci (N M)).getD j .null
  rw [List.getD_eq_getElem?_getD, objE_get (by rw [hC.2.1]; exact hj), hK0, hz]
  show fval g none (fty ci j) _ = fval g none (fty ci j) (dfl M j)
  unfold dfl
  rw [hs, if_pos rfl]
theorem i_len {i : Int} {n : Nat} (hi : w32 i = n) : ¬ Int32.ofInt i < 0 ∧ (Int32.ofInt i).toNatClampNeg = n := by
  refine ⟨fun q => ?_, ?_⟩
  · have := i0_lt.mp q; omega
  · show (w32 i).toNat = n
    rw [hi]; rfl
theorem d_z {t n : Nat} (hs : sh M = (t, n)) (ht : 1 ≤ t ∧ t ≤ 4) (j : Nat) : dfl M j = 0 := by
  unfold dfl
  rw [hs, if_neg (by show ¬ t = 0; omega), if_neg (by show ¬ 5 ≤ t; omega)]
theorem arI : Cond.arrayClass (newarray.typeOf .int) ∈ UW := UW_mem (tb1 (List.mem_of_getElem? (i := 91) rfl)) rfl
theorem ev_newI {i : Int} {n : Nat} (hd : decode cc pc = .ok (.newarray .int, 2)) (hs : sh M = (1, n)) (hi : w32 i = n) (hn : Nat.ble n 100000 = true) (hM : M < 1000) (hz : N M = dfl M) (hrm : cells + 1 ≤ rm.cells ∧ slots + n ≤ rm.slots) (kk : Ev l D cy g K y cc nL rt rm Q (cells + 1) (slots + n) (M + 1) true N (pc + 2) al (vr g M :: st)) : Ev l D cy g K y cc nL rt rm Q cells slots M true N pc al (vi i :: st) := by
  intro p e s m args below meth c H locs ls C hR hS hl
  have hK := C.2.2.2.2.2.2.2.2.1
  have hz0 := fresh_at hR hM
  have hn2 := Nat.le_of_ble_eq_true hn
  refine va_newaK (atype := .int) C.1 C.2.1 (C.2.2.2.2.1 _ arI) rfl hd rfl (i_len hi).1 (i_len hi).2 (by show n * 4 ≤ 536870912; omega) hrm.1 hrm.2 hz0 fun H1 cA e1 z1 o1 hAr hNm => ?_
  have hcA : cA = cy 0 := Option.some.inj (hNm.symm.trans (hK.2 0 _ rfl).2)
  subst hcA
  refine kk p e s m args below meth c H1 locs ls C (grew hR hM ?_ z1 o1) (grewS hS hz0 z1 o1) hl
  rw [hs]
  show H1[ad g M]? = some (vp_cell (cy 0) (n, .inl (fun j => Int32.ofInt (N M j))))
  rw [e1, vp_cell_i]
  have hf : (fun j => Value.int (Int32.ofInt (N M j))) = fun _ => defaultValue (newarray.typeOf .int) := funext fun j => by rw [hz, d_z hs (by decide)]; rfl
  rw [hf]
theorem arJ : Cond.arrayClass (newarray.typeOf .long) ∈ UW := UW_mem (tb1 (List.mem_of_getElem? (i := 123) rfl)) rfl
theorem ev_newJ {i : Int} {n : Nat} (hd : decode cc pc = .ok (.newarray .long, 2)) (hs : sh M = (2, n)) (hi : w32 i = n) (hn : Nat.ble n 100000 = true) (hM : M < 1000) (hz : N M = dfl M) (hrm : cells + 1 ≤ rm.cells ∧ slots + n ≤ rm.slots) (kk : Ev l D cy g K y cc nL rt rm Q (cells + 1) (slots + n) (M + 1) true N (pc + 2) al (vr g M :: st)) : Ev l D cy g K y cc nL rt rm Q cells slots M true N pc al (vi i :: st) := by
  intro p e s m args below meth c H locs ls C hR hS hl
  have hK := C.2.2.2.2.2.2.2.2.1
  have hz0 := fresh_at hR hM
  have hn2 := Nat.le_of_ble_eq_true hn
  refine va_newaK (atype := .long) C.1 C.2.1 (C.2.2.2.2.1 _ arJ) rfl hd rfl (i_len hi).1 (i_len hi).2 (by show n * 8 ≤ 536870912; omega) hrm.1 hrm.2 hz0 fun H1 cA e1 z1 o1 hAr hNm => ?_
  have hcA : cA = cy 1 := Option.some.inj (hNm.symm.trans (hK.2 1 _ rfl).2)
  subst hcA
  refine kk p e s m args below meth c H1 locs ls C (grew hR hM ?_ z1 o1) (grewS hS hz0 z1 o1) hl
  rw [hs]
  show H1[ad g M]? = some (vp_cell (cy 1) (n, .inr (.inl (fun j => Int64.ofInt (N M j)))))
  rw [e1, vp_cell_l]
  have hf : (fun j => Value.long (Int64.ofInt (N M j))) = fun _ => defaultValue (newarray.typeOf .long) := funext fun j => by rw [hz, d_z hs (by decide)]; rfl
  rw [hf]
theorem arC : Cond.arrayClass (newarray.typeOf .char) ∈ UW := UW_mem (tb1 (List.mem_of_getElem? (i := 68) rfl)) rfl
theorem ev_newC {i : Int} {n : Nat} (hd : decode cc pc = .ok (.newarray .char, 2)) (hs : sh M = (3, n)) (hi : w32 i = n) (hn : Nat.ble n 100000 = true) (hM : M < 1000) (hz : N M = dfl M) (hrm : cells + 1 ≤ rm.cells ∧ slots + n ≤ rm.slots) (kk : Ev l D cy g K y cc nL rt rm Q (cells + 1) (slots + n) (M + 1) true N (pc + 2) al (vr g M :: st)) : Ev l D cy g K y cc nL rt rm Q cells slots M true N pc al (vi i :: st) := by
  intro p e s m args below meth c H locs ls C hR hS hl
  have hK := C.2.2.2.2.2.2.2.2.1
  have hz0 := fresh_at hR hM
  have hn2 := Nat.le_of_ble_eq_true hn
  refine va_newaK (atype := .char) C.1 C.2.1 (C.2.2.2.2.1 _ arC) rfl hd rfl (i_len hi).1 (i_len hi).2 (by show n * 2 ≤ 536870912; omega) hrm.1 hrm.2 hz0 fun H1 cA e1 z1 o1 hAr hNm => ?_
  have hcA : cA = cy 2 := Option.some.inj (hNm.symm.trans (hK.2 2 _ rfl).2)
  subst hcA
  refine kk p e s m args below meth c H1 locs ls C (grew hR hM ?_ z1 o1) (grewS hS hz0 z1 o1) hl
  rw [hs]
  show H1[ad g M]? = some (vp_cell (cy 2) (n, .inl (fun j => Int32.ofInt (N M j % 65536))))
  rw [e1, vp_cell_i]
  have hf : (fun j => Value.int (Int32.ofInt (N M j % 65536))) = fun _ => defaultValue (newarray.typeOf .char) := funext fun j => by rw [hz, d_z hs (by decide)]; rfl
  rw [hf]
theorem arZ : Cond.arrayClass (newarray.typeOf .boolean) ∈ UW := UW_mem (tb7 (List.mem_of_getElem? (i := 163) rfl)) rfl
theorem ev_newZ {i : Int} {n : Nat} (hd : decode cc pc = .ok (.newarray .boolean, 2)) (hs : sh M = (4, n)) (hi : w32 i = n) (hn : Nat.ble n 100000 = true) (hM : M < 1000) (hz : N M = dfl M) (hrm : cells + 1 ≤ rm.cells ∧ slots + n ≤ rm.slots) (kk : Ev l D cy g K y cc nL rt rm Q (cells + 1) (slots + n) (M + 1) true N (pc + 2) al (vr g M :: st)) : Ev l D cy g K y cc nL rt rm Q cells slots M true N pc al (vi i :: st) := by
  intro p e s m args below meth c H locs ls C hR hS hl
  have hK := C.2.2.2.2.2.2.2.2.1
  have hz0 := fresh_at hR hM
  have hn2 := Nat.le_of_ble_eq_true hn
  refine va_newaK (atype := .boolean) C.1 C.2.1 (C.2.2.2.2.1 _ arZ) rfl hd rfl (i_len hi).1 (i_len hi).2 (by show n * 1 ≤ 536870912; omega) hrm.1 hrm.2 hz0 fun H1 cA e1 z1 o1 hAr hNm => ?_
  have hcA : cA = cy 3 := Option.some.inj (hNm.symm.trans (hK.2 3 _ rfl).2)
  subst hcA
  refine kk p e s m args below meth c H1 locs ls C (grew hR hM ?_ z1 o1) (grewS hS hz0 z1 o1) hl
  rw [hs]
  show H1[ad g M]? = some (vp_cell (cy 3) (n, .inl (fun j => Int32.ofInt (b2i (N M j != 0)))))
  rw [e1, vp_cell_i]
  have hf : (fun j => Value.int (Int32.ofInt (b2i (N M j != 0)))) = fun _ => defaultValue (newarray.typeOf .boolean) := funext fun j => by rw [hz, d_z hs (by decide)]; rfl
  rw [hf]
theorem ev_anewM {ix : Nat} {i : Int} {n : Nat} (hd : decode cc pc = .ok (.anewarray ix, 3)) (hcl : Cond.classLink y.cls ix RX5 ∈ UW) (hs : sh M = (5, n)) (hi : w32 i = n) (hn : Nat.ble n 100000 = true) (hM : M < 1000) (hK0 : K M = fun _ => none) (hz : N M = dfl M) (hrm : cells + 1 ≤ rm.cells ∧ slots + n ≤ rm.slots) (kk : Ev l D cy g K y cc nL rt rm Q (cells + 1) (slots + n) (M + 1) true N (pc + 3) al (vr g M :: st)) : Ev l D cy g K y cc nL rt rm Q cells slots M true N pc al (vi i :: st) := by
  intro p e s m args below meth c H locs ls C hR hS hl
  have hts := C.2.2.2.2.1
  have hK := C.2.2.2.2.2.2.2.2.1
  have hz0 := fresh_at hR hM
  have hn2 := Nat.le_of_ble_eq_true hn
  refine W.anew C.1 C.2.1 C.2.2.2.1 (hts _ hcl) (va_AO.use C.2.2.2.2.2.2.2.2.2.2.2.1) rfl hd rfl (i_len hi).1 (by rw [(i_len hi).2]; omega) hrm.1 (by rw [(i_len hi).2]; exact hrm.2) fun cA kA comp f1 f2 f3 f4 => ?_
  obtain ⟨kA', comp', k1, k2, k3, k4⟩ := (hK.2 4 _ rfl).2
  have hcA : cA = cy 4 := Option.some.inj (f1.symm.trans k4)
  subst hcA
  rw [(i_len hi).2, hz0]
  generalize hH1 : H.push ({ cls := cy 4, slots := Array.replicate n .null, vm := .none } : Cell) = H1
  have z1 : H1.size = ad g M + 1 := by rw [← hH1, Array.size_push, hz0]
  have e1 : H1[ad g M]? = some (arrV (cy 4) n (fun _ => .null)) := by rw [← hH1, ← hz0, Array.getElem?_push_size, ← arrV_new]
  have o1 : ∀ q : Nat, q < ad g M → H1[q]? = H[q]? := fun q hq => by rw [← hH1, Array.getElem?_push, if_neg (by rw [hz0]; exact Nat.ne_of_lt hq)]
  refine kk p e s m args below meth c H1 locs ls C (grew hR hM ?_ z1 o1) (grewS hS hz0 z1 o1) hl
  rw [hs]
  show H1[ad g M]? = some (vp_cell (cy 4) (n, .inr (.inr (.inr (.inr (fun j => qv g (K M j) (N M j)))))))
  rw [e1, vp_cell_q]
  have hf : (fun j => va_rf (qv g (K M j) (N M j))) = fun _ => Value.null := funext fun j => by
    rw [hK0, hz]
    have : dfl M j = -1 := by unfold dfl; rw [hs]; rfl
    rw [this]; rfl
  rw [hf]
theorem ev_aastM {i : Int} {k n v j ci : Nat} {r : vw_C} {N2 : Mem} (hd : decode cc pc = .ok (.aastore, 1)) (hM : k < M) (hs : sh k = (5, n)) (hi : 0 ≤ w32 i ∧ w32 i < n) (hj : (w32 i).toNat = j) (hv : v < M) (hsv : sh v = (0, ci)) (hcv : vwCl[ci]? = some r ∧ r.1 = RX5) (hKn : K k j = none) (hN : N2 = upd2 N k j (v : Int)) (kk : Ev l D cy g K y cc nL rt rm Q cells slots M x N2 (pc + 1) al st) : Ev l D cy g K y cc nL rt rm Q cells slots M x N pc al (vr g v :: vi i :: vr g k :: st) := by
  intro p e s m args below meth c H locs ls C hR hS hl
  subst hj
  have hK := C.2.2.2.2.2.2.2.2.1
  have ha : (wl cy g K M N)[k]? = some (ad g k, .inl (cy 4, n, .inr (.inr (.inr (.inr (fun j => qv g (K k j) (N k j))))))) := by rw [wl_get hM, hs]; rfl
  have hav : (wl cy g K M N)[v]? = some (ad g v, .inr (ci, objE g (K v) ci (N v))) := by rw [wl_get hv, hsv]; rfl
  have hin := inb_vp hi
  have hlt : (Int32.ofInt i).toNatClampNeg < n := Nat.not_le.mp fun q => hin (Or.inr q)
  have h0 : ¬ Int32.ofInt i < 0 := fun q => hin (Or.inl q)
  obtain ⟨r', hr', cellV, g1, g2, g3, -⟩ := hR.1.2 v _ hav
  have hcls := (hK.1 ci r hcv.1).2
  obtain ⟨kA, comp, k1, k2, k3, -⟩ := (hK.2 4 _ rfl).2
  have hcomp : comp = D.1 ci := Option.some.inj (k3.symm.trans (by rw [← hcv.2]; exact hcls.1))
  subst hcomp
  obtain ⟨kC, hkC, -⟩ := hcls.2
  refine W.aast C.1 C.2.1 (hR.1.2 k _ ha) (fun q h => by cases h) (fun h => by cases h) k1 k2 rfl hkC ⟨h0, by show _ < (arrV _ _ _).slots.size; rw [arrV_size]; exact hlt⟩ g1 (fun q h => by rw [g3] at h; cases h) (by rw [g2]; exact hkC) (by rw [g2]; exact va_assign hcls) rfl rfl hd fun H1 e1 z oq => ?_
  refine kk p e s m args below meth c H1 _ ls C (wrote hM hR hN rfl ?_ z oq) (hS.put z oq (AA_ad (Nat.lt_of_lt_of_le hM hR.1.1))) hl
  rw [hs]
  show H1[ad g k]? = some (vp_cell (cy 4) (n, .inr (.inr (.inr (.inr (fun j => qv g (K k j) (N2 k j)))))))
  rw [e1]
  rw [vp_cell_q, vp_cell_q, arrV_store]
  congr 2
  funext q
  rw [hN, upd2_self]
  by_cases hq : q = (w32 i).toNat
  · subst hq
    rw [if_pos rfl, hKn]
    have hn : ¬ (v : Int) < 0 := by omega
    show updV _ (w32 i).toNat _ (w32 i).toNat = va_rf (if (v : Int) < 0 then none else some (ad g (v : Int).toNat))
    rw [if_neg hn]
    simp [updV, va_rf]
  · have hq2 : ¬ q = (Int32.ofInt i).toNatClampNeg := hq
    rw [if_neg hq]
    simp [updV, hq2]
theorem ev_anewS {ix : Nat} {i : Int} {n : Nat} (hd : decode cc pc = .ok (.anewarray ix, 3)) (hcl : Cond.classLink y.cls ix RX8 ∈ UW) (hs : sh M = (6, n)) (hi : w32 i = n) (hn : Nat.ble n 100000 = true) (hM : M < 1000) (hK0 : K M = fun _ => none) (hz : N M = dfl M) (hrm : cells + 1 ≤ rm.cells ∧ slots + n ≤ rm.slots) (kk : Ev l D cy g K y cc nL rt rm Q (cells + 1) (slots + n) (M + 1) true N (pc + 3) al (vr g M :: st)) : Ev l D cy g K y cc nL rt rm Q cells slots M true N pc al (vi i :: st) := by
  intro p e s m args below meth c H locs ls C hR hS hl
  have hts := C.2.2.2.2.1
  have hK := C.2.2.2.2.2.2.2.2.1
  have hz0 := fresh_at hR hM
  have hn2 := Nat.le_of_ble_eq_true hn
  refine W.anew C.1 C.2.1 C.2.2.2.1 (hts _ hcl) (va_AO.use C.2.2.2.2.2.2.2.2.2.2.2.2.1) rfl hd rfl (i_len hi).1 (by rw [(i_len hi).2]; omega) hrm.1 (by rw [(i_len hi).2]; exact hrm.2) fun cA kA comp f1 f2 f3 f4 => ?_
  obtain ⟨kA', comp', k1, k2, k3, k4⟩ := (hK.2 5 _ rfl).2
  have hcA : cA = cy 5 := Option.some.inj (f1.symm.trans k4)
  subst hcA
  rw [(i_len hi).2, hz0]
  generalize hH1 : H.push ({ cls := cy 5, slots := Array.replicate n .null, vm := .none } : Cell) = H1
  have z1 : H1.size = ad g M + 1 := by rw [← hH1, Array.size_push, hz0]
  have e1 : H1[ad g M]? = some (arrV (cy 5) n (fun _ => .null)) := by rw [← hH1, ← hz0, Array.getElem?_push_size, ← arrV_new]
  have o1 : ∀ q : Nat, q < ad g M → H1[q]? = H[q]? := fun q hq => by rw [← hH1, Array.getElem?_push, if_neg (by rw [hz0]; exact Nat.ne_of_lt hq)]
  refine kk p e s m args below meth c H1 locs ls C (grew hR hM ?_ z1 o1) (grewS hS hz0 z1 o1) hl
  rw [hs]
  show H1[ad g M]? = some (vp_cell (cy 5) (n, .inr (.inr (.inr (.inr (fun j => qv g (K M j) (N M j)))))))
  rw [e1, vp_cell_q]
  have hf : (fun j => va_rf (qv g (K M j) (N M j))) = fun _ => Value.null := funext fun j => by
    rw [hK0, hz]
    have : dfl M j = -1 := by unfold dfl; rw [hs]; rfl
    rw [this]; rfl
  rw [hf]
theorem ev_aastS {i : Int} {k n v j ci : Nat} {r : vw_C} {N2 : Mem} (hd : decode cc pc = .ok (.aastore, 1)) (hM : k < M) (hs : sh k = (6, n)) (hi : 0 ≤ w32 i ∧ w32 i < n) (hj : (w32 i).toNat = j) (hv : v < M) (hsv : sh v = (0, ci)) (hcv : vwCl[ci]? = some r ∧ r.1 = RX8) (hKn : K k j = none) (hN : N2 = upd2 N k j (v : Int)) (kk : Ev l D cy g K y cc nL rt rm Q cells slots M x N2 (pc + 1) al st) : Ev l D cy g K y cc nL rt rm Q cells slots M x N pc al (vr g v :: vi i :: vr g k :: st) := by
  intro p e s m args below meth c H locs ls C hR hS hl
  subst hj
  have hK := C.2.2.2.2.2.2.2.2.1
  have ha : (wl cy g K M N)[k]? = some (ad g k, .inl (cy 5, n, .inr (.inr (.inr (.inr (fun j => qv g (K k j) (N k j))))))) := by rw [wl_get hM, hs]; rfl
  have hav : (wl cy g K M N)[v]? = some (ad g v, .inr (ci, objE g (K v) ci (N v))) := by rw [wl_get hv, hsv]; rfl
  have hin := inb_vp hi
  have hlt : (Int32.ofInt i).toNatClampNeg < n := Nat.not_le.mp fun q => hin (Or.inr q)
  have h0 : ¬ Int32.ofInt i < 0 := fun q => hin (Or.inl q)
  obtain ⟨r', hr', cellV, g1, g2, g3, -⟩ := hR.1.2 v _ hav
  have hcls := (hK.1 ci r hcv.1).2
  obtain ⟨kA, comp, k1, k2, k3, -⟩ := (hK.2 5 _ rfl).2
  have hcomp : comp = D.1 ci := Option.some.inj (k3.symm.trans (by rw [← hcv.2]; exact hcls.1))
  subst hcomp
  obtain ⟨kC, hkC, -⟩ := hcls.2
  refine W.aast C.1 C.2.1 (hR.1.2 k _ ha) (fun q h => by cases h) (fun h => by cases h) k1 k2 rfl hkC ⟨h0, by show _ < (arrV _ _ _).slots.size; rw [arrV_size]; exact hlt⟩ g1 (fun q h => by rw [g3] at h; cases h) (by rw [g2]; exact hkC) (by rw [g2]; exact va_assign hcls) rfl rfl hd fun H1 e1 z oq => ?_
  refine kk p e s m args below meth c H1 _ ls C (wrote hM hR hN rfl ?_ z oq) (hS.put z oq (AA_ad (Nat.lt_of_lt_of_le hM hR.1.1))) hl
  rw [hs]
  show H1[ad g k]? = some (vp_cell (cy 5) (n, .inr (.inr (.inr (.inr (fun j => qv g (K k j) (N2 k j)))))))
  rw [e1]
  rw [vp_cell_q, vp_cell_q, arrV_store]
  congr 2
  funext q
  rw [hN, upd2_self]
  by_cases hq : q = (w32 i).toNat
  · subst hq
    rw [if_pos rfl, hKn]
    have hn : ¬ (v : Int) < 0 := by omega
    show updV _ (w32 i).toNat _ (w32 i).toNat = va_rf (if (v : Int) < 0 then none else some (ad g (v : Int).toNat))
    rw [if_neg hn]
    simp [updV, va_rf]
  · have hq2 : ¬ q = (Int32.ofInt i).toNatClampNeg := hq
    rw [if_neg hq]
    simp [updV, hq2]
theorem oiI : Cond.instanceMethod objectInit ∈ UW := UW_mem (tb1 (List.mem_of_getElem? (i := 33) rfl)) rfl
theorem oiC : Cond.code objectInit ⟨#[0xb1]⟩ 1 none ∈ UW := UW_mem (tb1 (List.mem_of_getElem? (i := 34) rfl)) rfl
theorem ev_objI {ix : Nat} {v : Nat} (hd : decode cc pc = .ok (.invokespecial ix, 3)) (hlk : Cond.methodLink y.cls ix objectInit ∈ UW) (hf : 1 ≤ rm.frames ∧ 20 ≤ rm.locals) (hst : (st.map fun v => v.category).sum ≤ 8) (kk : Ev l D cy g K y cc nL rt rm Q cells slots M x N (pc + 3) al st) : Ev l D cy g K y cc nL rt rm Q cells slots M x N pc al (vr g v :: st) := by
  intro p e s m args below meth c H locs ls C hR hS hl
  have hts := C.2.2.2.2.1
  exact W.objInit C.1 C.2.1 C.2.2.2.1 (hts _ hlk) (hts _ oiI) (hts _ oiC) rfl (by rw [C.2.2.1]; exact hl.1) rfl hd hf.1 (by have h := hst; have h2 := hf.2; show 2 * 0 + _ + 12 ≤ _; omega) (kk p e s m args below meth c H locs ls C hR hS hl)
/-- cells are settled: what they hold is as it is said to stay -/
theorem ev_fz (h : ∀ k, k < M → ∀ j, K2 k j = K k j ∨ ∃ r, K k j = none ∧ K2 k j = some r ∧ N k j = (r : Int)) (kk : Ev l D cy g K2 y cc nL rt rm Q cells slots M x N pc al st) : Ev l D cy g K y cc nL rt rm Q cells slots M x N pc al st := by
  intro p e s m args below meth c H locs ls C hR hS hl
  refine kk p e s m args below meth c H locs ls C ⟨⟨hR.1.1, ?_⟩, hR.2⟩ hS hl
  have hq : ∀ k, k < M → ∀ j, qv g (K2 k j) (N k j) = qv g (K k j) (N k j) := by
    intro k hk j
    rcases h k hk j with h | ⟨r, h1, h2, h3⟩
    · rw [h]
    · rw [h1, h2, h3]
      show some (ad g r) = if (r : Int) < 0 then none else some (ad g (r : Int).toNat)
      rw [if_neg (by omega)]; rfl
  have hw : wl cy g K2 M N = wl cy g K M N := by
    unfold wl
    refine List.map_congr_left fun k hk => ?_
    have hk := List.mem_range.mp hk
    have hfv : ∀ t j, fval g (K2 k j) t (N k j) = fval g (K k j) t (N k j) := by
      intro t j
      unfold fval
      rw [hq k hk j]
    have ho : ∀ n, objE g (K2 k) n (N k) = objE g (K k) n (N k) := fun n => List.map_congr_left fun j _ => hfv _ _
    have hfn : (fun j => qv g (K2 k j) (N k j)) = fun j => qv g (K k j) (N k j) := funext (hq k hk)
    unfold cellE
    rw [ho, hfn]
  rw [hw]
  exact hR.1.2
end CRU

theorem clL_8 : Cond.classLink RL 8 RX11 ∈ UW := UW_mem (tb1 (List.mem_of_getElem? (i := 27) rfl)) rfl
theorem itX11 : Cond.instantiable RX11 18 ∈ UW := UW_mem (tb1 (List.mem_of_getElem? (i := 28) rfl)) rfl
theorem oiX11 : Cond.methodLink RX11 1 objectInit ∈ UW := UW_mem (tb1 (List.mem_of_getElem? (i := 32) rfl)) rfl
theorem clX11_7 : Cond.classLink RX11 7 RX9 ∈ UW := UW_mem (tb1 (List.mem_of_getElem? (i := 35) rfl)) rfl
theorem itX9 : Cond.instantiable RX9 8 ∈ UW := UW_mem (tb1 (List.mem_of_getElem? (i := 36) rfl)) rfl
theorem oiX9 : Cond.methodLink RX9 3 objectInit ∈ UW := UW_mem (tb1 (List.mem_of_getElem? (i := 40) rfl)) rfl
theorem clX11_16 : Cond.classLink RX11 16 RX6 ∈ UW := UW_mem (tb1 (List.mem_of_getElem? (i := 69) rfl)) rfl
theorem itX6 : Cond.instantiable RX6 5 ∈ UW := UW_mem (tb1 (List.mem_of_getElem? (i := 70) rfl)) rfl
theorem oiX6 : Cond.methodLink RX6 3 objectInit ∈ UW := UW_mem (tb1 (List.mem_of_getElem? (i := 74) rfl)) rfl
theorem clX11_25 : Cond.classLink RX11 25 RX2 ∈ UW := UW_mem (tb1 (List.mem_of_getElem? (i := 92) rfl)) rfl
theorem itX2 : Cond.instantiable RX2 7 ∈ UW := UW_mem (tb1 (List.mem_of_getElem? (i := 93) rfl)) rfl
theorem oiX2 : Cond.methodLink RX2 3 objectInit ∈ UW := UW_mem (tb1 (List.mem_of_getElem? (i := 97) rfl)) rfl
theorem clX2_22 : Cond.classLink RX2 22 RX3 ∈ UW := UW_mem (tb1 (List.mem_of_getElem? (i := 98) rfl)) rfl
theorem itX3 : Cond.instantiable RX3 6 ∈ UW := UW_mem (tb1 (List.mem_of_getElem? (i := 99) rfl)) rfl
theorem oiX3 : Cond.methodLink RX3 3 objectInit ∈ UW := UW_mem (tb1 (List.mem_of_getElem? (i := 103) rfl)) rfl
theorem clX11_35 : Cond.classLink RX11 35 RX7 ∈ UW := UW_mem (tb1 (List.mem_of_getElem? (i := 146) rfl)) rfl
theorem itX7 : Cond.instantiable RX7 18 ∈ UW := UW_mem (tb1 (List.mem_of_getElem? (i := 147) rfl)) rfl
theorem oiX7 : Cond.methodLink RX7 3 objectInit ∈ UW := UW_mem (tb1 (List.mem_of_getElem? (i := 151) rfl)) rfl
theorem clX11_44 : Cond.classLink RX11 44 RX4 ∈ UW := UW_mem (tb2 (List.mem_of_getElem? (i := 66) rfl)) rfl
theorem itX4 : Cond.instantiable RX4 2 ∈ UW := UW_mem (tb2 (List.mem_of_getElem? (i := 67) rfl)) rfl
theorem oiX4 : Cond.methodLink RX4 3 objectInit ∈ UW := UW_mem (tb2 (List.mem_of_getElem? (i := 71) rfl)) rfl
theorem clX11_55 : Cond.classLink RX11 55 RX5 ∈ UW := UW_mem (tb2 (List.mem_of_getElem? (i := 79) rfl)) rfl
theorem itX5 : Cond.instantiable RX5 6 ∈ UW := UW_mem (tb2 (List.mem_of_getElem? (i := 80) rfl)) rfl
theorem oiX5 : Cond.methodLink RX5 3 objectInit ∈ UW := UW_mem (tb2 (List.mem_of_getElem? (i := 84) rfl)) rfl
theorem clX11_73 : Cond.classLink RX11 73 RX8 ∈ UW := UW_mem (tb2 (List.mem_of_getElem? (i := 105) rfl)) rfl
theorem itX8 : Cond.instantiable RX8 6 ∈ UW := UW_mem (tb2 (List.mem_of_getElem? (i := 106) rfl)) rfl
theorem oiX8 : Cond.methodLink RX8 3 objectInit ∈ UW := UW_mem (tb2 (List.mem_of_getElem? (i := 110) rfl)) rfl
theorem clX11_92 : Cond.classLink RX11 92 RX0 ∈ UW := UW_mem (tb2 (List.mem_of_getElem? (i := 131) rfl)) rfl
theorem itX0 : Cond.instantiable RX0 3 ∈ UW := UW_mem (tb2 (List.mem_of_getElem? (i := 132) rfl)) rfl
theorem oiX0 : Cond.methodLink RX0 3 objectInit ∈ UW := UW_mem (tb2 (List.mem_of_getElem? (i := 136) rfl)) rfl
theorem clX11_101 : Cond.classLink RX11 101 RX1 ∈ UW := UW_mem (tb2 (List.mem_of_getElem? (i := 147) rfl)) rfl
theorem itX1 : Cond.instantiable RX1 3 ∈ UW := UW_mem (tb2 (List.mem_of_getElem? (i := 148) rfl)) rfl
theorem oiX1 : Cond.methodLink RX1 3 objectInit ∈ UW := UW_mem (tb2 (List.mem_of_getElem? (i := 152) rfl)) rfl
theorem itX12 : Cond.instantiable RX12 31 ∈ UW := UW_mem (tb7 (List.mem_of_getElem? (i := 20) rfl)) rfl
theorem clL_16 : Cond.classLink RL 16 RX12 ∈ UW := UW_mem (tb7 (List.mem_of_getElem? (i := 22) rfl)) rfl
theorem oiX12 : Cond.methodLink RX12 18 objectInit ∈ UW := UW_mem (tb7 (List.mem_of_getElem? (i := 26) rfl)) rfl
theorem dvX0 (g : Nat → Nat) : ∀ j, j < 3 → defaultValue (tyX0 j) = fval g none (fty 0 j) (if fty 0 j = 2 then -1 else 0) := by
  intro j hj
  match j, hj with
  | 0, _ => rfl
  | 1, _ => rfl
  | 2, _ => rfl
  | k + 3, h => exact absurd h (by omega)
theorem dvX1 (g : Nat → Nat) : ∀ j, j < 3 → defaultValue (tyX1 j) = fval g none (fty 1 j) (if fty 1 j = 2 then -1 else 0) := by
  intro j hj
  match j, hj with
  | 0, _ => rfl
  | 1, _ => rfl
  | 2, _ => rfl
  | k + 3, h => exact absurd h (by omega)
theorem dvX2 (g : Nat → Nat) : ∀ j, j < 7 → defaultValue (tyX2 j) = fval g none (fty 2 j) (if fty 2 j = 2 then -1 else 0) := by
  intro j hj
  match j, hj with
  | 0, _ => rfl
  | 1, _ => rfl
  | 2, _ => rfl
  | 3, _ => rfl
  | 4, _ => rfl
  | 5, _ => rfl
  | 6, _ => rfl
  | k + 7, h => exact absurd h (by omega)
theorem dvX3 (g : Nat → Nat) : ∀ j, j < 6 → defaultValue (tyX3 j) = fval g none (fty 3 j) (if fty 3 j = 2 then -1 else 0) := by
  intro j hj
  match j, hj with
  | 0, _ => rfl
  | 1, _ => rfl
  | 2, _ => rfl
  | 3, _ => rfl
  | 4, _ => rfl
  | 5, _ => rfl
  | k + 6, h => exact absurd h (by omega)
theorem dvX4 (g : Nat → Nat) : ∀ j, j < 2 → defaultValue (tyX4 j) = fval g none (fty 4 j) (if fty 4 j = 2 then -1 else 0) := by
  intro j hj
  match j, hj with
  | 0, _ => rfl
  | 1, _ => rfl
  | k + 2, h => exact absurd h (by omega)
theorem dvX5 (g : Nat → Nat) : ∀ j, j < 6 → defaultValue (tyX5 j) = fval g none (fty 5 j) (if fty 5 j = 2 then -1 else 0) := by
  intro j hj
  match j, hj with
  | 0, _ => rfl
  | 1, _ => rfl
  | 2, _ => rfl
  | 3, _ => rfl
  | 4, _ => rfl
  | 5, _ => rfl
  | k + 6, h => exact absurd h (by omega)
theorem dvX6 (g : Nat → Nat) : ∀ j, j < 5 → defaultValue (tyX6 j) = fval g none (fty 6 j) (if fty 6 j = 2 then -1 else 0) := by
  intro j hj
  match j, hj with
  | 0, _ => rfl
  | 1, _ => rfl
  | 2, _ => rfl
  | 3, _ => rfl
  | 4, _ => rfl
  | k + 5, h => exact absurd h (by omega)
theorem dvX7 (g : Nat → Nat) : ∀ j, j < 18 → defaultValue (tyX7 j) = fval g none (fty 7 j) (if fty 7 j = 2 then -1 else 0) := by
  intro j hj
  match j, hj with
  | 0, _ => rfl
  | 1, _ => rfl
  | 2, _ => rfl
  | 3, _ => rfl
  | 4, _ => rfl
  | 5, _ => rfl
  | 6, _ => rfl
  | 7, _ => rfl
  | 8, _ => rfl
  | 9, _ => rfl
  | 10, _ => rfl
  | 11, _ => rfl
  | 12, _ => rfl
  | 13, _ => rfl
  | 14, _ => rfl
  | 15, _ => rfl
  | 16, _ => rfl
  | 17, _ => rfl
  | k + 18, h => exact absurd h (by omega)
theorem dvX8 (g : Nat → Nat) : ∀ j, j < 6 → defaultValue (tyX8 j) = fval g none (fty 8 j) (if fty 8 j = 2 then -1 else 0) := by
  intro j hj
  match j, hj with
  | 0, _ => rfl
  | 1, _ => rfl
  | 2, _ => rfl
  | 3, _ => rfl
  | 4, _ => rfl
  | 5, _ => rfl
  | k + 6, h => exact absurd h (by omega)
theorem dvX9 (g : Nat → Nat) : ∀ j, j < 8 → defaultValue (tyX9 j) = fval g none (fty 9 j) (if fty 9 j = 2 then -1 else 0) := by
  intro j hj
  match j, hj with
  | 0, _ => rfl
  | 1, _ => rfl
  | 2, _ => rfl
  | 3, _ => rfl
  | 4, _ => rfl
  | 5, _ => rfl
  | 6, _ => rfl
  | 7, _ => rfl
  | k + 8, h => exact absurd h (by omega)
theorem dvX11 (g : Nat → Nat) : ∀ j, j < 18 → defaultValue (tyX11 j) = fval g none (fty 10 j) (if fty 10 j = 2 then -1 else 0) := by
  intro j hj
  match j, hj with
  | 0, _ => rfl
  | 1, _ => rfl
  | 2, _ => rfl
  | 3, _ => rfl
  | 4, _ => rfl
  | 5, _ => rfl
  | 6, _ => rfl
  | 7, _ => rfl
  | 8, _ => rfl
  | 9, _ => rfl
  | 10, _ => rfl
  | 11, _ => rfl
  | 12, _ => rfl
  | 13, _ => rfl
  | 14, _ => rfl
  | 15, _ => rfl
  | 16, _ => rfl
  | 17, _ => rfl
  | k + 18, h => exact absurd h (by omega)
theorem dvX12 (g : Nat → Nat) : ∀ j, j < 31 → defaultValue (tyX12 j) = fval g none (fty 11 j) (if fty 11 j = 2 then -1 else 0) := by
  intro j hj
  match j, hj with
  | 0, _ => rfl
  | 1, _ => rfl
  | 2, _ => rfl
  | 3, _ => rfl
  | 4, _ => rfl
  | 5, _ => rfl
  | 6, _ => rfl
  | 7, _ => rfl
  | 8, _ => rfl
  | 9, _ => rfl
  | 10, _ => rfl
  | 11, _ => rfl
  | 12, _ => rfl
  | 13, _ => rfl
  | 14, _ => rfl
  | 15, _ => rfl
  | 16, _ => rfl
  | 17, _ => rfl
  | 18, _ => rfl
  | 19, _ => rfl
  | 20, _ => rfl
  | 21, _ => rfl
  | 22, _ => rfl
  | 23, _ => rfl
  | 24, _ => rfl
  | 25, _ => rfl
  | 26, _ => rfl
  | 27, _ => rfl
  | 28, _ => rfl
  | 29, _ => rfl
  | 30, _ => rfl
  | k + 31, h => exact absurd h (by omega)
