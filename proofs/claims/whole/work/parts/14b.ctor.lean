def LR (lo hi : Nat) (N μ : Mem) : Mem := fun k => if inR lo hi k = true then μ k else N k
theorem LR_self {lo hi : Nat} {N : Mem} : N = LR lo hi N N := by
  funext k; unfold LR; split <;> rfl
theorem LR_hyp {lo hi : Nat} {N : Mem} {α : Type} {f : Mem → α} {r : α} (h : f (LR lo hi N N) = r) : f N = r := by
  rw [← LR_self] at h; exact h
theorem sdR {M lo hi : Nat} {K : KT} {N : Mem} (h : hi ≤ M) (hK : ∀ k, inR lo hi k = true → K k = Kf k) : Sd M K (fun k => inR lo hi k = true) (LR lo hi N) := by
  refine ⟨fun k hk => Nat.lt_of_lt_of_le (inR_iff.mp hk).2 h, fun μ k hk => if_pos hk, fun μ k i v hk => ?_, fun μ k v hk => ?_, hK⟩
  · funext a j
    by_cases ha : a = k
    · subst ha; simp [LR, hk, upd2]
    · by_cases h2 : inR lo hi a = true <;> simp [LR, h2, upd2, ha]
  · funext a j
    by_cases ha : a = k
    · subst ha; simp [LR, hk, fil2]
    · by_cases h2 : inR lo hi a = true <;> simp [LR, h2, fil2, ha]
theorem ups_LR {lo hi k : Nat} {N μ : Mem} : ∀ (us : List (Nat × Nat × Int)) (j : Nat), inR lo hi k = false → ups us (LR lo hi N μ) k j = ups us N k j
  | [], j, h => congrFun (if_neg (by rw [h]; decide)) j
  | (a, i, v) :: us, j, h => by
    show (if k = a ∧ j = i then v else _) = (if k = a ∧ j = i then v else _)
    rw [ups_LR us j h]
theorem Kr_in {lo hi k : Nat} (h : inR lo hi k = true) : Kr lo hi k = Kf k := if_pos h
theorem frLR {lo hi M : Nat} {N μ : Mem} (h : Fr M N) (hh : Nat.ble hi M = true) : Fr M (LR lo hi N μ) := by
  intro k hk
  have h1 := Nat.le_of_ble_eq_true hh
  unfold LR
  rw [if_neg (fun q => by have := (inR_iff.mp q).2; omega)]
  exact h k hk
def setT : List (Nat × Nat × Nat) := (List.range 97).flatMap fun k => (List.range 31).filterMap fun j => (Kf k j).map fun r => (k, j, r)
theorem KL_len : KL.length = 97 := by decide
theorem KL_row : KL.all (fun r => Nat.ble r.length 31) = true := by decide +kernel
theorem setT_in {k j r : Nat} (h : Kf k j = some r) : (k, j, r) ∈ setT := by
  have hk : k < 97 := by
    apply Nat.lt_of_not_le; intro q
    unfold Kf at h
    rw [List.getD_eq_getElem?_getD (l := KL), List.getElem?_eq_none (by rw [KL_len]; exact q)] at h
    cases h
  have hj : j < 31 := by
    apply Nat.lt_of_not_le; intro q
    unfold Kf at h
    have hr : (KL.getD k []).length ≤ 31 := by
      rw [List.getD_eq_getElem?_getD, List.getElem?_eq_getElem (by rw [KL_len]; exact hk)]
      exact Nat.le_of_ble_eq_true (List.all_eq_true.mp KL_row _ (List.getElem_mem _))
    rw [List.getD_eq_getElem?_getD (l := KL.getD k []), List.getElem?_eq_none (by omega)] at h
    cases h
  unfold setT
  rw [List.mem_flatMap]
  refine ⟨k, List.mem_range.mpr hk, ?_⟩
  rw [List.mem_filterMap]
  exact ⟨j, List.mem_range.mpr hj, by rw [h]; rfl⟩
theorem fz {M lo hi lo2 hi2 : Nat} {N : Mem} (h : ∀ q ∈ setT, inR lo2 hi2 q.1 = true → inR lo hi q.1 = false → q.1 < M → N q.1 q.2.1 = (q.2.2 : Int)) (hm : (Nat.ble hi lo || (Nat.ble lo2 lo && Nat.ble hi hi2)) = true) : ∀ k, k < M → ∀ j, Kr lo2 hi2 k j = Kr lo hi k j ∨ ∃ r, Kr lo hi k j = none ∧ Kr lo2 hi2 k j = some r ∧ N k j = (r : Int) := by
  intro k hk j
  unfold Kr
  by_cases h1 : inR lo hi k = true
  · have h2 : inR lo2 hi2 k = true := by
      rcases Bool.or_eq_true _ _ ▸ hm with q | q
      · have a := inR_iff.mp h1
        have b := Nat.le_of_ble_eq_true q
        omega
      · have q2 := (Bool.and_eq_true _ _).mp q
        exact inR_w h1 q2.1 q2.2
    rw [if_pos h1, if_pos h2]; exact Or.inl rfl
  · rw [if_neg h1]
    by_cases h2 : inR lo2 hi2 k = true
    · rw [if_pos h2]
      cases hq : Kf k j with
      | none => exact Or.inl rfl
      | some r => exact Or.inr ⟨r, rfl, rfl, h _ (setT_in hq) h2 (Bool.eq_false_iff.mpr h1) hk⟩
    · rw [if_neg h2]; exact Or.inl rfl
theorem fz_us {M lo hi lo2 hi2 : Nat} {N : Mem} (us : List (Nat × Nat × Int)) (h : setT.all (fun q => !(inR lo2 hi2 q.1 && !(inR lo hi q.1) && Nat.blt q.1 M) || decide (rdl us q.1 q.2.1 = some (q.2.2 : Int))) = true) : ∀ q ∈ setT, inR lo2 hi2 q.1 = true → inR lo hi q.1 = false → q.1 < M → ups us N q.1 q.2.1 = (q.2.2 : Int) := by
  intro q hq h1 h2 h3
  have h4 := List.all_eq_true.mp h q hq
  rw [h1, h2, show Nat.blt q.1 M = true from Nat.ble_eq_true_of_le h3] at h4
  exact ups_rd us _ _ (of_decide_eq_true (by simpa using h4))
section CTO
variable {l : Launch} {D : va_G} {cy : Nat → ClassId} {g : Nat → Nat} {K K2 : KT} {y : MethodName} {cc : ByteArray} {nL : Nat} {rt : Option FieldType} {rm : Room} {Q : Qty} {cells slots M : Nat} {x : Bool} {N : Mem} {pc : Nat} {al : List (Nat × Value)} {st : List Value}
theorem ev_mem {N2 : Mem} (h : N = N2) (kk : Ev l D cy g K y cc nL rt rm Q cells slots M x N2 pc al st) : Ev l D cy g K y cc nL rt rm Q cells slots M x N pc al st := by rw [h]; exact kk
theorem ev_al {al2 : List (Nat × Value)} (h : al = al2) (kk : Ev l D cy g K y cc nL rt rm Q cells slots M x N pc al2 st) : Ev l D cy g K y cc nL rt rm Q cells slots M x N pc al st := by rw [h]; exact kk
theorem ev_getRv {k ci n ix : Nat} {C0 : String} {T : u_T} {ty : Nat → FieldType} (j r : Nat) (hd : decode cc pc = .ok (.getfield ix, 3)) (hM : k < M) (hs : sh k = (0, ci)) (hv : N k j = (r : Int)) (hK : K k j = none) (hC : CI ci C0 T n ty) (hj : j < n) (ht : fty ci j = 2) (hw : FW y T j ix) (kk : Ev l D cy g K y cc nL rt rm Q cells slots M x N (pc + 3) al (vr g r :: st)) : Ev l D cy g K y cc nL rt rm Q cells slots M x N pc al (vr g k :: st) := by
  refine ev_getR j hd hM hs rfl hK (by rw [hv]; omega) hC hj ht hw ?_
  rw [hv]; exact kk
theorem ev_putZi {k ci n ix : Nat} {C0 : String} {T : u_T} {ty : Nat → FieldType} {N2 : Mem} {v : Int} (j : Nat) (hd : decode cc pc = .ok (.putfield ix, 3)) (hM : k < M) (hs : sh k = (0, ci)) (hC : CI ci C0 T n ty) (hj : j < n) (hfin : (T j).2.2.2 = false ∨ ((T j).2.2.2 = true ∧ y.name = "<init>" ∧ (T j).1 = y.cls)) (ht : fty ci j = 3) (hy : ty j = .boolean) (hw : FW y T j ix) (hv : v = 0 ∨ v = 1) (hN : N2 = upd2 N k j v) (kk : Ev l D cy g K y cc nL rt rm Q cells slots M x N2 (pc + 3) al st) : Ev l D cy g K y cc nL rt rm Q cells slots M x N pc al (vi v :: vr g k :: st) := by
  rcases hv with rfl | rfl
  · exact ev_putZ (b := false) j hd hM hs hC hj hfin ht hy hw hN kk
  · exact ev_putZ (b := true) j hd hM hs hC hj hfin ht hy hw hN kk
variable {y2 : MethodName} {cc2 : ByteArray} {nL2 n2 ix d2 c2 s2 M2 : Nat} {As : List Value} {N2 : Mem}
theorem cl_I {k : Nat} (mi : MI y2 cc2 nL2 none n2) (hC : Cn l D cy g K K2 y2 cc2 nL2 none (rmd d2 c2 s2) (vr g k :: As) M true N (PE none M2 true N2)) (hd : decode cc pc = .ok (.invokespecial ix, 3)) (hlk : Cond.methodLink y.cls ix y2 ∈ UW) (hin : y2.name = "<init>" ∧ Cond.instanceMethod y2 ∈ UW) (hn : As.length = n2) (hrm : (d2 + 1 ≤ rm.frames ∧ 8 + (nL2 + 11) + 40 * d2 ≤ rm.locals) ∧ cells + c2 ≤ rm.cells ∧ slots + s2 ≤ rm.slots) (hst : (st.map fun v => v.category).sum ≤ 8) (kk : Ev l D cy g K2 y cc nL rt rm Q (cells + c2) (slots + s2) M2 true N2 (pc + 3) al st) : Ev l D cy g K y cc nL rt rm Q cells slots M true N pc al (As.reverse ++ vr g k :: st) := by
  refine ev_callI mi hC hd hlk hin hn ⟨hrm.1, hrm.2⟩ hst (fun v M3 x3 N3 hp => ?_)
  obtain ⟨rfl, rfl, rfl, rfl⟩ := hp
  exact kk
theorem cl_IN {k : Nat} {host : String} (mi : MI y2 cc2 nL2 none n2) (hC : Cn l D cy g K K2 y2 cc2 nL2 none (rmd d2 c2 s2) (vr g k :: As) M true N (PE none M2 true N2)) (hd : decode cc pc = .ok (.invokespecial ix, 3)) (hlk : (y.cls, ix, y2, host) ∈ nestM) (hin : y2.name = "<init>" ∧ Cond.instanceMethod y2 ∈ UW) (hn : As.length = n2) (hrm : (d2 + 1 ≤ rm.frames ∧ 8 + (nL2 + 11) + 40 * d2 ≤ rm.locals) ∧ cells + c2 ≤ rm.cells ∧ slots + s2 ≤ rm.slots) (hst : (st.map fun v => v.category).sum ≤ 8) (kk : Ev l D cy g K2 y cc nL rt rm Q (cells + c2) (slots + s2) M2 true N2 (pc + 3) al st) : Ev l D cy g K y cc nL rt rm Q cells slots M true N pc al (As.reverse ++ vr g k :: st) := by
  refine ev_callIN mi hC hd hlk hin hn ⟨hrm.1, hrm.2⟩ hst (fun v M3 x3 N3 hp => ?_)
  obtain ⟨rfl, rfl, rfl, rfl⟩ := hp
  exact kk
variable {l : Launch} {D : va_G} {cy : Nat → ClassId} {g : Nat → Nat} {N : Mem}
set_option maxRecDepth 8000 in
theorem tc1 (hF : Fr 2 N)   : Cn l D cy g (Kr 0 0) (Kr 0 0) yX9_init cX9_init 1 none (rmd 1 1 1000) [vr g 1] 2 true N (PE none 3 true (ups [(1, 7, 1000), (1, 4, 101), (1, 0, 2)] N)) := by
  refine Cn.of (by decide) (Nat.le_of_ble_eq_true rfl) ?_
  refine ev_al (al2 := [(0, vr g 1)]) rfl ?_
  refine ev_mem (N2 := ups [] N) rfl ?_
  refine ev_aload_n dX9_init_0 0 rfl ?_
  refine ev_objI dX9_init_1 oiX9 ⟨Nat.le_of_ble_eq_true rfl, Nat.le_of_ble_eq_true rfl⟩ (Nat.le_of_ble_eq_true rfl) ?_
  refine ev_aload_n dX9_init_4 0 rfl ?_
  refine ev_sipush dX9_init_5 rfl ?_
  refine ev_newC dX9_init_8 rfl (by decide) rfl (by decide) (fr hF rfl rfl) ⟨Nat.le_of_ble_eq_true rfl, Nat.le_of_ble_eq_true rfl⟩ ?_
  refine ev_putR 0 dX9_init_10 (by decide) rfl ciX9 (by decide) (Or.inr ⟨rfl, rfl, rfl⟩) rfl flX9_9 rfl (fun _ => ⟨rfl, rfl⟩) upc ?_
  refine ev_aload_n dX9_init_13 0 rfl ?_
  refine ev_bipush dX9_init_14 rfl ?_
  refine ev_putC 4 dX9_init_16 (by decide) rfl ciX9 (by decide) (Or.inl rfl) rfl rfl flX9_15 (by decide) upc ?_
  refine ev_aload_n dX9_init_19 0 rfl ?_
  refine ev_getsW 0 dX9_init_20 (by decide) rfl flX9_19 ?_
  refine ev_putR 7 dX9_init_23 (by decide) rfl ciX9 (by decide) (Or.inl rfl) rfl flX9_25 rfl (fun _ => ⟨rfl, rfl⟩) upc ?_
  exact ev_vret dX9_init_26 rfl ⟨Nat.le_of_ble_eq_true rfl, Nat.le_of_ble_eq_true rfl⟩ ⟨rfl, rfl, rfl, rfl⟩
set_option maxRecDepth 8000 in
theorem tc3 (hF : Fr 4 N)   : Cn l D cy g (Kr 0 0) (Kr 0 0) yX6_init cX6_init 2 none (rmd 1 1 40) [vr g 3, vr g 1] 4 true N (PE none 5 true (ups [(3, 0, 1), (3, 2, 4)] N)) := by
  refine Cn.of (by decide) (Nat.le_of_ble_eq_true rfl) ?_
  refine ev_al (al2 := [(0, vr g 3), (1, vr g 1)]) rfl ?_
  refine ev_mem (N2 := ups [] N) rfl ?_
  refine ev_aload_n dX6_init_0 0 rfl ?_
  refine ev_objI dX6_init_1 oiX6 ⟨Nat.le_of_ble_eq_true rfl, Nat.le_of_ble_eq_true rfl⟩ (Nat.le_of_ble_eq_true rfl) ?_
  refine ev_aload_n dX6_init_4 0 rfl ?_
  refine ev_bipush dX6_init_5 rfl ?_
  refine ev_newI dX6_init_7 rfl (by decide) rfl (by decide) (fr hF rfl rfl) ⟨Nat.le_of_ble_eq_true rfl, Nat.le_of_ble_eq_true rfl⟩ ?_
  refine ev_putR 2 dX6_init_9 (by decide) rfl ciX6 (by decide) (Or.inr ⟨rfl, rfl, rfl⟩) rfl flX6_9 rfl (fun _ => ⟨rfl, rfl⟩) upc ?_
  refine ev_aload_n dX6_init_12 0 rfl ?_
  refine ev_aload_n dX6_init_13 1 rfl ?_
  refine ev_putR 0 dX6_init_14 (by decide) rfl ciX6 (by decide) (Or.inr ⟨rfl, rfl, rfl⟩) rfl flX6_15 rfl (fun _ => ⟨rfl, rfl⟩) upc ?_
  exact ev_vret dX6_init_17 rfl ⟨Nat.le_of_ble_eq_true rfl, Nat.le_of_ble_eq_true rfl⟩ ⟨rfl, rfl, rfl, rfl⟩
set_option maxRecDepth 8000 in
theorem tc9 (hF : Fr 10 N)   : Cn l D cy g (Kr 0 0) (Kr 0 0) yX3_init cX3_init 2 none (rmd 1 2 1032) [vr g 9, vi 0] 10 true N (PE none 12 true (ups [(9, 0, 0), (9, 2, 11), (9, 1, 10)] N)) := by
  refine Cn.of (by decide) (Nat.le_of_ble_eq_true rfl) ?_
  refine ev_al (al2 := [(0, vr g 9), (1, vi 0)]) rfl ?_
  refine ev_mem (N2 := ups [] N) rfl ?_
  refine ev_aload_n dX3_init_0 0 rfl ?_
  refine ev_objI dX3_init_1 oiX3 ⟨Nat.le_of_ble_eq_true rfl, Nat.le_of_ble_eq_true rfl⟩ (Nat.le_of_ble_eq_true rfl) ?_
  refine ev_aload_n dX3_init_4 0 rfl ?_
  refine ev_sipush dX3_init_5 rfl ?_
  refine ev_newI dX3_init_8 rfl (by decide) rfl (by decide) (fr hF rfl rfl) ⟨Nat.le_of_ble_eq_true rfl, Nat.le_of_ble_eq_true rfl⟩ ?_
  refine ev_putR 1 dX3_init_10 (by decide) rfl ciX3 (by decide) (Or.inr ⟨rfl, rfl, rfl⟩) rfl flX3_9 rfl (fun _ => ⟨rfl, rfl⟩) upc ?_
  refine ev_aload_n dX3_init_13 0 rfl ?_
  refine ev_bipush dX3_init_14 rfl ?_
  refine ev_newI dX3_init_16 rfl (by decide) rfl (by decide) (fr hF rfl rfl) ⟨Nat.le_of_ble_eq_true rfl, Nat.le_of_ble_eq_true rfl⟩ ?_
  refine ev_putR 2 dX3_init_18 (by decide) rfl ciX3 (by decide) (Or.inr ⟨rfl, rfl, rfl⟩) rfl flX3_15 rfl (fun _ => ⟨rfl, rfl⟩) upc ?_
  refine ev_aload_n dX3_init_21 0 rfl ?_
  refine ev_iload_n dX3_init_22 1 rfl ?_
  refine ev_putI 0 dX3_init_23 (by decide) rfl ciX3 (by decide) (Or.inr ⟨rfl, rfl, rfl⟩) rfl rfl flX3_18 upc ?_
  exact ev_vret dX3_init_26 rfl ⟨Nat.le_of_ble_eq_true rfl, Nat.le_of_ble_eq_true rfl⟩ ⟨rfl, rfl, rfl, rfl⟩
set_option maxRecDepth 8000 in
theorem tc12 (hF : Fr 13 N)   : Cn l D cy g (Kr 0 0) (Kr 0 0) yX3_init cX3_init 2 none (rmd 1 2 1032) [vr g 12, vi 1] 13 true N (PE none 15 true (ups [(12, 0, 1), (12, 2, 14), (12, 1, 13)] N)) := by
  refine Cn.of (by decide) (Nat.le_of_ble_eq_true rfl) ?_
  refine ev_al (al2 := [(0, vr g 12), (1, vi 1)]) rfl ?_
  refine ev_mem (N2 := ups [] N) rfl ?_
  refine ev_aload_n dX3_init_0 0 rfl ?_
  refine ev_objI dX3_init_1 oiX3 ⟨Nat.le_of_ble_eq_true rfl, Nat.le_of_ble_eq_true rfl⟩ (Nat.le_of_ble_eq_true rfl) ?_
  refine ev_aload_n dX3_init_4 0 rfl ?_
  refine ev_sipush dX3_init_5 rfl ?_
  refine ev_newI dX3_init_8 rfl (by decide) rfl (by decide) (fr hF rfl rfl) ⟨Nat.le_of_ble_eq_true rfl, Nat.le_of_ble_eq_true rfl⟩ ?_
  refine ev_putR 1 dX3_init_10 (by decide) rfl ciX3 (by decide) (Or.inr ⟨rfl, rfl, rfl⟩) rfl flX3_9 rfl (fun _ => ⟨rfl, rfl⟩) upc ?_
  refine ev_aload_n dX3_init_13 0 rfl ?_
  refine ev_bipush dX3_init_14 rfl ?_
  refine ev_newI dX3_init_16 rfl (by decide) rfl (by decide) (fr hF rfl rfl) ⟨Nat.le_of_ble_eq_true rfl, Nat.le_of_ble_eq_true rfl⟩ ?_
  refine ev_putR 2 dX3_init_18 (by decide) rfl ciX3 (by decide) (Or.inr ⟨rfl, rfl, rfl⟩) rfl flX3_15 rfl (fun _ => ⟨rfl, rfl⟩) upc ?_
  refine ev_aload_n dX3_init_21 0 rfl ?_
  refine ev_iload_n dX3_init_22 1 rfl ?_
  refine ev_putI 0 dX3_init_23 (by decide) rfl ciX3 (by decide) (Or.inr ⟨rfl, rfl, rfl⟩) rfl rfl flX3_18 upc ?_
  exact ev_vret dX3_init_26 rfl ⟨Nat.le_of_ble_eq_true rfl, Nat.le_of_ble_eq_true rfl⟩ ⟨rfl, rfl, rfl, rfl⟩
set_option maxRecDepth 8000 in
theorem tc5 (hF : Fr 6 N)   : Cn l D cy g (Kr 0 0) (Kr 0 0) yX2_init cX2_init 1 none (rmd 2 9 2091) [vr g 5] 6 true N (PE none 15 true (ups [(5, 6, 12), (12, 0, 1), (12, 2, 14), (12, 1, 13), (5, 5, 9), (9, 0, 0), (9, 2, 11), (9, 1, 10), (5, 3, 8), (5, 2, 7), (5, 1, 6)] N)) := by
  refine Cn.of (by decide) (Nat.le_of_ble_eq_true rfl) ?_
  refine ev_al (al2 := [(0, vr g 5)]) rfl ?_
  refine ev_mem (N2 := ups [] N) rfl ?_
  refine ev_aload_n dX2_init_0 0 rfl ?_
  refine ev_objI dX2_init_1 oiX2 ⟨Nat.le_of_ble_eq_true rfl, Nat.le_of_ble_eq_true rfl⟩ (Nat.le_of_ble_eq_true rfl) ?_
  refine ev_aload_n dX2_init_4 0 rfl ?_
  refine ev_iconst dX2_init_5 ?_
  refine ev_newJ dX2_init_6 rfl (by decide) rfl (by decide) (fr hF rfl rfl) ⟨Nat.le_of_ble_eq_true rfl, Nat.le_of_ble_eq_true rfl⟩ ?_
  refine ev_putR 1 dX2_init_8 (by decide) rfl ciX2 (by decide) (Or.inr ⟨rfl, rfl, rfl⟩) rfl flX2_9 rfl (fun _ => ⟨rfl, rfl⟩) upc ?_
  refine ev_aload_n dX2_init_11 0 rfl ?_
  refine ev_iconst dX2_init_12 ?_
  refine ev_newI dX2_init_13 rfl (by decide) rfl (by decide) (fr hF rfl rfl) ⟨Nat.le_of_ble_eq_true rfl, Nat.le_of_ble_eq_true rfl⟩ ?_
  refine ev_putR 2 dX2_init_15 (by decide) rfl ciX2 (by decide) (Or.inr ⟨rfl, rfl, rfl⟩) rfl flX2_15 rfl (fun _ => ⟨rfl, rfl⟩) upc ?_
  refine ev_aload_n dX2_init_18 0 rfl ?_
  refine ev_iconst dX2_init_19 ?_
  refine ev_newI dX2_init_20 rfl (by decide) rfl (by decide) (fr hF rfl rfl) ⟨Nat.le_of_ble_eq_true rfl, Nat.le_of_ble_eq_true rfl⟩ ?_
  refine ev_putR 3 dX2_init_22 (by decide) rfl ciX2 (by decide) (Or.inr ⟨rfl, rfl, rfl⟩) rfl flX2_19 rfl (fun _ => ⟨rfl, rfl⟩) upc ?_
  refine ev_aload_n dX2_init_25 0 rfl ?_
  refine ev_new dX2_init_26 rfl ciX3 clX2_22 itX3 iniX3 (by decide) rfl (fr hF rfl rfl) (dvX3 g) ⟨Nat.le_of_ble_eq_true rfl, Nat.le_of_ble_eq_true rfl⟩ ?_
  refine ev_dup dX2_init_29 rfl ?_
  refine ev_iconst dX2_init_30 ?_
  refine cl_I (As := [vi 0]) (st := [vr g 9, vr g 5]) miX3_init (tc9 (hF.ups rfl rfl)) dX2_init_31 lkX2_24 inX3_init rfl ⟨⟨Nat.le_of_ble_eq_true rfl, Nat.le_of_ble_eq_true rfl⟩, Nat.le_of_ble_eq_true rfl, Nat.le_of_ble_eq_true rfl⟩ (Nat.le_of_ble_eq_true rfl) ?_
  refine ev_mem (ups_app _ _) ?_
  refine ev_putR 5 dX2_init_34 (by decide) rfl ciX2 (by decide) (Or.inr ⟨rfl, rfl, rfl⟩) rfl flX2_27 rfl (fun _ => ⟨rfl, rfl⟩) upc ?_
  refine ev_aload_n dX2_init_37 0 rfl ?_
  refine ev_new dX2_init_38 rfl ciX3 clX2_22 itX3 iniX3 (by decide) rfl (fr hF rfl rfl) (dvX3 g) ⟨Nat.le_of_ble_eq_true rfl, Nat.le_of_ble_eq_true rfl⟩ ?_
  refine ev_dup dX2_init_41 rfl ?_
  refine ev_iconst dX2_init_42 ?_
  refine cl_I (As := [vi 1]) (st := [vr g 12, vr g 5]) miX3_init (tc12 (hF.ups rfl rfl)) dX2_init_43 lkX2_24 inX3_init rfl ⟨⟨Nat.le_of_ble_eq_true rfl, Nat.le_of_ble_eq_true rfl⟩, Nat.le_of_ble_eq_true rfl, Nat.le_of_ble_eq_true rfl⟩ (Nat.le_of_ble_eq_true rfl) ?_
  refine ev_mem (ups_app _ _) ?_
  refine ev_putR 6 dX2_init_46 (by decide) rfl ciX2 (by decide) (Or.inr ⟨rfl, rfl, rfl⟩) rfl flX2_31 rfl (fun _ => ⟨rfl, rfl⟩) upc ?_
  exact ev_vret dX2_init_49 rfl ⟨Nat.le_of_ble_eq_true rfl, Nat.le_of_ble_eq_true rfl⟩ ⟨rfl, rfl, rfl, rfl⟩
set_option maxRecDepth 8000 in
theorem tc19 (hF : Fr 20 N)   : Cn l D cy g (Kr 0 0) (Kr 0 0) yX3_init cX3_init 2 none (rmd 1 2 1032) [vr g 19, vi 0] 20 true N (PE none 22 true (ups [(19, 0, 0), (19, 2, 21), (19, 1, 20)] N)) := by
  refine Cn.of (by decide) (Nat.le_of_ble_eq_true rfl) ?_
  refine ev_al (al2 := [(0, vr g 19), (1, vi 0)]) rfl ?_
  refine ev_mem (N2 := ups [] N) rfl ?_
  refine ev_aload_n dX3_init_0 0 rfl ?_
  refine ev_objI dX3_init_1 oiX3 ⟨Nat.le_of_ble_eq_true rfl, Nat.le_of_ble_eq_true rfl⟩ (Nat.le_of_ble_eq_true rfl) ?_
  refine ev_aload_n dX3_init_4 0 rfl ?_
  refine ev_sipush dX3_init_5 rfl ?_
  refine ev_newI dX3_init_8 rfl (by decide) rfl (by decide) (fr hF rfl rfl) ⟨Nat.le_of_ble_eq_true rfl, Nat.le_of_ble_eq_true rfl⟩ ?_
  refine ev_putR 1 dX3_init_10 (by decide) rfl ciX3 (by decide) (Or.inr ⟨rfl, rfl, rfl⟩) rfl flX3_9 rfl (fun _ => ⟨rfl, rfl⟩) upc ?_
  refine ev_aload_n dX3_init_13 0 rfl ?_
  refine ev_bipush dX3_init_14 rfl ?_
  refine ev_newI dX3_init_16 rfl (by decide) rfl (by decide) (fr hF rfl rfl) ⟨Nat.le_of_ble_eq_true rfl, Nat.le_of_ble_eq_true rfl⟩ ?_
  refine ev_putR 2 dX3_init_18 (by decide) rfl ciX3 (by decide) (Or.inr ⟨rfl, rfl, rfl⟩) rfl flX3_15 rfl (fun _ => ⟨rfl, rfl⟩) upc ?_
  refine ev_aload_n dX3_init_21 0 rfl ?_
  refine ev_iload_n dX3_init_22 1 rfl ?_
  refine ev_putI 0 dX3_init_23 (by decide) rfl ciX3 (by decide) (Or.inr ⟨rfl, rfl, rfl⟩) rfl rfl flX3_18 upc ?_
  exact ev_vret dX3_init_26 rfl ⟨Nat.le_of_ble_eq_true rfl, Nat.le_of_ble_eq_true rfl⟩ ⟨rfl, rfl, rfl, rfl⟩
set_option maxRecDepth 8000 in
theorem tc22 (hF : Fr 23 N)   : Cn l D cy g (Kr 0 0) (Kr 0 0) yX3_init cX3_init 2 none (rmd 1 2 1032) [vr g 22, vi 1] 23 true N (PE none 25 true (ups [(22, 0, 1), (22, 2, 24), (22, 1, 23)] N)) := by
  refine Cn.of (by decide) (Nat.le_of_ble_eq_true rfl) ?_
  refine ev_al (al2 := [(0, vr g 22), (1, vi 1)]) rfl ?_
  refine ev_mem (N2 := ups [] N) rfl ?_
  refine ev_aload_n dX3_init_0 0 rfl ?_
  refine ev_objI dX3_init_1 oiX3 ⟨Nat.le_of_ble_eq_true rfl, Nat.le_of_ble_eq_true rfl⟩ (Nat.le_of_ble_eq_true rfl) ?_
  refine ev_aload_n dX3_init_4 0 rfl ?_
  refine ev_sipush dX3_init_5 rfl ?_
  refine ev_newI dX3_init_8 rfl (by decide) rfl (by decide) (fr hF rfl rfl) ⟨Nat.le_of_ble_eq_true rfl, Nat.le_of_ble_eq_true rfl⟩ ?_
  refine ev_putR 1 dX3_init_10 (by decide) rfl ciX3 (by decide) (Or.inr ⟨rfl, rfl, rfl⟩) rfl flX3_9 rfl (fun _ => ⟨rfl, rfl⟩) upc ?_
  refine ev_aload_n dX3_init_13 0 rfl ?_
  refine ev_bipush dX3_init_14 rfl ?_
  refine ev_newI dX3_init_16 rfl (by decide) rfl (by decide) (fr hF rfl rfl) ⟨Nat.le_of_ble_eq_true rfl, Nat.le_of_ble_eq_true rfl⟩ ?_
  refine ev_putR 2 dX3_init_18 (by decide) rfl ciX3 (by decide) (Or.inr ⟨rfl, rfl, rfl⟩) rfl flX3_15 rfl (fun _ => ⟨rfl, rfl⟩) upc ?_
  refine ev_aload_n dX3_init_21 0 rfl ?_
  refine ev_iload_n dX3_init_22 1 rfl ?_
  refine ev_putI 0 dX3_init_23 (by decide) rfl ciX3 (by decide) (Or.inr ⟨rfl, rfl, rfl⟩) rfl rfl flX3_18 upc ?_
  exact ev_vret dX3_init_26 rfl ⟨Nat.le_of_ble_eq_true rfl, Nat.le_of_ble_eq_true rfl⟩ ⟨rfl, rfl, rfl, rfl⟩
set_option maxRecDepth 8000 in
theorem tc15 (hF : Fr 16 N)   : Cn l D cy g (Kr 0 0) (Kr 0 0) yX2_init cX2_init 1 none (rmd 2 9 2091) [vr g 15] 16 true N (PE none 25 true (ups [(15, 6, 22), (22, 0, 1), (22, 2, 24), (22, 1, 23), (15, 5, 19), (19, 0, 0), (19, 2, 21), (19, 1, 20), (15, 3, 18), (15, 2, 17), (15, 1, 16)] N)) := by
  refine Cn.of (by decide) (Nat.le_of_ble_eq_true rfl) ?_
  refine ev_al (al2 := [(0, vr g 15)]) rfl ?_
  refine ev_mem (N2 := ups [] N) rfl ?_
  refine ev_aload_n dX2_init_0 0 rfl ?_
  refine ev_objI dX2_init_1 oiX2 ⟨Nat.le_of_ble_eq_true rfl, Nat.le_of_ble_eq_true rfl⟩ (Nat.le_of_ble_eq_true rfl) ?_
  refine ev_aload_n dX2_init_4 0 rfl ?_
  refine ev_iconst dX2_init_5 ?_
  refine ev_newJ dX2_init_6 rfl (by decide) rfl (by decide) (fr hF rfl rfl) ⟨Nat.le_of_ble_eq_true rfl, Nat.le_of_ble_eq_true rfl⟩ ?_
  refine ev_putR 1 dX2_init_8 (by decide) rfl ciX2 (by decide) (Or.inr ⟨rfl, rfl, rfl⟩) rfl flX2_9 rfl (fun _ => ⟨rfl, rfl⟩) upc ?_
  refine ev_aload_n dX2_init_11 0 rfl ?_
  refine ev_iconst dX2_init_12 ?_
  refine ev_newI dX2_init_13 rfl (by decide) rfl (by decide) (fr hF rfl rfl) ⟨Nat.le_of_ble_eq_true rfl, Nat.le_of_ble_eq_true rfl⟩ ?_
  refine ev_putR 2 dX2_init_15 (by decide) rfl ciX2 (by decide) (Or.inr ⟨rfl, rfl, rfl⟩) rfl flX2_15 rfl (fun _ => ⟨rfl, rfl⟩) upc ?_
  refine ev_aload_n dX2_init_18 0 rfl ?_
  refine ev_iconst dX2_init_19 ?_
  refine ev_newI dX2_init_20 rfl (by decide) rfl (by decide) (fr hF rfl rfl) ⟨Nat.le_of_ble_eq_true rfl, Nat.le_of_ble_eq_true rfl⟩ ?_
  refine ev_putR 3 dX2_init_22 (by decide) rfl ciX2 (by decide) (Or.inr ⟨rfl, rfl, rfl⟩) rfl flX2_19 rfl (fun _ => ⟨rfl, rfl⟩) upc ?_
  refine ev_aload_n dX2_init_25 0 rfl ?_
  refine ev_new dX2_init_26 rfl ciX3 clX2_22 itX3 iniX3 (by decide) rfl (fr hF rfl rfl) (dvX3 g) ⟨Nat.le_of_ble_eq_true rfl, Nat.le_of_ble_eq_true rfl⟩ ?_
  refine ev_dup dX2_init_29 rfl ?_
  refine ev_iconst dX2_init_30 ?_
  refine cl_I (As := [vi 0]) (st := [vr g 19, vr g 15]) miX3_init (tc19 (hF.ups rfl rfl)) dX2_init_31 lkX2_24 inX3_init rfl ⟨⟨Nat.le_of_ble_eq_true rfl, Nat.le_of_ble_eq_true rfl⟩, Nat.le_of_ble_eq_true rfl, Nat.le_of_ble_eq_true rfl⟩ (Nat.le_of_ble_eq_true rfl) ?_
  refine ev_mem (ups_app _ _) ?_
  refine ev_putR 5 dX2_init_34 (by decide) rfl ciX2 (by decide) (Or.inr ⟨rfl, rfl, rfl⟩) rfl flX2_27 rfl (fun _ => ⟨rfl, rfl⟩) upc ?_
  refine ev_aload_n dX2_init_37 0 rfl ?_
  refine ev_new dX2_init_38 rfl ciX3 clX2_22 itX3 iniX3 (by decide) rfl (fr hF rfl rfl) (dvX3 g) ⟨Nat.le_of_ble_eq_true rfl, Nat.le_of_ble_eq_true rfl⟩ ?_
  refine ev_dup dX2_init_41 rfl ?_
  refine ev_iconst dX2_init_42 ?_
  refine cl_I (As := [vi 1]) (st := [vr g 22, vr g 15]) miX3_init (tc22 (hF.ups rfl rfl)) dX2_init_43 lkX2_24 inX3_init rfl ⟨⟨Nat.le_of_ble_eq_true rfl, Nat.le_of_ble_eq_true rfl⟩, Nat.le_of_ble_eq_true rfl, Nat.le_of_ble_eq_true rfl⟩ (Nat.le_of_ble_eq_true rfl) ?_
  refine ev_mem (ups_app _ _) ?_
  refine ev_putR 6 dX2_init_46 (by decide) rfl ciX2 (by decide) (Or.inr ⟨rfl, rfl, rfl⟩) rfl flX2_31 rfl (fun _ => ⟨rfl, rfl⟩) upc ?_
  exact ev_vret dX2_init_49 rfl ⟨Nat.le_of_ble_eq_true rfl, Nat.le_of_ble_eq_true rfl⟩ ⟨rfl, rfl, rfl, rfl⟩
def us_S : List (Nat × Nat × Int) := [(25, 17, 38), (25, 16, 37), (25, 15, 36), (25, 14, 35), (25, 13, 34), (25, 12, 33), (25, 11, 32), (25, 10, 31), (25, 9, 30), (25, 8, 29), (25, 7, 28), (25, 6, 27), (25, 5, 26)]
set_option maxRecDepth 8000 in
theorem tc25 (hF : Fr 26 N) {o1 : Mem} (hx1 : fX7_learn 5 (ups us_S N) = some o1) (hz1 : ∀ q ∈ setT, inR 1 39 q.1 = true → inR 0 0 q.1 = false → q.1 < 39 → (ups us_S N) q.1 q.2.1 = (q.2.2 : Int)) : Cn l D cy g (Kr 0 0) (Kr 1 39) yX7_init cX7_init 2 none (rmd 6 13 14964) [vr g 25, vr g 5] 26 true N (PE none 39 true (LR 1 39 (ups us_S N) o1)) := by
  refine Cn.of (by decide) (Nat.le_of_ble_eq_true rfl) ?_
  refine ev_al (al2 := [(0, vr g 25), (1, vr g 5)]) rfl ?_
  refine ev_mem (N2 := ups [] N) rfl ?_
  refine ev_aload_n dX7_init_0 0 rfl ?_
  refine ev_objI dX7_init_1 oiX7 ⟨Nat.le_of_ble_eq_true rfl, Nat.le_of_ble_eq_true rfl⟩ (Nat.le_of_ble_eq_true rfl) ?_
  refine ev_aload_n dX7_init_4 0 rfl ?_
  refine ev_iconst dX7_init_5 ?_
  refine ev_newI dX7_init_6 rfl (by decide) rfl (by decide) (fr hF rfl rfl) ⟨Nat.le_of_ble_eq_true rfl, Nat.le_of_ble_eq_true rfl⟩ ?_
  refine ev_putR 5 dX7_init_8 (by decide) rfl ciX7 (by decide) (Or.inr ⟨rfl, rfl, rfl⟩) rfl flX7_9 rfl (fun _ => ⟨rfl, rfl⟩) upc ?_
  refine ev_aload_n dX7_init_11 0 rfl ?_
  refine ev_iconst dX7_init_12 ?_
  refine ev_newI dX7_init_13 rfl (by decide) rfl (by decide) (fr hF rfl rfl) ⟨Nat.le_of_ble_eq_true rfl, Nat.le_of_ble_eq_true rfl⟩ ?_
  refine ev_putR 6 dX7_init_15 (by decide) rfl ciX7 (by decide) (Or.inr ⟨rfl, rfl, rfl⟩) rfl flX7_15 rfl (fun _ => ⟨rfl, rfl⟩) upc ?_
  refine ev_aload_n dX7_init_18 0 rfl ?_
  refine ev_sipush dX7_init_19 rfl ?_
  refine ev_newI dX7_init_22 rfl (by decide) rfl (by decide) (fr hF rfl rfl) ⟨Nat.le_of_ble_eq_true rfl, Nat.le_of_ble_eq_true rfl⟩ ?_
  refine ev_putR 7 dX7_init_24 (by decide) rfl ciX7 (by decide) (Or.inr ⟨rfl, rfl, rfl⟩) rfl flX7_18 rfl (fun _ => ⟨rfl, rfl⟩) upc ?_
  refine ev_aload_n dX7_init_27 0 rfl ?_
  refine ev_sipush dX7_init_28 rfl ?_
  refine ev_newI dX7_init_31 rfl (by decide) rfl (by decide) (fr hF rfl rfl) ⟨Nat.le_of_ble_eq_true rfl, Nat.le_of_ble_eq_true rfl⟩ ?_
  refine ev_putR 8 dX7_init_33 (by decide) rfl ciX7 (by decide) (Or.inr ⟨rfl, rfl, rfl⟩) rfl flX7_21 rfl (fun _ => ⟨rfl, rfl⟩) upc ?_
  refine ev_aload_n dX7_init_36 0 rfl ?_
  refine ev_sipush dX7_init_37 rfl ?_
  refine ev_newI dX7_init_40 rfl (by decide) rfl (by decide) (fr hF rfl rfl) ⟨Nat.le_of_ble_eq_true rfl, Nat.le_of_ble_eq_true rfl⟩ ?_
  refine ev_putR 9 dX7_init_42 (by decide) rfl ciX7 (by decide) (Or.inr ⟨rfl, rfl, rfl⟩) rfl flX7_24 rfl (fun _ => ⟨rfl, rfl⟩) upc ?_
  refine ev_aload_n dX7_init_45 0 rfl ?_
  refine ev_sipush dX7_init_46 rfl ?_
  refine ev_newI dX7_init_49 rfl (by decide) rfl (by decide) (fr hF rfl rfl) ⟨Nat.le_of_ble_eq_true rfl, Nat.le_of_ble_eq_true rfl⟩ ?_
  refine ev_putR 10 dX7_init_51 (by decide) rfl ciX7 (by decide) (Or.inr ⟨rfl, rfl, rfl⟩) rfl flX7_27 rfl (fun _ => ⟨rfl, rfl⟩) upc ?_
  refine ev_aload_n dX7_init_54 0 rfl ?_
  refine ev_sipush dX7_init_55 rfl ?_
  refine ev_newI dX7_init_58 rfl (by decide) rfl (by decide) (fr hF rfl rfl) ⟨Nat.le_of_ble_eq_true rfl, Nat.le_of_ble_eq_true rfl⟩ ?_
  refine ev_putR 11 dX7_init_60 (by decide) rfl ciX7 (by decide) (Or.inr ⟨rfl, rfl, rfl⟩) rfl flX7_30 rfl (fun _ => ⟨rfl, rfl⟩) upc ?_
  refine ev_aload_n dX7_init_63 0 rfl ?_
  refine ev_sipush dX7_init_64 rfl ?_
  refine ev_newI dX7_init_67 rfl (by decide) rfl (by decide) (fr hF rfl rfl) ⟨Nat.le_of_ble_eq_true rfl, Nat.le_of_ble_eq_true rfl⟩ ?_
  refine ev_putR 12 dX7_init_69 (by decide) rfl ciX7 (by decide) (Or.inr ⟨rfl, rfl, rfl⟩) rfl flX7_33 rfl (fun _ => ⟨rfl, rfl⟩) upc ?_
  refine ev_aload_n dX7_init_72 0 rfl ?_
  refine ev_sipush dX7_init_73 rfl ?_
  refine ev_newI dX7_init_76 rfl (by decide) rfl (by decide) (fr hF rfl rfl) ⟨Nat.le_of_ble_eq_true rfl, Nat.le_of_ble_eq_true rfl⟩ ?_
  refine ev_putR 13 dX7_init_78 (by decide) rfl ciX7 (by decide) (Or.inr ⟨rfl, rfl, rfl⟩) rfl flX7_36 rfl (fun _ => ⟨rfl, rfl⟩) upc ?_
  refine ev_aload_n dX7_init_81 0 rfl ?_
  refine ev_sipush dX7_init_82 rfl ?_
  refine ev_newI dX7_init_85 rfl (by decide) rfl (by decide) (fr hF rfl rfl) ⟨Nat.le_of_ble_eq_true rfl, Nat.le_of_ble_eq_true rfl⟩ ?_
  refine ev_putR 14 dX7_init_87 (by decide) rfl ciX7 (by decide) (Or.inr ⟨rfl, rfl, rfl⟩) rfl flX7_39 rfl (fun _ => ⟨rfl, rfl⟩) upc ?_
  refine ev_aload_n dX7_init_90 0 rfl ?_
  refine ev_sipush dX7_init_91 rfl ?_
  refine ev_newI dX7_init_94 rfl (by decide) rfl (by decide) (fr hF rfl rfl) ⟨Nat.le_of_ble_eq_true rfl, Nat.le_of_ble_eq_true rfl⟩ ?_
  refine ev_putR 15 dX7_init_96 (by decide) rfl ciX7 (by decide) (Or.inl rfl) rfl flX7_42 rfl (fun _ => ⟨rfl, rfl⟩) upc ?_
  refine ev_aload_n dX7_init_99 0 rfl ?_
  refine ev_sipush dX7_init_100 rfl ?_
  refine ev_newI dX7_init_103 rfl (by decide) rfl (by decide) (fr hF rfl rfl) ⟨Nat.le_of_ble_eq_true rfl, Nat.le_of_ble_eq_true rfl⟩ ?_
  refine ev_putR 16 dX7_init_105 (by decide) rfl ciX7 (by decide) (Or.inl rfl) rfl flX7_45 rfl (fun _ => ⟨rfl, rfl⟩) upc ?_
  refine ev_aload_n dX7_init_108 0 rfl ?_
  refine ev_bipush dX7_init_109 rfl ?_
  refine ev_newI dX7_init_111 rfl (by decide) rfl (by decide) (fr hF rfl rfl) ⟨Nat.le_of_ble_eq_true rfl, Nat.le_of_ble_eq_true rfl⟩ ?_
  refine ev_putR 17 dX7_init_113 (by decide) rfl ciX7 (by decide) (Or.inr ⟨rfl, rfl, rfl⟩) rfl flX7_48 rfl (fun _ => ⟨rfl, rfl⟩) upc ?_
  refine ev_aload_n dX7_init_116 0 rfl ?_
  refine ev_aload_n dX7_init_117 1 rfl ?_
  refine ev_mem (N2 := ups us_S N) rfl ?_
  refine ev_fz (K2 := Kr 1 39) (fz hz1 rfl) ?_
  refine ev_mem (LR_self (lo := 1) (hi := 39)) ?_
  refine cl_V0 (As := [vr g 5]) (st := []) miX7_learn (tX7_learn (sdR (N := ups us_S N) (by decide) (fun k hk => Kr_in hk)) (fun k hk => hk) 5 (ups us_S N) (by simp [isGr]) hx1) dX7_init_118 lkX7_51 inX7_learn rfl (by decide) rfl ⟨rfl, rfl⟩ ⟨⟨Nat.le_of_ble_eq_true rfl, Nat.le_of_ble_eq_true rfl⟩, Nat.le_of_ble_eq_true rfl, Nat.le_of_ble_eq_true rfl⟩ (Nat.le_of_ble_eq_true rfl) ?_
  exact ev_vret dX7_init_121 rfl ⟨Nat.le_of_ble_eq_true rfl, Nat.le_of_ble_eq_true rfl⟩ ⟨rfl, rfl, rfl, rfl⟩
def us_A0 : List (Nat × Nat × Int) := [(0, 3, 15), (15, 6, 22), (22, 0, 1), (22, 2, 24), (22, 1, 23), (15, 5, 19), (19, 0, 0), (19, 2, 21), (19, 1, 20), (15, 3, 18), (15, 2, 17), (15, 1, 16), (0, 2, 5), (5, 6, 12), (12, 0, 1), (12, 2, 14), (12, 1, 13), (5, 5, 9), (9, 0, 0), (9, 2, 11), (9, 1, 10), (5, 3, 8), (5, 2, 7), (5, 1, 6), (0, 1, 3), (3, 0, 1), (3, 2, 4), (0, 0, 1), (1, 7, 1000), (1, 4, 101), (1, 0, 2)]
theorem fzA (N : Mem) : ∀ q ∈ setT, inR 1 39 q.1 = true → inR 0 0 q.1 = false → q.1 < 39 → (ups us_S (ups us_A0 N)) q.1 q.2.1 = (q.2.2 : Int) := by
  rw [ups_app]
  exact fz_us (us_S ++ us_A0) (by decide +kernel)
def us_A : List (Nat × Nat × Int) := [(25, 17, 38), (25, 16, 37), (25, 15, 36), (25, 14, 35), (25, 13, 34), (25, 12, 33), (25, 11, 32), (25, 10, 31), (25, 9, 30), (25, 8, 29), (25, 7, 28), (25, 6, 27), (25, 5, 26), (0, 3, 15), (15, 6, 22), (22, 0, 1), (22, 2, 24), (22, 1, 23), (15, 5, 19), (19, 0, 0), (19, 2, 21), (19, 1, 20), (15, 3, 18), (15, 2, 17), (15, 1, 16), (0, 2, 5), (5, 6, 12), (12, 0, 1), (12, 2, 14), (12, 1, 13), (5, 5, 9), (9, 0, 0), (9, 2, 11), (9, 1, 10), (5, 3, 8), (5, 2, 7), (5, 1, 6), (0, 1, 3), (3, 0, 1), (3, 2, 4), (0, 0, 1), (1, 7, 1000), (1, 4, 101), (1, 0, 2)]
set_option maxRecDepth 8000 in
theorem tc39 (hF : Fr 40 N)   : Cn l D cy g (Kr 1 39) (Kr 1 39) yX4_init cX4_init 1 none (rmd 1 1 40) [vr g 39] 40 true N (PE none 41 true (ups [(39, 0, 40)] N)) := by
  refine Cn.of (by decide) (Nat.le_of_ble_eq_true rfl) ?_
  refine ev_al (al2 := [(0, vr g 39)]) rfl ?_
  refine ev_mem (N2 := ups [] N) rfl ?_
  refine ev_aload_n dX4_init_0 0 rfl ?_
  refine ev_objI dX4_init_1 oiX4 ⟨Nat.le_of_ble_eq_true rfl, Nat.le_of_ble_eq_true rfl⟩ (Nat.le_of_ble_eq_true rfl) ?_
  refine ev_aload_n dX4_init_4 0 rfl ?_
  refine ev_bipush dX4_init_5 rfl ?_
  refine ev_newI dX4_init_7 rfl (by decide) rfl (by decide) (fr hF rfl rfl) ⟨Nat.le_of_ble_eq_true rfl, Nat.le_of_ble_eq_true rfl⟩ ?_
  refine ev_putR 0 dX4_init_9 (by decide) rfl ciX4 (by decide) (Or.inr ⟨rfl, rfl, rfl⟩) rfl flX4_9 rfl (fun _ => ⟨rfl, rfl⟩) upc ?_
  exact ev_vret dX4_init_12 rfl ⟨Nat.le_of_ble_eq_true rfl, Nat.le_of_ble_eq_true rfl⟩ ⟨rfl, rfl, rfl, rfl⟩
set_option maxRecDepth 8000 in
theorem tc41 (hF : Fr 42 N)   : Cn l D cy g (Kr 1 39) (Kr 1 39) yX5_init cX5_init 1 none (rmd 1 1 8) [vr g 41] 42 true N (PE none 43 true (ups [(41, 5, 42)] N)) := by
  refine Cn.of (by decide) (Nat.le_of_ble_eq_true rfl) ?_
  refine ev_al (al2 := [(0, vr g 41)]) rfl ?_
  refine ev_mem (N2 := ups [] N) rfl ?_
  refine ev_aload_n dX5_init_0 0 rfl ?_
  refine ev_objI dX5_init_1 oiX5 ⟨Nat.le_of_ble_eq_true rfl, Nat.le_of_ble_eq_true rfl⟩ (Nat.le_of_ble_eq_true rfl) ?_
  refine ev_aload_n dX5_init_4 0 rfl ?_
  refine ev_bipush dX5_init_5 rfl ?_
  refine ev_newI dX5_init_7 rfl (by decide) rfl (by decide) (fr hF rfl rfl) ⟨Nat.le_of_ble_eq_true rfl, Nat.le_of_ble_eq_true rfl⟩ ?_
  refine ev_putR 5 dX5_init_9 (by decide) rfl ciX5 (by decide) (Or.inr ⟨rfl, rfl, rfl⟩) rfl flX5_9 rfl (fun _ => ⟨rfl, rfl⟩) upc ?_
  exact ev_vret dX5_init_12 rfl ⟨Nat.le_of_ble_eq_true rfl, Nat.le_of_ble_eq_true rfl⟩ ⟨rfl, rfl, rfl, rfl⟩
set_option maxRecDepth 8000 in
theorem tc46 (hF : Fr 47 N)   : Cn l D cy g (Kr 1 39) (Kr 1 39) yX8_init cX8_init 4 none (rmd 1 1 3840) [vr g 46, vr g 25, vi 1, vi 0] 47 true N (PE none 48 true (ups [(46, 2, 0), (46, 1, 1), (46, 0, 25), (46, 4, (-1)), (46, 3, 47)] N)) := by
  refine Cn.of (by decide) (Nat.le_of_ble_eq_true rfl) ?_
  refine ev_al (al2 := [(0, vr g 46), (1, vr g 25), (2, vi 1), (3, vi 0)]) rfl ?_
  refine ev_mem (N2 := ups [] N) rfl ?_
  refine ev_aload_n dX8_init_0 0 rfl ?_
  refine ev_objI dX8_init_1 oiX8 ⟨Nat.le_of_ble_eq_true rfl, Nat.le_of_ble_eq_true rfl⟩ (Nat.le_of_ble_eq_true rfl) ?_
  refine ev_aload_n dX8_init_4 0 rfl ?_
  refine ev_sipush dX8_init_5 rfl ?_
  refine ev_newI dX8_init_8 rfl (by decide) rfl (by decide) (fr hF rfl rfl) ⟨Nat.le_of_ble_eq_true rfl, Nat.le_of_ble_eq_true rfl⟩ ?_
  refine ev_putR 3 dX8_init_10 (by decide) rfl ciX8 (by decide) (Or.inr ⟨rfl, rfl, rfl⟩) rfl flX8_9 rfl (fun _ => ⟨rfl, rfl⟩) upc ?_
  refine ev_aload_n dX8_init_13 0 rfl ?_
  refine ev_iconst dX8_init_14 ?_
  refine ev_putI 4 dX8_init_15 (by decide) rfl ciX8 (by decide) (Or.inl rfl) rfl rfl flX8_15 upc ?_
  refine ev_aload_n dX8_init_18 0 rfl ?_
  refine ev_aload_n dX8_init_19 1 rfl ?_
  refine ev_putR 0 dX8_init_20 (by decide) rfl ciX8 (by decide) (Or.inr ⟨rfl, rfl, rfl⟩) rfl flX8_19 rfl (fun _ => ⟨rfl, rfl⟩) upc ?_
  refine ev_aload_n dX8_init_23 0 rfl ?_
  refine ev_iload_n dX8_init_24 2 rfl ?_
  refine ev_putZi 1 dX8_init_25 (by decide) rfl ciX8 (by decide) (Or.inr ⟨rfl, rfl, rfl⟩) rfl rfl flX8_23 (by decide) upc ?_
  refine ev_aload_n dX8_init_28 0 rfl ?_
  refine ev_iload_n dX8_init_29 3 rfl ?_
  refine ev_putI 2 dX8_init_30 (by decide) rfl ciX8 (by decide) (Or.inr ⟨rfl, rfl, rfl⟩) rfl rfl flX8_27 upc ?_
  exact ev_vret dX8_init_33 rfl ⟨Nat.le_of_ble_eq_true rfl, Nat.le_of_ble_eq_true rfl⟩ ⟨rfl, rfl, rfl, rfl⟩
set_option maxRecDepth 8000 in
theorem tc49 (hF : Fr 50 N)   : Cn l D cy g (Kr 1 39) (Kr 1 39) yX8_init cX8_init 4 none (rmd 1 1 3840) [vr g 49, vr g 25, vi 1, vi 0] 50 true N (PE none 51 true (ups [(49, 2, 0), (49, 1, 1), (49, 0, 25), (49, 4, (-1)), (49, 3, 50)] N)) := by
  refine Cn.of (by decide) (Nat.le_of_ble_eq_true rfl) ?_
  refine ev_al (al2 := [(0, vr g 49), (1, vr g 25), (2, vi 1), (3, vi 0)]) rfl ?_
  refine ev_mem (N2 := ups [] N) rfl ?_
  refine ev_aload_n dX8_init_0 0 rfl ?_
  refine ev_objI dX8_init_1 oiX8 ⟨Nat.le_of_ble_eq_true rfl, Nat.le_of_ble_eq_true rfl⟩ (Nat.le_of_ble_eq_true rfl) ?_
  refine ev_aload_n dX8_init_4 0 rfl ?_
  refine ev_sipush dX8_init_5 rfl ?_
  refine ev_newI dX8_init_8 rfl (by decide) rfl (by decide) (fr hF rfl rfl) ⟨Nat.le_of_ble_eq_true rfl, Nat.le_of_ble_eq_true rfl⟩ ?_
  refine ev_putR 3 dX8_init_10 (by decide) rfl ciX8 (by decide) (Or.inr ⟨rfl, rfl, rfl⟩) rfl flX8_9 rfl (fun _ => ⟨rfl, rfl⟩) upc ?_
  refine ev_aload_n dX8_init_13 0 rfl ?_
  refine ev_iconst dX8_init_14 ?_
  refine ev_putI 4 dX8_init_15 (by decide) rfl ciX8 (by decide) (Or.inl rfl) rfl rfl flX8_15 upc ?_
  refine ev_aload_n dX8_init_18 0 rfl ?_
  refine ev_aload_n dX8_init_19 1 rfl ?_
  refine ev_putR 0 dX8_init_20 (by decide) rfl ciX8 (by decide) (Or.inr ⟨rfl, rfl, rfl⟩) rfl flX8_19 rfl (fun _ => ⟨rfl, rfl⟩) upc ?_
  refine ev_aload_n dX8_init_23 0 rfl ?_
  refine ev_iload_n dX8_init_24 2 rfl ?_
  refine ev_putZi 1 dX8_init_25 (by decide) rfl ciX8 (by decide) (Or.inr ⟨rfl, rfl, rfl⟩) rfl rfl flX8_23 (by decide) upc ?_
  refine ev_aload_n dX8_init_28 0 rfl ?_
  refine ev_iload_n dX8_init_29 3 rfl ?_
  refine ev_putI 2 dX8_init_30 (by decide) rfl ciX8 (by decide) (Or.inr ⟨rfl, rfl, rfl⟩) rfl rfl flX8_27 upc ?_
  exact ev_vret dX8_init_33 rfl ⟨Nat.le_of_ble_eq_true rfl, Nat.le_of_ble_eq_true rfl⟩ ⟨rfl, rfl, rfl, rfl⟩
set_option maxRecDepth 8000 in
theorem tc51 (hF : Fr 52 N)   : Cn l D cy g (Kr 1 39) (Kr 1 39) yX8_init cX8_init 4 none (rmd 1 1 3840) [vr g 51, vr g 25, vi 0, vi 0] 52 true N (PE none 53 true (ups [(51, 2, 0), (51, 1, 0), (51, 0, 25), (51, 4, (-1)), (51, 3, 52)] N)) := by
  refine Cn.of (by decide) (Nat.le_of_ble_eq_true rfl) ?_
  refine ev_al (al2 := [(0, vr g 51), (1, vr g 25), (2, vi 0), (3, vi 0)]) rfl ?_
  refine ev_mem (N2 := ups [] N) rfl ?_
  refine ev_aload_n dX8_init_0 0 rfl ?_
  refine ev_objI dX8_init_1 oiX8 ⟨Nat.le_of_ble_eq_true rfl, Nat.le_of_ble_eq_true rfl⟩ (Nat.le_of_ble_eq_true rfl) ?_
  refine ev_aload_n dX8_init_4 0 rfl ?_
  refine ev_sipush dX8_init_5 rfl ?_
  refine ev_newI dX8_init_8 rfl (by decide) rfl (by decide) (fr hF rfl rfl) ⟨Nat.le_of_ble_eq_true rfl, Nat.le_of_ble_eq_true rfl⟩ ?_
  refine ev_putR 3 dX8_init_10 (by decide) rfl ciX8 (by decide) (Or.inr ⟨rfl, rfl, rfl⟩) rfl flX8_9 rfl (fun _ => ⟨rfl, rfl⟩) upc ?_
  refine ev_aload_n dX8_init_13 0 rfl ?_
  refine ev_iconst dX8_init_14 ?_
  refine ev_putI 4 dX8_init_15 (by decide) rfl ciX8 (by decide) (Or.inl rfl) rfl rfl flX8_15 upc ?_
  refine ev_aload_n dX8_init_18 0 rfl ?_
  refine ev_aload_n dX8_init_19 1 rfl ?_
  refine ev_putR 0 dX8_init_20 (by decide) rfl ciX8 (by decide) (Or.inr ⟨rfl, rfl, rfl⟩) rfl flX8_19 rfl (fun _ => ⟨rfl, rfl⟩) upc ?_
  refine ev_aload_n dX8_init_23 0 rfl ?_
  refine ev_iload_n dX8_init_24 2 rfl ?_
  refine ev_putZi 1 dX8_init_25 (by decide) rfl ciX8 (by decide) (Or.inr ⟨rfl, rfl, rfl⟩) rfl rfl flX8_23 (by decide) upc ?_
  refine ev_aload_n dX8_init_28 0 rfl ?_
  refine ev_iload_n dX8_init_29 3 rfl ?_
  refine ev_putI 2 dX8_init_30 (by decide) rfl ciX8 (by decide) (Or.inr ⟨rfl, rfl, rfl⟩) rfl rfl flX8_27 upc ?_
  exact ev_vret dX8_init_33 rfl ⟨Nat.le_of_ble_eq_true rfl, Nat.le_of_ble_eq_true rfl⟩ ⟨rfl, rfl, rfl, rfl⟩
set_option maxRecDepth 8000 in
theorem tc53 (hF : Fr 54 N)   : Cn l D cy g (Kr 1 39) (Kr 1 39) yX0_init cX0_init 2 none (rmd 1 1 3840) [vr g 53, vr g 25] 54 true N (PE none 55 true (ups [(53, 0, 25), (53, 1, 54)] N)) := by
  refine Cn.of (by decide) (Nat.le_of_ble_eq_true rfl) ?_
  refine ev_al (al2 := [(0, vr g 53), (1, vr g 25)]) rfl ?_
  refine ev_mem (N2 := ups [] N) rfl ?_
  refine ev_aload_n dX0_init_0 0 rfl ?_
  refine ev_objI dX0_init_1 oiX0 ⟨Nat.le_of_ble_eq_true rfl, Nat.le_of_ble_eq_true rfl⟩ (Nat.le_of_ble_eq_true rfl) ?_
  refine ev_aload_n dX0_init_4 0 rfl ?_
  refine ev_sipush dX0_init_5 rfl ?_
  refine ev_newI dX0_init_8 rfl (by decide) rfl (by decide) (fr hF rfl rfl) ⟨Nat.le_of_ble_eq_true rfl, Nat.le_of_ble_eq_true rfl⟩ ?_
  refine ev_putR 1 dX0_init_10 (by decide) rfl ciX0 (by decide) (Or.inr ⟨rfl, rfl, rfl⟩) rfl flX0_9 rfl (fun _ => ⟨rfl, rfl⟩) upc ?_
  refine ev_aload_n dX0_init_13 0 rfl ?_
  refine ev_aload_n dX0_init_14 1 rfl ?_
  refine ev_putR 0 dX0_init_15 (by decide) rfl ciX0 (by decide) (Or.inr ⟨rfl, rfl, rfl⟩) rfl flX0_15 rfl (fun _ => ⟨rfl, rfl⟩) upc ?_
  exact ev_vret dX0_init_18 rfl ⟨Nat.le_of_ble_eq_true rfl, Nat.le_of_ble_eq_true rfl⟩ ⟨rfl, rfl, rfl, rfl⟩
set_option maxRecDepth 8000 in
theorem tc55 (hF : Fr 56 N)   : Cn l D cy g (Kr 1 39) (Kr 1 39) yX1_init cX1_init 2 none (rmd 1 1 3840) [vr g 55, vr g 25] 56 true N (PE none 57 true (ups [(55, 0, 25), (55, 1, 56)] N)) := by
  refine Cn.of (by decide) (Nat.le_of_ble_eq_true rfl) ?_
  refine ev_al (al2 := [(0, vr g 55), (1, vr g 25)]) rfl ?_
  refine ev_mem (N2 := ups [] N) rfl ?_
  refine ev_aload_n dX1_init_0 0 rfl ?_
  refine ev_objI dX1_init_1 oiX1 ⟨Nat.le_of_ble_eq_true rfl, Nat.le_of_ble_eq_true rfl⟩ (Nat.le_of_ble_eq_true rfl) ?_
  refine ev_aload_n dX1_init_4 0 rfl ?_
  refine ev_sipush dX1_init_5 rfl ?_
  refine ev_newI dX1_init_8 rfl (by decide) rfl (by decide) (fr hF rfl rfl) ⟨Nat.le_of_ble_eq_true rfl, Nat.le_of_ble_eq_true rfl⟩ ?_
  refine ev_putR 1 dX1_init_10 (by decide) rfl ciX1 (by decide) (Or.inr ⟨rfl, rfl, rfl⟩) rfl flX1_9 rfl (fun _ => ⟨rfl, rfl⟩) upc ?_
  refine ev_aload_n dX1_init_13 0 rfl ?_
  refine ev_aload_n dX1_init_14 1 rfl ?_
  refine ev_putR 0 dX1_init_15 (by decide) rfl ciX1 (by decide) (Or.inr ⟨rfl, rfl, rfl⟩) rfl flX1_15 rfl (fun _ => ⟨rfl, rfl⟩) upc ?_
  exact ev_vret dX1_init_18 rfl ⟨Nat.le_of_ble_eq_true rfl, Nat.le_of_ble_eq_true rfl⟩ ⟨rfl, rfl, rfl, rfl⟩
set_option maxRecDepth 8000 in
theorem tc57 (hF : Fr 58 N)   : Cn l D cy g (Kr 1 39) (Kr 1 39) yX5_init cX5_init 1 none (rmd 1 1 8) [vr g 57] 58 true N (PE none 59 true (ups [(57, 5, 58)] N)) := by
  refine Cn.of (by decide) (Nat.le_of_ble_eq_true rfl) ?_
  refine ev_al (al2 := [(0, vr g 57)]) rfl ?_
  refine ev_mem (N2 := ups [] N) rfl ?_
  refine ev_aload_n dX5_init_0 0 rfl ?_
  refine ev_objI dX5_init_1 oiX5 ⟨Nat.le_of_ble_eq_true rfl, Nat.le_of_ble_eq_true rfl⟩ (Nat.le_of_ble_eq_true rfl) ?_
  refine ev_aload_n dX5_init_4 0 rfl ?_
  refine ev_bipush dX5_init_5 rfl ?_
  refine ev_newI dX5_init_7 rfl (by decide) rfl (by decide) (fr hF rfl rfl) ⟨Nat.le_of_ble_eq_true rfl, Nat.le_of_ble_eq_true rfl⟩ ?_
  refine ev_putR 5 dX5_init_9 (by decide) rfl ciX5 (by decide) (Or.inr ⟨rfl, rfl, rfl⟩) rfl flX5_9 rfl (fun _ => ⟨rfl, rfl⟩) upc ?_
  exact ev_vret dX5_init_12 rfl ⟨Nat.le_of_ble_eq_true rfl, Nat.le_of_ble_eq_true rfl⟩ ⟨rfl, rfl, rfl, rfl⟩
set_option maxRecDepth 8000 in
theorem tc59 (hF : Fr 60 N)   : Cn l D cy g (Kr 1 39) (Kr 1 39) yX5_init cX5_init 1 none (rmd 1 1 8) [vr g 59] 60 true N (PE none 61 true (ups [(59, 5, 60)] N)) := by
  refine Cn.of (by decide) (Nat.le_of_ble_eq_true rfl) ?_
  refine ev_al (al2 := [(0, vr g 59)]) rfl ?_
  refine ev_mem (N2 := ups [] N) rfl ?_
  refine ev_aload_n dX5_init_0 0 rfl ?_
  refine ev_objI dX5_init_1 oiX5 ⟨Nat.le_of_ble_eq_true rfl, Nat.le_of_ble_eq_true rfl⟩ (Nat.le_of_ble_eq_true rfl) ?_
  refine ev_aload_n dX5_init_4 0 rfl ?_
  refine ev_bipush dX5_init_5 rfl ?_
  refine ev_newI dX5_init_7 rfl (by decide) rfl (by decide) (fr hF rfl rfl) ⟨Nat.le_of_ble_eq_true rfl, Nat.le_of_ble_eq_true rfl⟩ ?_
  refine ev_putR 5 dX5_init_9 (by decide) rfl ciX5 (by decide) (Or.inr ⟨rfl, rfl, rfl⟩) rfl flX5_9 rfl (fun _ => ⟨rfl, rfl⟩) upc ?_
  exact ev_vret dX5_init_12 rfl ⟨Nat.le_of_ble_eq_true rfl, Nat.le_of_ble_eq_true rfl⟩ ⟨rfl, rfl, rfl, rfl⟩
set_option maxRecDepth 8000 in
theorem tc61 (hF : Fr 62 N)   : Cn l D cy g (Kr 1 39) (Kr 1 39) yX5_init cX5_init 1 none (rmd 1 1 8) [vr g 61] 62 true N (PE none 63 true (ups [(61, 5, 62)] N)) := by
  refine Cn.of (by decide) (Nat.le_of_ble_eq_true rfl) ?_
  refine ev_al (al2 := [(0, vr g 61)]) rfl ?_
  refine ev_mem (N2 := ups [] N) rfl ?_
  refine ev_aload_n dX5_init_0 0 rfl ?_
  refine ev_objI dX5_init_1 oiX5 ⟨Nat.le_of_ble_eq_true rfl, Nat.le_of_ble_eq_true rfl⟩ (Nat.le_of_ble_eq_true rfl) ?_
  refine ev_aload_n dX5_init_4 0 rfl ?_
  refine ev_bipush dX5_init_5 rfl ?_
  refine ev_newI dX5_init_7 rfl (by decide) rfl (by decide) (fr hF rfl rfl) ⟨Nat.le_of_ble_eq_true rfl, Nat.le_of_ble_eq_true rfl⟩ ?_
  refine ev_putR 5 dX5_init_9 (by decide) rfl ciX5 (by decide) (Or.inr ⟨rfl, rfl, rfl⟩) rfl flX5_9 rfl (fun _ => ⟨rfl, rfl⟩) upc ?_
  exact ev_vret dX5_init_12 rfl ⟨Nat.le_of_ble_eq_true rfl, Nat.le_of_ble_eq_true rfl⟩ ⟨rfl, rfl, rfl, rfl⟩
set_option maxRecDepth 8000 in
theorem tc63 (hF : Fr 64 N)   : Cn l D cy g (Kr 1 39) (Kr 1 39) yX5_init cX5_init 1 none (rmd 1 1 8) [vr g 63] 64 true N (PE none 65 true (ups [(63, 5, 64)] N)) := by
  refine Cn.of (by decide) (Nat.le_of_ble_eq_true rfl) ?_
  refine ev_al (al2 := [(0, vr g 63)]) rfl ?_
  refine ev_mem (N2 := ups [] N) rfl ?_
  refine ev_aload_n dX5_init_0 0 rfl ?_
  refine ev_objI dX5_init_1 oiX5 ⟨Nat.le_of_ble_eq_true rfl, Nat.le_of_ble_eq_true rfl⟩ (Nat.le_of_ble_eq_true rfl) ?_
  refine ev_aload_n dX5_init_4 0 rfl ?_
  refine ev_bipush dX5_init_5 rfl ?_
  refine ev_newI dX5_init_7 rfl (by decide) rfl (by decide) (fr hF rfl rfl) ⟨Nat.le_of_ble_eq_true rfl, Nat.le_of_ble_eq_true rfl⟩ ?_
  refine ev_putR 5 dX5_init_9 (by decide) rfl ciX5 (by decide) (Or.inr ⟨rfl, rfl, rfl⟩) rfl flX5_9 rfl (fun _ => ⟨rfl, rfl⟩) upc ?_
  exact ev_vret dX5_init_12 rfl ⟨Nat.le_of_ble_eq_true rfl, Nat.le_of_ble_eq_true rfl⟩ ⟨rfl, rfl, rfl, rfl⟩
set_option maxRecDepth 8000 in
theorem tc65 (hF : Fr 66 N)   : Cn l D cy g (Kr 1 39) (Kr 1 39) yX8_init cX8_init 4 none (rmd 1 1 3840) [vr g 65, vr g 25, vi 1, vi 1] 66 true N (PE none 67 true (ups [(65, 2, 1), (65, 1, 1), (65, 0, 25), (65, 4, (-1)), (65, 3, 66)] N)) := by
  refine Cn.of (by decide) (Nat.le_of_ble_eq_true rfl) ?_
  refine ev_al (al2 := [(0, vr g 65), (1, vr g 25), (2, vi 1), (3, vi 1)]) rfl ?_
  refine ev_mem (N2 := ups [] N) rfl ?_
  refine ev_aload_n dX8_init_0 0 rfl ?_
  refine ev_objI dX8_init_1 oiX8 ⟨Nat.le_of_ble_eq_true rfl, Nat.le_of_ble_eq_true rfl⟩ (Nat.le_of_ble_eq_true rfl) ?_
  refine ev_aload_n dX8_init_4 0 rfl ?_
  refine ev_sipush dX8_init_5 rfl ?_
  refine ev_newI dX8_init_8 rfl (by decide) rfl (by decide) (fr hF rfl rfl) ⟨Nat.le_of_ble_eq_true rfl, Nat.le_of_ble_eq_true rfl⟩ ?_
  refine ev_putR 3 dX8_init_10 (by decide) rfl ciX8 (by decide) (Or.inr ⟨rfl, rfl, rfl⟩) rfl flX8_9 rfl (fun _ => ⟨rfl, rfl⟩) upc ?_
  refine ev_aload_n dX8_init_13 0 rfl ?_
  refine ev_iconst dX8_init_14 ?_
  refine ev_putI 4 dX8_init_15 (by decide) rfl ciX8 (by decide) (Or.inl rfl) rfl rfl flX8_15 upc ?_
  refine ev_aload_n dX8_init_18 0 rfl ?_
  refine ev_aload_n dX8_init_19 1 rfl ?_
  refine ev_putR 0 dX8_init_20 (by decide) rfl ciX8 (by decide) (Or.inr ⟨rfl, rfl, rfl⟩) rfl flX8_19 rfl (fun _ => ⟨rfl, rfl⟩) upc ?_
  refine ev_aload_n dX8_init_23 0 rfl ?_
  refine ev_iload_n dX8_init_24 2 rfl ?_
  refine ev_putZi 1 dX8_init_25 (by decide) rfl ciX8 (by decide) (Or.inr ⟨rfl, rfl, rfl⟩) rfl rfl flX8_23 (by decide) upc ?_
  refine ev_aload_n dX8_init_28 0 rfl ?_
  refine ev_iload_n dX8_init_29 3 rfl ?_
  refine ev_putI 2 dX8_init_30 (by decide) rfl ciX8 (by decide) (Or.inr ⟨rfl, rfl, rfl⟩) rfl rfl flX8_27 upc ?_
  exact ev_vret dX8_init_33 rfl ⟨Nat.le_of_ble_eq_true rfl, Nat.le_of_ble_eq_true rfl⟩ ⟨rfl, rfl, rfl, rfl⟩
set_option maxRecDepth 8000 in
theorem tc67 (hF : Fr 68 N)   : Cn l D cy g (Kr 1 39) (Kr 1 39) yX8_init cX8_init 4 none (rmd 1 1 3840) [vr g 67, vr g 25, vi 1, vi 2] 68 true N (PE none 69 true (ups [(67, 2, 2), (67, 1, 1), (67, 0, 25), (67, 4, (-1)), (67, 3, 68)] N)) := by
  refine Cn.of (by decide) (Nat.le_of_ble_eq_true rfl) ?_
  refine ev_al (al2 := [(0, vr g 67), (1, vr g 25), (2, vi 1), (3, vi 2)]) rfl ?_
  refine ev_mem (N2 := ups [] N) rfl ?_
  refine ev_aload_n dX8_init_0 0 rfl ?_
  refine ev_objI dX8_init_1 oiX8 ⟨Nat.le_of_ble_eq_true rfl, Nat.le_of_ble_eq_true rfl⟩ (Nat.le_of_ble_eq_true rfl) ?_
  refine ev_aload_n dX8_init_4 0 rfl ?_
  refine ev_sipush dX8_init_5 rfl ?_
  refine ev_newI dX8_init_8 rfl (by decide) rfl (by decide) (fr hF rfl rfl) ⟨Nat.le_of_ble_eq_true rfl, Nat.le_of_ble_eq_true rfl⟩ ?_
  refine ev_putR 3 dX8_init_10 (by decide) rfl ciX8 (by decide) (Or.inr ⟨rfl, rfl, rfl⟩) rfl flX8_9 rfl (fun _ => ⟨rfl, rfl⟩) upc ?_
  refine ev_aload_n dX8_init_13 0 rfl ?_
  refine ev_iconst dX8_init_14 ?_
  refine ev_putI 4 dX8_init_15 (by decide) rfl ciX8 (by decide) (Or.inl rfl) rfl rfl flX8_15 upc ?_
  refine ev_aload_n dX8_init_18 0 rfl ?_
  refine ev_aload_n dX8_init_19 1 rfl ?_
  refine ev_putR 0 dX8_init_20 (by decide) rfl ciX8 (by decide) (Or.inr ⟨rfl, rfl, rfl⟩) rfl flX8_19 rfl (fun _ => ⟨rfl, rfl⟩) upc ?_
  refine ev_aload_n dX8_init_23 0 rfl ?_
  refine ev_iload_n dX8_init_24 2 rfl ?_
  refine ev_putZi 1 dX8_init_25 (by decide) rfl ciX8 (by decide) (Or.inr ⟨rfl, rfl, rfl⟩) rfl rfl flX8_23 (by decide) upc ?_
  refine ev_aload_n dX8_init_28 0 rfl ?_
  refine ev_iload_n dX8_init_29 3 rfl ?_
  refine ev_putI 2 dX8_init_30 (by decide) rfl ciX8 (by decide) (Or.inr ⟨rfl, rfl, rfl⟩) rfl rfl flX8_27 upc ?_
  exact ev_vret dX8_init_33 rfl ⟨Nat.le_of_ble_eq_true rfl, Nat.le_of_ble_eq_true rfl⟩ ⟨rfl, rfl, rfl, rfl⟩
set_option maxRecDepth 8000 in
theorem tc69 (hF : Fr 70 N)   : Cn l D cy g (Kr 1 39) (Kr 1 39) yX8_init cX8_init 4 none (rmd 1 1 3840) [vr g 69, vr g 25, vi 1, vi 3] 70 true N (PE none 71 true (ups [(69, 2, 3), (69, 1, 1), (69, 0, 25), (69, 4, (-1)), (69, 3, 70)] N)) := by
  refine Cn.of (by decide) (Nat.le_of_ble_eq_true rfl) ?_
  refine ev_al (al2 := [(0, vr g 69), (1, vr g 25), (2, vi 1), (3, vi 3)]) rfl ?_
  refine ev_mem (N2 := ups [] N) rfl ?_
  refine ev_aload_n dX8_init_0 0 rfl ?_
  refine ev_objI dX8_init_1 oiX8 ⟨Nat.le_of_ble_eq_true rfl, Nat.le_of_ble_eq_true rfl⟩ (Nat.le_of_ble_eq_true rfl) ?_
  refine ev_aload_n dX8_init_4 0 rfl ?_
  refine ev_sipush dX8_init_5 rfl ?_
  refine ev_newI dX8_init_8 rfl (by decide) rfl (by decide) (fr hF rfl rfl) ⟨Nat.le_of_ble_eq_true rfl, Nat.le_of_ble_eq_true rfl⟩ ?_
  refine ev_putR 3 dX8_init_10 (by decide) rfl ciX8 (by decide) (Or.inr ⟨rfl, rfl, rfl⟩) rfl flX8_9 rfl (fun _ => ⟨rfl, rfl⟩) upc ?_
  refine ev_aload_n dX8_init_13 0 rfl ?_
  refine ev_iconst dX8_init_14 ?_
  refine ev_putI 4 dX8_init_15 (by decide) rfl ciX8 (by decide) (Or.inl rfl) rfl rfl flX8_15 upc ?_
  refine ev_aload_n dX8_init_18 0 rfl ?_
  refine ev_aload_n dX8_init_19 1 rfl ?_
  refine ev_putR 0 dX8_init_20 (by decide) rfl ciX8 (by decide) (Or.inr ⟨rfl, rfl, rfl⟩) rfl flX8_19 rfl (fun _ => ⟨rfl, rfl⟩) upc ?_
  refine ev_aload_n dX8_init_23 0 rfl ?_
  refine ev_iload_n dX8_init_24 2 rfl ?_
  refine ev_putZi 1 dX8_init_25 (by decide) rfl ciX8 (by decide) (Or.inr ⟨rfl, rfl, rfl⟩) rfl rfl flX8_23 (by decide) upc ?_
  refine ev_aload_n dX8_init_28 0 rfl ?_
  refine ev_iload_n dX8_init_29 3 rfl ?_
  refine ev_putI 2 dX8_init_30 (by decide) rfl ciX8 (by decide) (Or.inr ⟨rfl, rfl, rfl⟩) rfl rfl flX8_27 upc ?_
  exact ev_vret dX8_init_33 rfl ⟨Nat.le_of_ble_eq_true rfl, Nat.le_of_ble_eq_true rfl⟩ ⟨rfl, rfl, rfl, rfl⟩
set_option maxRecDepth 8000 in
theorem tc71 (hF : Fr 72 N)   : Cn l D cy g (Kr 1 39) (Kr 1 39) yX8_init cX8_init 4 none (rmd 1 1 3840) [vr g 71, vr g 25, vi 1, vi 4] 72 true N (PE none 73 true (ups [(71, 2, 4), (71, 1, 1), (71, 0, 25), (71, 4, (-1)), (71, 3, 72)] N)) := by
  refine Cn.of (by decide) (Nat.le_of_ble_eq_true rfl) ?_
  refine ev_al (al2 := [(0, vr g 71), (1, vr g 25), (2, vi 1), (3, vi 4)]) rfl ?_
  refine ev_mem (N2 := ups [] N) rfl ?_
  refine ev_aload_n dX8_init_0 0 rfl ?_
  refine ev_objI dX8_init_1 oiX8 ⟨Nat.le_of_ble_eq_true rfl, Nat.le_of_ble_eq_true rfl⟩ (Nat.le_of_ble_eq_true rfl) ?_
  refine ev_aload_n dX8_init_4 0 rfl ?_
  refine ev_sipush dX8_init_5 rfl ?_
  refine ev_newI dX8_init_8 rfl (by decide) rfl (by decide) (fr hF rfl rfl) ⟨Nat.le_of_ble_eq_true rfl, Nat.le_of_ble_eq_true rfl⟩ ?_
  refine ev_putR 3 dX8_init_10 (by decide) rfl ciX8 (by decide) (Or.inr ⟨rfl, rfl, rfl⟩) rfl flX8_9 rfl (fun _ => ⟨rfl, rfl⟩) upc ?_
  refine ev_aload_n dX8_init_13 0 rfl ?_
  refine ev_iconst dX8_init_14 ?_
  refine ev_putI 4 dX8_init_15 (by decide) rfl ciX8 (by decide) (Or.inl rfl) rfl rfl flX8_15 upc ?_
  refine ev_aload_n dX8_init_18 0 rfl ?_
  refine ev_aload_n dX8_init_19 1 rfl ?_
  refine ev_putR 0 dX8_init_20 (by decide) rfl ciX8 (by decide) (Or.inr ⟨rfl, rfl, rfl⟩) rfl flX8_19 rfl (fun _ => ⟨rfl, rfl⟩) upc ?_
  refine ev_aload_n dX8_init_23 0 rfl ?_
  refine ev_iload_n dX8_init_24 2 rfl ?_
  refine ev_putZi 1 dX8_init_25 (by decide) rfl ciX8 (by decide) (Or.inr ⟨rfl, rfl, rfl⟩) rfl rfl flX8_23 (by decide) upc ?_
  refine ev_aload_n dX8_init_28 0 rfl ?_
  refine ev_iload_n dX8_init_29 3 rfl ?_
  refine ev_putI 2 dX8_init_30 (by decide) rfl ciX8 (by decide) (Or.inr ⟨rfl, rfl, rfl⟩) rfl rfl flX8_27 upc ?_
  exact ev_vret dX8_init_33 rfl ⟨Nat.le_of_ble_eq_true rfl, Nat.le_of_ble_eq_true rfl⟩ ⟨rfl, rfl, rfl, rfl⟩
set_option maxRecDepth 8000 in
theorem tc73 (hF : Fr 74 N)   : Cn l D cy g (Kr 1 39) (Kr 1 39) yX8_init cX8_init 4 none (rmd 1 1 3840) [vr g 73, vr g 25, vi 1, vi 5] 74 true N (PE none 75 true (ups [(73, 2, 5), (73, 1, 1), (73, 0, 25), (73, 4, (-1)), (73, 3, 74)] N)) := by
  refine Cn.of (by decide) (Nat.le_of_ble_eq_true rfl) ?_
  refine ev_al (al2 := [(0, vr g 73), (1, vr g 25), (2, vi 1), (3, vi 5)]) rfl ?_
  refine ev_mem (N2 := ups [] N) rfl ?_
  refine ev_aload_n dX8_init_0 0 rfl ?_
  refine ev_objI dX8_init_1 oiX8 ⟨Nat.le_of_ble_eq_true rfl, Nat.le_of_ble_eq_true rfl⟩ (Nat.le_of_ble_eq_true rfl) ?_
  refine ev_aload_n dX8_init_4 0 rfl ?_
  refine ev_sipush dX8_init_5 rfl ?_
  refine ev_newI dX8_init_8 rfl (by decide) rfl (by decide) (fr hF rfl rfl) ⟨Nat.le_of_ble_eq_true rfl, Nat.le_of_ble_eq_true rfl⟩ ?_
  refine ev_putR 3 dX8_init_10 (by decide) rfl ciX8 (by decide) (Or.inr ⟨rfl, rfl, rfl⟩) rfl flX8_9 rfl (fun _ => ⟨rfl, rfl⟩) upc ?_
  refine ev_aload_n dX8_init_13 0 rfl ?_
  refine ev_iconst dX8_init_14 ?_
  refine ev_putI 4 dX8_init_15 (by decide) rfl ciX8 (by decide) (Or.inl rfl) rfl rfl flX8_15 upc ?_
  refine ev_aload_n dX8_init_18 0 rfl ?_
  refine ev_aload_n dX8_init_19 1 rfl ?_
  refine ev_putR 0 dX8_init_20 (by decide) rfl ciX8 (by decide) (Or.inr ⟨rfl, rfl, rfl⟩) rfl flX8_19 rfl (fun _ => ⟨rfl, rfl⟩) upc ?_
  refine ev_aload_n dX8_init_23 0 rfl ?_
  refine ev_iload_n dX8_init_24 2 rfl ?_
  refine ev_putZi 1 dX8_init_25 (by decide) rfl ciX8 (by decide) (Or.inr ⟨rfl, rfl, rfl⟩) rfl rfl flX8_23 (by decide) upc ?_
  refine ev_aload_n dX8_init_28 0 rfl ?_
  refine ev_iload_n dX8_init_29 3 rfl ?_
  refine ev_putI 2 dX8_init_30 (by decide) rfl ciX8 (by decide) (Or.inr ⟨rfl, rfl, rfl⟩) rfl rfl flX8_27 upc ?_
  exact ev_vret dX8_init_33 rfl ⟨Nat.le_of_ble_eq_true rfl, Nat.le_of_ble_eq_true rfl⟩ ⟨rfl, rfl, rfl, rfl⟩
def us_C : List (Nat × Nat × Int) := [(48, 4, 73), (73, 2, 5), (73, 1, 1), (73, 0, 25), (73, 4, (-1)), (73, 3, 74), (48, 3, 71), (71, 2, 4), (71, 1, 1), (71, 0, 25), (71, 4, (-1)), (71, 3, 72), (48, 2, 69), (69, 2, 3), (69, 1, 1), (69, 0, 25), (69, 4, (-1)), (69, 3, 70), (48, 1, 67), (67, 2, 2), (67, 1, 1), (67, 0, 25), (67, 4, (-1)), (67, 3, 68), (48, 0, 65), (65, 2, 1), (65, 1, 1), (65, 0, 25), (65, 4, (-1)), (65, 3, 66), (43, 3, 63), (63, 5, 64), (43, 2, 61), (61, 5, 62), (43, 1, 59), (59, 5, 60), (43, 0, 57), (57, 5, 58), (0, 17, 55), (55, 0, 25), (55, 1, 56), (0, 16, 53), (53, 0, 25), (53, 1, 54), (0, 15, 51), (51, 2, 0), (51, 1, 0), (51, 0, 25), (51, 4, (-1)), (51, 3, 52), (0, 14, 49), (49, 2, 0), (49, 1, 1), (49, 0, 25), (49, 4, (-1)), (49, 3, 50), (0, 13, 48), (0, 12, 46), (46, 2, 0), (46, 1, 1), (46, 0, 25), (46, 4, (-1)), (46, 3, 47), (0, 10, 45), (0, 9, 44), (0, 8, 43), (0, 7, 41), (41, 5, 42), (0, 6, (-1)), (0, 5, 39), (39, 0, 40), (0, 4, 25)]
theorem fzC (N o1 : Mem) : ∀ q ∈ setT, inR 0 75 q.1 = true → inR 1 39 q.1 = false → q.1 < 75 → ups us_C (LR 1 39 (ups us_A N) o1) q.1 q.2.1 = (q.2.2 : Int) := by
  intro q h1 h2 h3 h4
  rw [ups_LR _ _ h3, ups_app]
  exact fz_us (lo := 1) (hi := 39) (us_C ++ us_A) (by decide +kernel) q h1 h2 h3 h4
abbrev mC (N o1 : Mem) : Mem := ups us_C (LR 1 39 (ups us_A N) o1)
set_option maxRecDepth 8000 in
theorem tc0 (hF : Fr 1 N) {o1 : Mem} {o2 : Int × Mem} (hx1 : fX7_learn 5 (ups us_S (ups us_A0 N)) = some o1) (hx2 : fX7_told (mC N o1) = some o2) : Cn l D cy g (Kr 0 0) (Kr 0 75) yX11_init cX11_init 2 none (rmd 7 74 58838) [vr g 0] 1 true N (PE none 75 true (LR 0 75 (mC N o1) (fX5_begin 41 o2.1 o2.2))) := by
  refine Cn.of (by decide) (Nat.le_of_ble_eq_true rfl) ?_
  refine ev_al (al2 := [(0, vr g 0)]) rfl ?_
  refine ev_mem (N2 := ups [] N) rfl ?_
  refine ev_aload_n dX11_init_0 0 rfl ?_
  refine ev_objI dX11_init_1 oiX11 ⟨Nat.le_of_ble_eq_true rfl, Nat.le_of_ble_eq_true rfl⟩ (Nat.le_of_ble_eq_true rfl) ?_
  refine ev_aload_n dX11_init_4 0 rfl ?_
  refine ev_new dX11_init_5 rfl ciX9 clX11_7 itX9 iniX9 (by decide) rfl (fr hF rfl rfl) (dvX9 g) ⟨Nat.le_of_ble_eq_true rfl, Nat.le_of_ble_eq_true rfl⟩ ?_
  refine ev_dup dX11_init_8 rfl ?_
  refine cl_IN (host := "HotCakes") (As := []) (st := [vr g 1, vr g 0]) miX9_init (tc1 (hF.ups rfl rfl)) dX11_init_9 (by decide) inX9_init rfl ⟨⟨Nat.le_of_ble_eq_true rfl, Nat.le_of_ble_eq_true rfl⟩, Nat.le_of_ble_eq_true rfl, Nat.le_of_ble_eq_true rfl⟩ (Nat.le_of_ble_eq_true rfl) ?_
  refine ev_mem (ups_app _ _) ?_
  refine ev_putR 0 dX11_init_12 (by decide) rfl ciX11 (by decide) (Or.inr ⟨rfl, rfl, rfl⟩) rfl flX11_10 rfl (fun _ => ⟨rfl, rfl⟩) upc ?_
  refine ev_aload_n dX11_init_15 0 rfl ?_
  refine ev_new dX11_init_16 rfl ciX6 clX11_16 itX6 iniX6 (by decide) rfl (fr hF rfl rfl) (dvX6 g) ⟨Nat.le_of_ble_eq_true rfl, Nat.le_of_ble_eq_true rfl⟩ ?_
  refine ev_dup dX11_init_19 rfl ?_
  refine ev_aload_n dX11_init_20 0 rfl ?_
  refine ev_getRv 0 1 dX11_init_21 (by decide) rfl (ups_rd _ _ _ rfl) rfl ciX11 (by decide) rfl flX11_10 ?_
  refine cl_I (As := [vr g 1]) (st := [vr g 3, vr g 0]) miX6_init (tc3 (hF.ups rfl rfl)) dX11_init_24 lkX11_18 inX6_init rfl ⟨⟨Nat.le_of_ble_eq_true rfl, Nat.le_of_ble_eq_true rfl⟩, Nat.le_of_ble_eq_true rfl, Nat.le_of_ble_eq_true rfl⟩ (Nat.le_of_ble_eq_true rfl) ?_
  refine ev_mem (ups_app _ _) ?_
  refine ev_putR 1 dX11_init_27 (by decide) rfl ciX11 (by decide) (Or.inr ⟨rfl, rfl, rfl⟩) rfl flX11_21 rfl (fun _ => ⟨rfl, rfl⟩) upc ?_
  refine ev_aload_n dX11_init_30 0 rfl ?_
  refine ev_new dX11_init_31 rfl ciX2 clX11_25 itX2 iniX2 (by decide) rfl (fr hF rfl rfl) (dvX2 g) ⟨Nat.le_of_ble_eq_true rfl, Nat.le_of_ble_eq_true rfl⟩ ?_
  refine ev_dup dX11_init_34 rfl ?_
  refine cl_IN (host := "HotCakes") (As := []) (st := [vr g 5, vr g 0]) miX2_init (tc5 (hF.ups rfl rfl)) dX11_init_35 (by decide) inX2_init rfl ⟨⟨Nat.le_of_ble_eq_true rfl, Nat.le_of_ble_eq_true rfl⟩, Nat.le_of_ble_eq_true rfl, Nat.le_of_ble_eq_true rfl⟩ (Nat.le_of_ble_eq_true rfl) ?_
  refine ev_mem (ups_app _ _) ?_
  refine ev_putR 2 dX11_init_38 (by decide) rfl ciX11 (by decide) (Or.inl rfl) rfl flX11_28 rfl (fun _ => ⟨rfl, rfl⟩) upc ?_
  refine ev_aload_n dX11_init_41 0 rfl ?_
  refine ev_new dX11_init_42 rfl ciX2 clX11_25 itX2 iniX2 (by decide) rfl (fr hF rfl rfl) (dvX2 g) ⟨Nat.le_of_ble_eq_true rfl, Nat.le_of_ble_eq_true rfl⟩ ?_
  refine ev_dup dX11_init_45 rfl ?_
  refine cl_IN (host := "HotCakes") (As := []) (st := [vr g 15, vr g 0]) miX2_init (tc15 (hF.ups rfl rfl)) dX11_init_46 (by decide) inX2_init rfl ⟨⟨Nat.le_of_ble_eq_true rfl, Nat.le_of_ble_eq_true rfl⟩, Nat.le_of_ble_eq_true rfl, Nat.le_of_ble_eq_true rfl⟩ (Nat.le_of_ble_eq_true rfl) ?_
  refine ev_mem (ups_app _ _) ?_
  refine ev_putR 3 dX11_init_49 (by decide) rfl ciX11 (by decide) (Or.inl rfl) rfl flX11_32 rfl (fun _ => ⟨rfl, rfl⟩) upc ?_
  refine ev_aload_n dX11_init_52 0 rfl ?_
  refine ev_new dX11_init_53 rfl ciX7 clX11_35 itX7 iniX7 (by decide) rfl (fr hF rfl rfl) (dvX7 g) ⟨Nat.le_of_ble_eq_true rfl, Nat.le_of_ble_eq_true rfl⟩ ?_
  refine ev_dup dX11_init_56 rfl ?_
  refine ev_aload_n dX11_init_57 0 rfl ?_
  refine ev_getRv 2 5 dX11_init_58 (by decide) rfl (ups_rd _ _ _ rfl) rfl ciX11 (by decide) rfl flX11_28 ?_
  refine cl_I (As := [vr g 5]) (st := [vr g 25, vr g 0]) miX7_init (tc25 (hF.ups rfl rfl) hx1 (fzA N)) dX11_init_61 lkX11_37 inX7_init rfl ⟨⟨Nat.le_of_ble_eq_true rfl, Nat.le_of_ble_eq_true rfl⟩, Nat.le_of_ble_eq_true rfl, Nat.le_of_ble_eq_true rfl⟩ (Nat.le_of_ble_eq_true rfl) ?_
  refine ev_mem (N2 := LR 1 39 (ups us_A N) o1) (congrArg (fun m => LR 1 39 m o1) (ups_app _ _)) ?_
  have hF1 : Fr 39 (LR 1 39 (ups us_A N) o1) := frLR (hF.ups rfl rfl) rfl
  refine ev_mem (N2 := ups [] (LR 1 39 (ups us_A N) o1)) rfl ?_
  refine ev_putR 4 dX11_init_64 (by decide) rfl ciX11 (by decide) (Or.inr ⟨rfl, rfl, rfl⟩) rfl flX11_40 rfl (fun _ => ⟨rfl, rfl⟩) upc ?_
  refine ev_aload_n dX11_init_67 0 rfl ?_
  refine ev_new dX11_init_68 rfl ciX4 clX11_44 itX4 iniX4 (by decide) rfl (fr hF1 rfl rfl) (dvX4 g) ⟨Nat.le_of_ble_eq_true rfl, Nat.le_of_ble_eq_true rfl⟩ ?_
  refine ev_dup dX11_init_71 rfl ?_
  refine cl_IN (host := "HotCakes") (As := []) (st := [vr g 39, vr g 0]) miX4_init (tc39 (hF1.ups rfl rfl)) dX11_init_72 (by decide) inX4_init rfl ⟨⟨Nat.le_of_ble_eq_true rfl, Nat.le_of_ble_eq_true rfl⟩, Nat.le_of_ble_eq_true rfl, Nat.le_of_ble_eq_true rfl⟩ (Nat.le_of_ble_eq_true rfl) ?_
  refine ev_mem (ups_app _ _) ?_
  refine ev_putR 5 dX11_init_75 (by decide) rfl ciX11 (by decide) (Or.inr ⟨rfl, rfl, rfl⟩) rfl flX11_47 rfl (fun _ => ⟨rfl, rfl⟩) upc ?_
  refine ev_aload_n dX11_init_78 0 rfl ?_
  refine ev_iconst dX11_init_79 ?_
  refine ev_putI 6 dX11_init_80 (by decide) rfl ciX11 (by decide) (Or.inl rfl) rfl rfl flX11_51 upc ?_
  refine ev_aload_n dX11_init_83 0 rfl ?_
  refine ev_new dX11_init_84 rfl ciX5 clX11_55 itX5 iniX5 (by decide) rfl (fr hF1 rfl rfl) (dvX5 g) ⟨Nat.le_of_ble_eq_true rfl, Nat.le_of_ble_eq_true rfl⟩ ?_
  refine ev_dup dX11_init_87 rfl ?_
  refine cl_IN (host := "HotCakes") (As := []) (st := [vr g 41, vr g 0]) miX5_init (tc41 (hF1.ups rfl rfl)) dX11_init_88 (by decide) inX5_init rfl ⟨⟨Nat.le_of_ble_eq_true rfl, Nat.le_of_ble_eq_true rfl⟩, Nat.le_of_ble_eq_true rfl, Nat.le_of_ble_eq_true rfl⟩ (Nat.le_of_ble_eq_true rfl) ?_
  refine ev_mem (ups_app _ _) ?_
  refine ev_putR 7 dX11_init_91 (by decide) rfl ciX11 (by decide) (Or.inr ⟨rfl, rfl, rfl⟩) rfl flX11_58 rfl (fun _ => ⟨rfl, rfl⟩) upc ?_
  refine ev_aload_n dX11_init_94 0 rfl ?_
  refine ev_iconst dX11_init_95 ?_
  refine ev_anewM dX11_init_96 clX11_55 rfl (by decide) rfl (by decide) rfl (fr hF1 rfl rfl) ⟨Nat.le_of_ble_eq_true rfl, Nat.le_of_ble_eq_true rfl⟩ ?_
  refine ev_putR 8 dX11_init_99 (by decide) rfl ciX11 (by decide) (Or.inr ⟨rfl, rfl, rfl⟩) rfl flX11_62 rfl (fun _ => ⟨rfl, rfl⟩) upc ?_
  refine ev_aload_n dX11_init_102 0 rfl ?_
  refine ev_bipush dX11_init_103 rfl ?_
  refine ev_newI dX11_init_105 rfl (by decide) rfl (by decide) (fr hF1 rfl rfl) ⟨Nat.le_of_ble_eq_true rfl, Nat.le_of_ble_eq_true rfl⟩ ?_
  refine ev_putR 9 dX11_init_107 (by decide) rfl ciX11 (by decide) (Or.inr ⟨rfl, rfl, rfl⟩) rfl flX11_66 rfl (fun _ => ⟨rfl, rfl⟩) upc ?_
  refine ev_aload_n dX11_init_110 0 rfl ?_
  refine ev_bipush dX11_init_111 rfl ?_
  refine ev_newI dX11_init_113 rfl (by decide) rfl (by decide) (fr hF1 rfl rfl) ⟨Nat.le_of_ble_eq_true rfl, Nat.le_of_ble_eq_true rfl⟩ ?_
  refine ev_putR 10 dX11_init_115 (by decide) rfl ciX11 (by decide) (Or.inr ⟨rfl, rfl, rfl⟩) rfl flX11_70 rfl (fun _ => ⟨rfl, rfl⟩) upc ?_
  refine ev_aload_n dX11_init_118 0 rfl ?_
  refine ev_new dX11_init_119 rfl ciX8 clX11_73 itX8 iniX8 (by decide) rfl (fr hF1 rfl rfl) (dvX8 g) ⟨Nat.le_of_ble_eq_true rfl, Nat.le_of_ble_eq_true rfl⟩ ?_
  refine ev_dup dX11_init_122 rfl ?_
  refine ev_aload_n dX11_init_123 0 rfl ?_
  refine ev_getRv 4 25 dX11_init_124 (by decide) rfl (ups_rd _ _ _ rfl) rfl ciX11 (by decide) rfl flX11_40 ?_
  refine ev_iconst dX11_init_127 ?_
  refine ev_iconst dX11_init_128 ?_
  refine cl_I (As := [vr g 25, vi 1, vi 0]) (st := [vr g 46, vr g 0]) miX8_init (tc46 (hF1.ups rfl rfl)) dX11_init_129 lkX11_75 inX8_init rfl ⟨⟨Nat.le_of_ble_eq_true rfl, Nat.le_of_ble_eq_true rfl⟩, Nat.le_of_ble_eq_true rfl, Nat.le_of_ble_eq_true rfl⟩ (Nat.le_of_ble_eq_true rfl) ?_
  refine ev_mem (ups_app _ _) ?_
  refine ev_putR 12 dX11_init_132 (by decide) rfl ciX11 (by decide) (Or.inr ⟨rfl, rfl, rfl⟩) rfl flX11_78 rfl (fun _ => ⟨rfl, rfl⟩) upc ?_
  refine ev_aload_n dX11_init_135 0 rfl ?_
  refine ev_iconst dX11_init_136 ?_
  refine ev_anewS dX11_init_137 clX11_73 rfl (by decide) rfl (by decide) rfl (fr hF1 rfl rfl) ⟨Nat.le_of_ble_eq_true rfl, Nat.le_of_ble_eq_true rfl⟩ ?_
  refine ev_putR 13 dX11_init_140 (by decide) rfl ciX11 (by decide) (Or.inr ⟨rfl, rfl, rfl⟩) rfl flX11_82 rfl (fun _ => ⟨rfl, rfl⟩) upc ?_
  refine ev_aload_n dX11_init_143 0 rfl ?_
  refine ev_new dX11_init_144 rfl ciX8 clX11_73 itX8 iniX8 (by decide) rfl (fr hF1 rfl rfl) (dvX8 g) ⟨Nat.le_of_ble_eq_true rfl, Nat.le_of_ble_eq_true rfl⟩ ?_
  refine ev_dup dX11_init_147 rfl ?_
  refine ev_aload_n dX11_init_148 0 rfl ?_
  refine ev_getRv 4 25 dX11_init_149 (by decide) rfl (ups_rd _ _ _ rfl) rfl ciX11 (by decide) rfl flX11_40 ?_
  refine ev_iconst dX11_init_152 ?_
  refine ev_iconst dX11_init_153 ?_
  refine cl_I (As := [vr g 25, vi 1, vi 0]) (st := [vr g 49, vr g 0]) miX8_init (tc49 (hF1.ups rfl rfl)) dX11_init_154 lkX11_75 inX8_init rfl ⟨⟨Nat.le_of_ble_eq_true rfl, Nat.le_of_ble_eq_true rfl⟩, Nat.le_of_ble_eq_true rfl, Nat.le_of_ble_eq_true rfl⟩ (Nat.le_of_ble_eq_true rfl) ?_
  refine ev_mem (ups_app _ _) ?_
  refine ev_putR 14 dX11_init_157 (by decide) rfl ciX11 (by decide) (Or.inr ⟨rfl, rfl, rfl⟩) rfl flX11_86 rfl (fun _ => ⟨rfl, rfl⟩) upc ?_
  refine ev_aload_n dX11_init_160 0 rfl ?_
  refine ev_new dX11_init_161 rfl ciX8 clX11_73 itX8 iniX8 (by decide) rfl (fr hF1 rfl rfl) (dvX8 g) ⟨Nat.le_of_ble_eq_true rfl, Nat.le_of_ble_eq_true rfl⟩ ?_
  refine ev_dup dX11_init_164 rfl ?_
  refine ev_aload_n dX11_init_165 0 rfl ?_
  refine ev_getRv 4 25 dX11_init_166 (by decide) rfl (ups_rd _ _ _ rfl) rfl ciX11 (by decide) rfl flX11_40 ?_
  refine ev_iconst dX11_init_169 ?_
  refine ev_iconst dX11_init_170 ?_
  refine cl_I (As := [vr g 25, vi 0, vi 0]) (st := [vr g 51, vr g 0]) miX8_init (tc51 (hF1.ups rfl rfl)) dX11_init_171 lkX11_75 inX8_init rfl ⟨⟨Nat.le_of_ble_eq_true rfl, Nat.le_of_ble_eq_true rfl⟩, Nat.le_of_ble_eq_true rfl, Nat.le_of_ble_eq_true rfl⟩ (Nat.le_of_ble_eq_true rfl) ?_
  refine ev_mem (ups_app _ _) ?_
  refine ev_putR 15 dX11_init_174 (by decide) rfl ciX11 (by decide) (Or.inr ⟨rfl, rfl, rfl⟩) rfl flX11_89 rfl (fun _ => ⟨rfl, rfl⟩) upc ?_
  refine ev_aload_n dX11_init_177 0 rfl ?_
  refine ev_new dX11_init_178 rfl ciX0 clX11_92 itX0 iniX0 (by decide) rfl (fr hF1 rfl rfl) (dvX0 g) ⟨Nat.le_of_ble_eq_true rfl, Nat.le_of_ble_eq_true rfl⟩ ?_
  refine ev_dup dX11_init_181 rfl ?_
  refine ev_aload_n dX11_init_182 0 rfl ?_
  refine ev_getRv 4 25 dX11_init_183 (by decide) rfl (ups_rd _ _ _ rfl) rfl ciX11 (by decide) rfl flX11_40 ?_
  refine cl_I (As := [vr g 25]) (st := [vr g 53, vr g 0]) miX0_init (tc53 (hF1.ups rfl rfl)) dX11_init_186 lkX11_94 inX0_init rfl ⟨⟨Nat.le_of_ble_eq_true rfl, Nat.le_of_ble_eq_true rfl⟩, Nat.le_of_ble_eq_true rfl, Nat.le_of_ble_eq_true rfl⟩ (Nat.le_of_ble_eq_true rfl) ?_
  refine ev_mem (ups_app _ _) ?_
  refine ev_putR 16 dX11_init_189 (by decide) rfl ciX11 (by decide) (Or.inr ⟨rfl, rfl, rfl⟩) rfl flX11_97 rfl (fun _ => ⟨rfl, rfl⟩) upc ?_
  refine ev_aload_n dX11_init_192 0 rfl ?_
  refine ev_new dX11_init_193 rfl ciX1 clX11_101 itX1 iniX1 (by decide) rfl (fr hF1 rfl rfl) (dvX1 g) ⟨Nat.le_of_ble_eq_true rfl, Nat.le_of_ble_eq_true rfl⟩ ?_
  refine ev_dup dX11_init_196 rfl ?_
  refine ev_aload_n dX11_init_197 0 rfl ?_
  refine ev_getRv 4 25 dX11_init_198 (by decide) rfl (ups_rd _ _ _ rfl) rfl ciX11 (by decide) rfl flX11_40 ?_
  refine cl_I (As := [vr g 25]) (st := [vr g 55, vr g 0]) miX1_init (tc55 (hF1.ups rfl rfl)) dX11_init_201 lkX11_103 inX1_init rfl ⟨⟨Nat.le_of_ble_eq_true rfl, Nat.le_of_ble_eq_true rfl⟩, Nat.le_of_ble_eq_true rfl, Nat.le_of_ble_eq_true rfl⟩ (Nat.le_of_ble_eq_true rfl) ?_
  refine ev_mem (ups_app _ _) ?_
  refine ev_putR 17 dX11_init_204 (by decide) rfl ciX11 (by decide) (Or.inr ⟨rfl, rfl, rfl⟩) rfl flX11_104 rfl (fun _ => ⟨rfl, rfl⟩) upc ?_
  refine ev_iconst dX11_init_207 ?_
  refine ev_istore_n dX11_init_208 1 rfl (by decide) rfl ?_
  refine ev_iload_n dX11_init_209 0 rfl ?_
  refine ev_aload_n dX11_init_210 1 rfl ?_
  refine ev_getRv 8 43 dX11_init_211 (by decide) rfl (ups_rd _ _ _ rfl) rfl ciX11 (by decide) rfl flX11_62 ?_
  refine ev_alenM dX11_init_214 (by decide) rfl ?_
  refine ev_icmp_ge 237 dX11_init_215 (by decide) (fun h => absurd (by decide) h) (fun _ => ?_)
  refine ev_aload_n dX11_init_218 1 rfl ?_
  refine ev_getRv 8 43 dX11_init_219 (by decide) rfl (ups_rd _ _ _ rfl) rfl ciX11 (by decide) rfl flX11_62 ?_
  refine ev_iload_n dX11_init_222 0 rfl ?_
  refine ev_new dX11_init_223 rfl ciX5 clX11_55 itX5 iniX5 (by decide) rfl (fr hF1 rfl rfl) (dvX5 g) ⟨Nat.le_of_ble_eq_true rfl, Nat.le_of_ble_eq_true rfl⟩ ?_
  refine ev_dup dX11_init_226 rfl ?_
  refine cl_IN (host := "HotCakes") (As := []) (st := [vr g 57, vi 0, vr g 43]) miX5_init (tc57 (hF1.ups rfl rfl)) dX11_init_227 (by decide) inX5_init rfl ⟨⟨Nat.le_of_ble_eq_true rfl, Nat.le_of_ble_eq_true rfl⟩, Nat.le_of_ble_eq_true rfl, Nat.le_of_ble_eq_true rfl⟩ (Nat.le_of_ble_eq_true rfl) ?_
  refine ev_mem (ups_app _ _) ?_
  refine ev_aastM (j := 0) dX11_init_230 (by decide) rfl (by decide) rfl (by decide) rfl ⟨rfl, rfl⟩ rfl upc ?_
  refine ev_iinc (v := 0) dX11_init_231 0 rfl (by decide) rfl ?_
  refine ev_al (al2 := [(1, vi 1), (0, vr g 0)]) rfl ?_
  refine ev_goto 209 dX11_init_234 (by decide) ?_
  refine ev_iload_n dX11_init_209 0 rfl ?_
  refine ev_aload_n dX11_init_210 1 rfl ?_
  refine ev_getRv 8 43 dX11_init_211 (by decide) rfl (ups_rd _ _ _ rfl) rfl ciX11 (by decide) rfl flX11_62 ?_
  refine ev_alenM dX11_init_214 (by decide) rfl ?_
  refine ev_icmp_ge 237 dX11_init_215 (by decide) (fun h => absurd (by decide) h) (fun _ => ?_)
  refine ev_aload_n dX11_init_218 1 rfl ?_
  refine ev_getRv 8 43 dX11_init_219 (by decide) rfl (ups_rd _ _ _ rfl) rfl ciX11 (by decide) rfl flX11_62 ?_
  refine ev_iload_n dX11_init_222 0 rfl ?_
  refine ev_new dX11_init_223 rfl ciX5 clX11_55 itX5 iniX5 (by decide) rfl (fr hF1 rfl rfl) (dvX5 g) ⟨Nat.le_of_ble_eq_true rfl, Nat.le_of_ble_eq_true rfl⟩ ?_
  refine ev_dup dX11_init_226 rfl ?_
  refine cl_IN (host := "HotCakes") (As := []) (st := [vr g 59, vi 1, vr g 43]) miX5_init (tc59 (hF1.ups rfl rfl)) dX11_init_227 (by decide) inX5_init rfl ⟨⟨Nat.le_of_ble_eq_true rfl, Nat.le_of_ble_eq_true rfl⟩, Nat.le_of_ble_eq_true rfl, Nat.le_of_ble_eq_true rfl⟩ (Nat.le_of_ble_eq_true rfl) ?_
  refine ev_mem (ups_app _ _) ?_
  refine ev_aastM (j := 1) dX11_init_230 (by decide) rfl (by decide) rfl (by decide) rfl ⟨rfl, rfl⟩ rfl upc ?_
  refine ev_iinc (v := 1) dX11_init_231 0 rfl (by decide) rfl ?_
  refine ev_al (al2 := [(1, vi 2), (0, vr g 0)]) rfl ?_
  refine ev_goto 209 dX11_init_234 (by decide) ?_
  refine ev_iload_n dX11_init_209 0 rfl ?_
  refine ev_aload_n dX11_init_210 1 rfl ?_
  refine ev_getRv 8 43 dX11_init_211 (by decide) rfl (ups_rd _ _ _ rfl) rfl ciX11 (by decide) rfl flX11_62 ?_
  refine ev_alenM dX11_init_214 (by decide) rfl ?_
  refine ev_icmp_ge 237 dX11_init_215 (by decide) (fun h => absurd (by decide) h) (fun _ => ?_)
  refine ev_aload_n dX11_init_218 1 rfl ?_
  refine ev_getRv 8 43 dX11_init_219 (by decide) rfl (ups_rd _ _ _ rfl) rfl ciX11 (by decide) rfl flX11_62 ?_
  refine ev_iload_n dX11_init_222 0 rfl ?_
  refine ev_new dX11_init_223 rfl ciX5 clX11_55 itX5 iniX5 (by decide) rfl (fr hF1 rfl rfl) (dvX5 g) ⟨Nat.le_of_ble_eq_true rfl, Nat.le_of_ble_eq_true rfl⟩ ?_
  refine ev_dup dX11_init_226 rfl ?_
  refine cl_IN (host := "HotCakes") (As := []) (st := [vr g 61, vi 2, vr g 43]) miX5_init (tc61 (hF1.ups rfl rfl)) dX11_init_227 (by decide) inX5_init rfl ⟨⟨Nat.le_of_ble_eq_true rfl, Nat.le_of_ble_eq_true rfl⟩, Nat.le_of_ble_eq_true rfl, Nat.le_of_ble_eq_true rfl⟩ (Nat.le_of_ble_eq_true rfl) ?_
  refine ev_mem (ups_app _ _) ?_
  refine ev_aastM (j := 2) dX11_init_230 (by decide) rfl (by decide) rfl (by decide) rfl ⟨rfl, rfl⟩ rfl upc ?_
  refine ev_iinc (v := 2) dX11_init_231 0 rfl (by decide) rfl ?_
  refine ev_al (al2 := [(1, vi 3), (0, vr g 0)]) rfl ?_
  refine ev_goto 209 dX11_init_234 (by decide) ?_
  refine ev_iload_n dX11_init_209 0 rfl ?_
  refine ev_aload_n dX11_init_210 1 rfl ?_
  refine ev_getRv 8 43 dX11_init_211 (by decide) rfl (ups_rd _ _ _ rfl) rfl ciX11 (by decide) rfl flX11_62 ?_
  refine ev_alenM dX11_init_214 (by decide) rfl ?_
  refine ev_icmp_ge 237 dX11_init_215 (by decide) (fun h => absurd (by decide) h) (fun _ => ?_)
  refine ev_aload_n dX11_init_218 1 rfl ?_
  refine ev_getRv 8 43 dX11_init_219 (by decide) rfl (ups_rd _ _ _ rfl) rfl ciX11 (by decide) rfl flX11_62 ?_
  refine ev_iload_n dX11_init_222 0 rfl ?_
  refine ev_new dX11_init_223 rfl ciX5 clX11_55 itX5 iniX5 (by decide) rfl (fr hF1 rfl rfl) (dvX5 g) ⟨Nat.le_of_ble_eq_true rfl, Nat.le_of_ble_eq_true rfl⟩ ?_
  refine ev_dup dX11_init_226 rfl ?_
  refine cl_IN (host := "HotCakes") (As := []) (st := [vr g 63, vi 3, vr g 43]) miX5_init (tc63 (hF1.ups rfl rfl)) dX11_init_227 (by decide) inX5_init rfl ⟨⟨Nat.le_of_ble_eq_true rfl, Nat.le_of_ble_eq_true rfl⟩, Nat.le_of_ble_eq_true rfl, Nat.le_of_ble_eq_true rfl⟩ (Nat.le_of_ble_eq_true rfl) ?_
  refine ev_mem (ups_app _ _) ?_
  refine ev_aastM (j := 3) dX11_init_230 (by decide) rfl (by decide) rfl (by decide) rfl ⟨rfl, rfl⟩ rfl upc ?_
  refine ev_iinc (v := 3) dX11_init_231 0 rfl (by decide) rfl ?_
  refine ev_al (al2 := [(1, vi 4), (0, vr g 0)]) rfl ?_
  refine ev_goto 209 dX11_init_234 (by decide) ?_
  refine ev_iload_n dX11_init_209 0 rfl ?_
  refine ev_aload_n dX11_init_210 1 rfl ?_
  refine ev_getRv 8 43 dX11_init_211 (by decide) rfl (ups_rd _ _ _ rfl) rfl ciX11 (by decide) rfl flX11_62 ?_
  refine ev_alenM dX11_init_214 (by decide) rfl ?_
  refine ev_icmp_ge 237 dX11_init_215 (by decide) (fun _ => ?_) (fun h => absurd h (by decide))
  refine ev_iconst dX11_init_237 ?_
  refine ev_istore_n dX11_init_238 1 rfl (by decide) rfl ?_
  refine ev_iload_n dX11_init_239 0 rfl ?_
  refine ev_aload_n dX11_init_240 1 rfl ?_
  refine ev_getRv 13 48 dX11_init_241 (by decide) rfl (ups_rd _ _ _ rfl) rfl ciX11 (by decide) rfl flX11_82 ?_
  refine ev_alenS dX11_init_244 (by decide) rfl ?_
  refine ev_icmp_ge 275 dX11_init_245 (by decide) (fun h => absurd (by decide) h) (fun _ => ?_)
  refine ev_aload_n dX11_init_248 1 rfl ?_
  refine ev_getRv 13 48 dX11_init_249 (by decide) rfl (ups_rd _ _ _ rfl) rfl ciX11 (by decide) rfl flX11_82 ?_
  refine ev_iload_n dX11_init_252 0 rfl ?_
  refine ev_new dX11_init_253 rfl ciX8 clX11_73 itX8 iniX8 (by decide) rfl (fr hF1 rfl rfl) (dvX8 g) ⟨Nat.le_of_ble_eq_true rfl, Nat.le_of_ble_eq_true rfl⟩ ?_
  refine ev_dup dX11_init_256 rfl ?_
  refine ev_aload_n dX11_init_257 1 rfl ?_
  refine ev_getRv 4 25 dX11_init_258 (by decide) rfl (ups_rd _ _ _ rfl) rfl ciX11 (by decide) rfl flX11_40 ?_
  refine ev_iconst dX11_init_261 ?_
  refine ev_iload_n dX11_init_262 0 rfl ?_
  refine ev_iconst dX11_init_263 ?_
  refine ev_iadd dX11_init_264 ?_
  refine ev_rni (a := 1) (by decide) ?_
  refine cl_I (As := [vr g 25, vi 1, vi 1]) (st := [vr g 65, vi 0, vr g 48]) miX8_init (tc65 (hF1.ups rfl rfl)) dX11_init_265 lkX11_75 inX8_init rfl ⟨⟨Nat.le_of_ble_eq_true rfl, Nat.le_of_ble_eq_true rfl⟩, Nat.le_of_ble_eq_true rfl, Nat.le_of_ble_eq_true rfl⟩ (Nat.le_of_ble_eq_true rfl) ?_
  refine ev_mem (ups_app _ _) ?_
  refine ev_aastS (j := 0) dX11_init_268 (by decide) rfl (by decide) rfl (by decide) rfl ⟨rfl, rfl⟩ rfl upc ?_
  refine ev_iinc (v := 0) dX11_init_269 0 rfl (by decide) rfl ?_
  refine ev_al (al2 := [(1, vi 1), (0, vr g 0)]) rfl ?_
  refine ev_goto 239 dX11_init_272 (by decide) ?_
  refine ev_iload_n dX11_init_239 0 rfl ?_
  refine ev_aload_n dX11_init_240 1 rfl ?_
  refine ev_getRv 13 48 dX11_init_241 (by decide) rfl (ups_rd _ _ _ rfl) rfl ciX11 (by decide) rfl flX11_82 ?_
  refine ev_alenS dX11_init_244 (by decide) rfl ?_
  refine ev_icmp_ge 275 dX11_init_245 (by decide) (fun h => absurd (by decide) h) (fun _ => ?_)
  refine ev_aload_n dX11_init_248 1 rfl ?_
  refine ev_getRv 13 48 dX11_init_249 (by decide) rfl (ups_rd _ _ _ rfl) rfl ciX11 (by decide) rfl flX11_82 ?_
  refine ev_iload_n dX11_init_252 0 rfl ?_
  refine ev_new dX11_init_253 rfl ciX8 clX11_73 itX8 iniX8 (by decide) rfl (fr hF1 rfl rfl) (dvX8 g) ⟨Nat.le_of_ble_eq_true rfl, Nat.le_of_ble_eq_true rfl⟩ ?_
  refine ev_dup dX11_init_256 rfl ?_
  refine ev_aload_n dX11_init_257 1 rfl ?_
  refine ev_getRv 4 25 dX11_init_258 (by decide) rfl (ups_rd _ _ _ rfl) rfl ciX11 (by decide) rfl flX11_40 ?_
  refine ev_iconst dX11_init_261 ?_
  refine ev_iload_n dX11_init_262 0 rfl ?_
  refine ev_iconst dX11_init_263 ?_
  refine ev_iadd dX11_init_264 ?_
  refine ev_rni (a := 2) (by decide) ?_
  refine cl_I (As := [vr g 25, vi 1, vi 2]) (st := [vr g 67, vi 1, vr g 48]) miX8_init (tc67 (hF1.ups rfl rfl)) dX11_init_265 lkX11_75 inX8_init rfl ⟨⟨Nat.le_of_ble_eq_true rfl, Nat.le_of_ble_eq_true rfl⟩, Nat.le_of_ble_eq_true rfl, Nat.le_of_ble_eq_true rfl⟩ (Nat.le_of_ble_eq_true rfl) ?_
  refine ev_mem (ups_app _ _) ?_
  refine ev_aastS (j := 1) dX11_init_268 (by decide) rfl (by decide) rfl (by decide) rfl ⟨rfl, rfl⟩ rfl upc ?_
  refine ev_iinc (v := 1) dX11_init_269 0 rfl (by decide) rfl ?_
  refine ev_al (al2 := [(1, vi 2), (0, vr g 0)]) rfl ?_
  refine ev_goto 239 dX11_init_272 (by decide) ?_
  refine ev_iload_n dX11_init_239 0 rfl ?_
  refine ev_aload_n dX11_init_240 1 rfl ?_
  refine ev_getRv 13 48 dX11_init_241 (by decide) rfl (ups_rd _ _ _ rfl) rfl ciX11 (by decide) rfl flX11_82 ?_
  refine ev_alenS dX11_init_244 (by decide) rfl ?_
  refine ev_icmp_ge 275 dX11_init_245 (by decide) (fun h => absurd (by decide) h) (fun _ => ?_)
  refine ev_aload_n dX11_init_248 1 rfl ?_
  refine ev_getRv 13 48 dX11_init_249 (by decide) rfl (ups_rd _ _ _ rfl) rfl ciX11 (by decide) rfl flX11_82 ?_
  refine ev_iload_n dX11_init_252 0 rfl ?_
  refine ev_new dX11_init_253 rfl ciX8 clX11_73 itX8 iniX8 (by decide) rfl (fr hF1 rfl rfl) (dvX8 g) ⟨Nat.le_of_ble_eq_true rfl, Nat.le_of_ble_eq_true rfl⟩ ?_
  refine ev_dup dX11_init_256 rfl ?_
  refine ev_aload_n dX11_init_257 1 rfl ?_
  refine ev_getRv 4 25 dX11_init_258 (by decide) rfl (ups_rd _ _ _ rfl) rfl ciX11 (by decide) rfl flX11_40 ?_
  refine ev_iconst dX11_init_261 ?_
  refine ev_iload_n dX11_init_262 0 rfl ?_
  refine ev_iconst dX11_init_263 ?_
  refine ev_iadd dX11_init_264 ?_
  refine ev_rni (a := 3) (by decide) ?_
  refine cl_I (As := [vr g 25, vi 1, vi 3]) (st := [vr g 69, vi 2, vr g 48]) miX8_init (tc69 (hF1.ups rfl rfl)) dX11_init_265 lkX11_75 inX8_init rfl ⟨⟨Nat.le_of_ble_eq_true rfl, Nat.le_of_ble_eq_true rfl⟩, Nat.le_of_ble_eq_true rfl, Nat.le_of_ble_eq_true rfl⟩ (Nat.le_of_ble_eq_true rfl) ?_
  refine ev_mem (ups_app _ _) ?_
  refine ev_aastS (j := 2) dX11_init_268 (by decide) rfl (by decide) rfl (by decide) rfl ⟨rfl, rfl⟩ rfl upc ?_
  refine ev_iinc (v := 2) dX11_init_269 0 rfl (by decide) rfl ?_
  refine ev_al (al2 := [(1, vi 3), (0, vr g 0)]) rfl ?_
  refine ev_goto 239 dX11_init_272 (by decide) ?_
  refine ev_iload_n dX11_init_239 0 rfl ?_
  refine ev_aload_n dX11_init_240 1 rfl ?_
  refine ev_getRv 13 48 dX11_init_241 (by decide) rfl (ups_rd _ _ _ rfl) rfl ciX11 (by decide) rfl flX11_82 ?_
  refine ev_alenS dX11_init_244 (by decide) rfl ?_
  refine ev_icmp_ge 275 dX11_init_245 (by decide) (fun h => absurd (by decide) h) (fun _ => ?_)
  refine ev_aload_n dX11_init_248 1 rfl ?_
  refine ev_getRv 13 48 dX11_init_249 (by decide) rfl (ups_rd _ _ _ rfl) rfl ciX11 (by decide) rfl flX11_82 ?_
  refine ev_iload_n dX11_init_252 0 rfl ?_
  refine ev_new dX11_init_253 rfl ciX8 clX11_73 itX8 iniX8 (by decide) rfl (fr hF1 rfl rfl) (dvX8 g) ⟨Nat.le_of_ble_eq_true rfl, Nat.le_of_ble_eq_true rfl⟩ ?_
  refine ev_dup dX11_init_256 rfl ?_
  refine ev_aload_n dX11_init_257 1 rfl ?_
  refine ev_getRv 4 25 dX11_init_258 (by decide) rfl (ups_rd _ _ _ rfl) rfl ciX11 (by decide) rfl flX11_40 ?_
  refine ev_iconst dX11_init_261 ?_
  refine ev_iload_n dX11_init_262 0 rfl ?_
  refine ev_iconst dX11_init_263 ?_
  refine ev_iadd dX11_init_264 ?_
  refine ev_rni (a := 4) (by decide) ?_
  refine cl_I (As := [vr g 25, vi 1, vi 4]) (st := [vr g 71, vi 3, vr g 48]) miX8_init (tc71 (hF1.ups rfl rfl)) dX11_init_265 lkX11_75 inX8_init rfl ⟨⟨Nat.le_of_ble_eq_true rfl, Nat.le_of_ble_eq_true rfl⟩, Nat.le_of_ble_eq_true rfl, Nat.le_of_ble_eq_true rfl⟩ (Nat.le_of_ble_eq_true rfl) ?_
  refine ev_mem (ups_app _ _) ?_
  refine ev_aastS (j := 3) dX11_init_268 (by decide) rfl (by decide) rfl (by decide) rfl ⟨rfl, rfl⟩ rfl upc ?_
  refine ev_iinc (v := 3) dX11_init_269 0 rfl (by decide) rfl ?_
  refine ev_al (al2 := [(1, vi 4), (0, vr g 0)]) rfl ?_
  refine ev_goto 239 dX11_init_272 (by decide) ?_
  refine ev_iload_n dX11_init_239 0 rfl ?_
  refine ev_aload_n dX11_init_240 1 rfl ?_
  refine ev_getRv 13 48 dX11_init_241 (by decide) rfl (ups_rd _ _ _ rfl) rfl ciX11 (by decide) rfl flX11_82 ?_
  refine ev_alenS dX11_init_244 (by decide) rfl ?_
  refine ev_icmp_ge 275 dX11_init_245 (by decide) (fun h => absurd (by decide) h) (fun _ => ?_)
  refine ev_aload_n dX11_init_248 1 rfl ?_
  refine ev_getRv 13 48 dX11_init_249 (by decide) rfl (ups_rd _ _ _ rfl) rfl ciX11 (by decide) rfl flX11_82 ?_
  refine ev_iload_n dX11_init_252 0 rfl ?_
  refine ev_new dX11_init_253 rfl ciX8 clX11_73 itX8 iniX8 (by decide) rfl (fr hF1 rfl rfl) (dvX8 g) ⟨Nat.le_of_ble_eq_true rfl, Nat.le_of_ble_eq_true rfl⟩ ?_
  refine ev_dup dX11_init_256 rfl ?_
  refine ev_aload_n dX11_init_257 1 rfl ?_
  refine ev_getRv 4 25 dX11_init_258 (by decide) rfl (ups_rd _ _ _ rfl) rfl ciX11 (by decide) rfl flX11_40 ?_
  refine ev_iconst dX11_init_261 ?_
  refine ev_iload_n dX11_init_262 0 rfl ?_
  refine ev_iconst dX11_init_263 ?_
  refine ev_iadd dX11_init_264 ?_
  refine ev_rni (a := 5) (by decide) ?_
  refine cl_I (As := [vr g 25, vi 1, vi 5]) (st := [vr g 73, vi 4, vr g 48]) miX8_init (tc73 (hF1.ups rfl rfl)) dX11_init_265 lkX11_75 inX8_init rfl ⟨⟨Nat.le_of_ble_eq_true rfl, Nat.le_of_ble_eq_true rfl⟩, Nat.le_of_ble_eq_true rfl, Nat.le_of_ble_eq_true rfl⟩ (Nat.le_of_ble_eq_true rfl) ?_
  refine ev_mem (ups_app _ _) ?_
  refine ev_aastS (j := 4) dX11_init_268 (by decide) rfl (by decide) rfl (by decide) rfl ⟨rfl, rfl⟩ rfl upc ?_
  refine ev_iinc (v := 4) dX11_init_269 0 rfl (by decide) rfl ?_
  refine ev_al (al2 := [(1, vi 5), (0, vr g 0)]) rfl ?_
  refine ev_goto 239 dX11_init_272 (by decide) ?_
  refine ev_iload_n dX11_init_239 0 rfl ?_
  refine ev_aload_n dX11_init_240 1 rfl ?_
  refine ev_getRv 13 48 dX11_init_241 (by decide) rfl (ups_rd _ _ _ rfl) rfl ciX11 (by decide) rfl flX11_82 ?_
  refine ev_alenS dX11_init_244 (by decide) rfl ?_
  refine ev_icmp_ge 275 dX11_init_245 (by decide) (fun _ => ?_) (fun h => absurd h (by decide))
  refine ev_aload_n dX11_init_275 1 rfl ?_
  refine ev_getRv 7 41 dX11_init_276 (by decide) rfl (ups_rd _ _ _ rfl) rfl ciX11 (by decide) rfl flX11_58 ?_
  refine ev_aload_n dX11_init_279 1 rfl ?_
  refine ev_getRv 4 25 dX11_init_280 (by decide) rfl (ups_rd _ _ _ rfl) rfl ciX11 (by decide) rfl flX11_40 ?_
  refine ev_mem (N2 := ups us_C (LR 1 39 (ups us_A N) o1)) rfl ?_
  refine ev_fz (K2 := Kr 0 75) (fz (fzC N o1) rfl) ?_
  refine ev_mem (LR_self (lo := 0) (hi := 75)) ?_
  refine cl_V1 (As := []) (st := [vr g 41]) miX7_told (tX7_told (sdR (N := mC N o1) (by decide) (fun k hk => Kr_in hk)) (CIn.w (lo := 0) (hi := 75) (fun k hk => hk) rfl rfl) (mC N o1) hx2) dX11_init_283 lkX11_108 inX7_told rfl (by decide) rfl ⟨rfl, rfl⟩ ⟨⟨Nat.le_of_ble_eq_true rfl, Nat.le_of_ble_eq_true rfl⟩, Nat.le_of_ble_eq_true rfl, Nat.le_of_ble_eq_true rfl⟩ (Nat.le_of_ble_eq_true rfl) ?_
  refine cl_V0 (As := [vi o2.1]) (st := []) miX5_begin (tX5_begin (sdR (N := mC N o1) (by decide) (fun k hk => Kr_in hk)) (CIn.w (lo := 0) (hi := 75) (fun k hk => hk) rfl rfl) 41 o2.1 o2.2 (by simp [isMo]) rfl) dX11_init_286 lkX11_112 inX5_begin rfl (by decide) rfl ⟨rfl, rfl⟩ ⟨⟨Nat.le_of_ble_eq_true rfl, Nat.le_of_ble_eq_true rfl⟩, Nat.le_of_ble_eq_true rfl, Nat.le_of_ble_eq_true rfl⟩ (Nat.le_of_ble_eq_true rfl) ?_
  exact ev_vret dX11_init_289 rfl ⟨Nat.le_of_ble_eq_true rfl, Nat.le_of_ble_eq_true rfl⟩ ⟨rfl, rfl, rfl, rfl⟩
--MODEL
def us_M : List (Nat × Nat × Int) := [(75, 29, 95), (75, 28, 94), (75, 27, 93), (75, 25, 92), (75, 24, 91), (75, 23, 90), (75, 21, 89), (75, 19, 88), (75, 18, 87), (75, 17, 86), (75, 15, 85), (75, 14, 84), (75, 13, 83), (75, 11, 82), (75, 10, 81), (75, 9, 80), (80, 17, 4681476), (80, 16, 1604747592), (80, 15, 614923), (80, 14, 1014841), (80, 13, 573), (80, 12, 1891), (80, 11, 19741), (80, 10, 507984067), (80, 9, 15248761), (80, 8, 6408940833), (80, 7, 30596128), (80, 6, 1042489), (80, 5, 6409048), (80, 4, 103360), (80, 3, 224012), (80, 2, 793), (80, 1, 1177493), (80, 0, 153740), (75, 6, 79), (75, 5, 78), (75, 4, 77), (75, 1, 76)]
theorem fzM (N : Mem) : ∀ q ∈ setT, inR 0 97 q.1 = true → inR 0 75 q.1 = false → q.1 < 96 → ups us_M N q.1 q.2.1 = (q.2.2 : Int) := fz_us us_M (by decide +kernel)
set_option maxRecDepth 8000 in
theorem tc75 (hF : Fr 76 N) {o3 : Mem} {o4 : Mem} (hx3 : fX12_standsAsAlways 0 (ups us_M N) = some o3) (hx4 : fX12_begins o3 = some o4) : Cn l D cy g (Kr 0 75) (Kr 0 97) yX12_init cX12_init 1 none (rmd 6 20 10948) [vr g 75] 76 true N (PE none 96 true (LR 75 96 (ups us_M N) o4)) := by
  refine Cn.of (by decide) (Nat.le_of_ble_eq_true rfl) ?_
  refine ev_al (al2 := [(0, vr g 75)]) rfl ?_
  refine ev_mem (N2 := ups [] N) rfl ?_
  refine ev_aload_n dX12_init_0 0 rfl ?_
  refine ev_objI dX12_init_1 oiX12 ⟨Nat.le_of_ble_eq_true rfl, Nat.le_of_ble_eq_true rfl⟩ (Nat.le_of_ble_eq_true rfl) ?_
  refine ev_aload_n dX12_init_4 0 rfl ?_
  refine ev_sipush dX12_init_5 rfl ?_
  refine ev_newI dX12_init_8 rfl (by decide) rfl (by decide) (fr hF rfl rfl) ⟨Nat.le_of_ble_eq_true rfl, Nat.le_of_ble_eq_true rfl⟩ ?_
  refine ev_putR 1 dX12_init_10 (by decide) rfl ciX12 (by decide) (Or.inr ⟨rfl, rfl, rfl⟩) rfl flX12_14 rfl (fun _ => ⟨rfl, rfl⟩) upc ?_
  refine ev_aload_n dX12_init_13 0 rfl ?_
  refine ev_sipush dX12_init_14 rfl ?_
  refine ev_newI dX12_init_17 rfl (by decide) rfl (by decide) (fr hF rfl rfl) ⟨Nat.le_of_ble_eq_true rfl, Nat.le_of_ble_eq_true rfl⟩ ?_
  refine ev_putR 4 dX12_init_19 (by decide) rfl ciX12 (by decide) (Or.inr ⟨rfl, rfl, rfl⟩) rfl flX12_24 rfl (fun _ => ⟨rfl, rfl⟩) upc ?_
  refine ev_aload_n dX12_init_22 0 rfl ?_
  refine ev_sipush dX12_init_23 rfl ?_
  refine ev_newI dX12_init_26 rfl (by decide) rfl (by decide) (fr hF rfl rfl) ⟨Nat.le_of_ble_eq_true rfl, Nat.le_of_ble_eq_true rfl⟩ ?_
  refine ev_putR 5 dX12_init_28 (by decide) rfl ciX12 (by decide) (Or.inr ⟨rfl, rfl, rfl⟩) rfl flX12_27 rfl (fun _ => ⟨rfl, rfl⟩) upc ?_
  refine ev_aload_n dX12_init_31 0 rfl ?_
  refine ev_sipush dX12_init_32 rfl ?_
  refine ev_newJ dX12_init_35 rfl (by decide) rfl (by decide) (fr hF rfl rfl) ⟨Nat.le_of_ble_eq_true rfl, Nat.le_of_ble_eq_true rfl⟩ ?_
  refine ev_putR 6 dX12_init_37 (by decide) rfl ciX12 (by decide) (Or.inr ⟨rfl, rfl, rfl⟩) rfl flX12_30 rfl (fun _ => ⟨rfl, rfl⟩) upc ?_
  refine ev_aload_n dX12_init_40 0 rfl ?_
  refine ev_bipush dX12_init_41 rfl ?_
  refine ev_newJ dX12_init_43 rfl (by decide) rfl (by decide) (fr hF rfl rfl) ⟨Nat.le_of_ble_eq_true rfl, Nat.le_of_ble_eq_true rfl⟩ ?_
  refine ev_dup dX12_init_45 rfl ?_
  refine ev_iconst dX12_init_46 ?_
  refine ev_ldc2 (153740) dX12_init_47 klX12_34 rfl ?_
  refine ev_last dX12_init_50 (by decide) rfl (by decide) (upcw 0 rfl) ?_
  refine ev_dup dX12_init_51 rfl ?_
  refine ev_iconst dX12_init_52 ?_
  refine ev_ldc2 (1177493) dX12_init_53 klX12_36 rfl ?_
  refine ev_last dX12_init_56 (by decide) rfl (by decide) (upcw 1 rfl) ?_
  refine ev_dup dX12_init_57 rfl ?_
  refine ev_iconst dX12_init_58 ?_
  refine ev_ldc2 (793) dX12_init_59 klX12_38 rfl ?_
  refine ev_last dX12_init_62 (by decide) rfl (by decide) (upcw 2 rfl) ?_
  refine ev_dup dX12_init_63 rfl ?_
  refine ev_iconst dX12_init_64 ?_
  refine ev_ldc2 (224012) dX12_init_65 klX12_40 rfl ?_
  refine ev_last dX12_init_68 (by decide) rfl (by decide) (upcw 3 rfl) ?_
  refine ev_dup dX12_init_69 rfl ?_
  refine ev_iconst dX12_init_70 ?_
  refine ev_ldc2 (103360) dX12_init_71 klX12_42 rfl ?_
  refine ev_last dX12_init_74 (by decide) rfl (by decide) (upcw 4 rfl) ?_
  refine ev_dup dX12_init_75 rfl ?_
  refine ev_iconst dX12_init_76 ?_
  refine ev_ldc2 (6409048) dX12_init_77 klX12_44 rfl ?_
  refine ev_last dX12_init_80 (by decide) rfl (by decide) (upcw 5 rfl) ?_
  refine ev_dup dX12_init_81 rfl ?_
  refine ev_bipush dX12_init_82 rfl ?_
  refine ev_ldc2 (1042489) dX12_init_84 klX12_46 rfl ?_
  refine ev_last dX12_init_87 (by decide) rfl (by decide) (upcw 6 rfl) ?_
  refine ev_dup dX12_init_88 rfl ?_
  refine ev_bipush dX12_init_89 rfl ?_
  refine ev_ldc2 (30596128) dX12_init_91 klX12_48 rfl ?_
  refine ev_last dX12_init_94 (by decide) rfl (by decide) (upcw 7 rfl) ?_
  refine ev_dup dX12_init_95 rfl ?_
  refine ev_bipush dX12_init_96 rfl ?_
  refine ev_ldc2 (6408940833) dX12_init_98 klX12_50 rfl ?_
  refine ev_last dX12_init_101 (by decide) rfl (by decide) (upcw 8 rfl) ?_
  refine ev_dup dX12_init_102 rfl ?_
  refine ev_bipush dX12_init_103 rfl ?_
  refine ev_ldc2 (15248761) dX12_init_105 klX12_52 rfl ?_
  refine ev_last dX12_init_108 (by decide) rfl (by decide) (upcw 9 rfl) ?_
  refine ev_dup dX12_init_109 rfl ?_
  refine ev_bipush dX12_init_110 rfl ?_
  refine ev_ldc2 (507984067) dX12_init_112 klX12_54 rfl ?_
  refine ev_last dX12_init_115 (by decide) rfl (by decide) (upcw 10 rfl) ?_
  refine ev_dup dX12_init_116 rfl ?_
  refine ev_bipush dX12_init_117 rfl ?_
  refine ev_ldc2 (19741) dX12_init_119 klX12_56 rfl ?_
  refine ev_last dX12_init_122 (by decide) rfl (by decide) (upcw 11 rfl) ?_
  refine ev_dup dX12_init_123 rfl ?_
  refine ev_bipush dX12_init_124 rfl ?_
  refine ev_ldc2 (1891) dX12_init_126 klX12_58 rfl ?_
  refine ev_last dX12_init_129 (by decide) rfl (by decide) (upcw 12 rfl) ?_
  refine ev_dup dX12_init_130 rfl ?_
  refine ev_bipush dX12_init_131 rfl ?_
  refine ev_ldc2 (573) dX12_init_133 klX12_60 rfl ?_
  refine ev_last dX12_init_136 (by decide) rfl (by decide) (upcw 13 rfl) ?_
  refine ev_dup dX12_init_137 rfl ?_
  refine ev_bipush dX12_init_138 rfl ?_
  refine ev_ldc2 (1014841) dX12_init_140 klX12_62 rfl ?_
  refine ev_last dX12_init_143 (by decide) rfl (by decide) (upcw 14 rfl) ?_
  refine ev_dup dX12_init_144 rfl ?_
  refine ev_bipush dX12_init_145 rfl ?_
  refine ev_ldc2 (614923) dX12_init_147 klX12_64 rfl ?_
  refine ev_last dX12_init_150 (by decide) rfl (by decide) (upcw 15 rfl) ?_
  refine ev_dup dX12_init_151 rfl ?_
  refine ev_bipush dX12_init_152 rfl ?_
  refine ev_ldc2 (1604747592) dX12_init_154 klX12_66 rfl ?_
  refine ev_last dX12_init_157 (by decide) rfl (by decide) (upcw 16 rfl) ?_
  refine ev_dup dX12_init_158 rfl ?_
  refine ev_bipush dX12_init_159 rfl ?_
  refine ev_ldc2 (4681476) dX12_init_161 klX12_68 rfl ?_
  refine ev_last dX12_init_164 (by decide) rfl (by decide) (upcw 17 rfl) ?_
  refine ev_putR 9 dX12_init_165 (by decide) rfl ciX12 (by decide) (Or.inr ⟨rfl, rfl, rfl⟩) rfl flX12_70 rfl (fun _ => ⟨rfl, rfl⟩) upc ?_
  refine ev_aload_n dX12_init_168 0 rfl ?_
  refine ev_bipush dX12_init_169 rfl ?_
  refine ev_newI dX12_init_171 rfl (by decide) rfl (by decide) (fr hF rfl rfl) ⟨Nat.le_of_ble_eq_true rfl, Nat.le_of_ble_eq_true rfl⟩ ?_
  refine ev_putR 10 dX12_init_173 (by decide) rfl ciX12 (by decide) (Or.inr ⟨rfl, rfl, rfl⟩) rfl flX12_73 rfl (fun _ => ⟨rfl, rfl⟩) upc ?_
  refine ev_aload_n dX12_init_176 0 rfl ?_
  refine ev_sipush dX12_init_177 rfl ?_
  refine ev_newI dX12_init_180 rfl (by decide) rfl (by decide) (fr hF rfl rfl) ⟨Nat.le_of_ble_eq_true rfl, Nat.le_of_ble_eq_true rfl⟩ ?_
  refine ev_putR 11 dX12_init_182 (by decide) rfl ciX12 (by decide) (Or.inr ⟨rfl, rfl, rfl⟩) rfl flX12_76 rfl (fun _ => ⟨rfl, rfl⟩) upc ?_
  refine ev_aload_n dX12_init_185 0 rfl ?_
  refine ev_bipush dX12_init_186 rfl ?_
  refine ev_newJ dX12_init_188 rfl (by decide) rfl (by decide) (fr hF rfl rfl) ⟨Nat.le_of_ble_eq_true rfl, Nat.le_of_ble_eq_true rfl⟩ ?_
  refine ev_putR 13 dX12_init_190 (by decide) rfl ciX12 (by decide) (Or.inr ⟨rfl, rfl, rfl⟩) rfl flX12_79 rfl (fun _ => ⟨rfl, rfl⟩) upc ?_
  refine ev_aload_n dX12_init_193 0 rfl ?_
  refine ev_bipush dX12_init_194 rfl ?_
  refine ev_newI dX12_init_196 rfl (by decide) rfl (by decide) (fr hF rfl rfl) ⟨Nat.le_of_ble_eq_true rfl, Nat.le_of_ble_eq_true rfl⟩ ?_
  refine ev_putR 14 dX12_init_198 (by decide) rfl ciX12 (by decide) (Or.inr ⟨rfl, rfl, rfl⟩) rfl flX12_82 rfl (fun _ => ⟨rfl, rfl⟩) upc ?_
  refine ev_aload_n dX12_init_201 0 rfl ?_
  refine ev_bipush dX12_init_202 rfl ?_
  refine ev_newI dX12_init_204 rfl (by decide) rfl (by decide) (fr hF rfl rfl) ⟨Nat.le_of_ble_eq_true rfl, Nat.le_of_ble_eq_true rfl⟩ ?_
  refine ev_putR 15 dX12_init_206 (by decide) rfl ciX12 (by decide) (Or.inr ⟨rfl, rfl, rfl⟩) rfl flX12_85 rfl (fun _ => ⟨rfl, rfl⟩) upc ?_
  refine ev_aload_n dX12_init_209 0 rfl ?_
  refine ev_iconst dX12_init_210 ?_
  refine ev_newI dX12_init_211 rfl (by decide) rfl (by decide) (fr hF rfl rfl) ⟨Nat.le_of_ble_eq_true rfl, Nat.le_of_ble_eq_true rfl⟩ ?_
  refine ev_putR 17 dX12_init_213 (by decide) rfl ciX12 (by decide) (Or.inr ⟨rfl, rfl, rfl⟩) rfl flX12_88 rfl (fun _ => ⟨rfl, rfl⟩) upc ?_
  refine ev_aload_n dX12_init_216 0 rfl ?_
  refine ev_bipush dX12_init_217 rfl ?_
  refine ev_newI dX12_init_219 rfl (by decide) rfl (by decide) (fr hF rfl rfl) ⟨Nat.le_of_ble_eq_true rfl, Nat.le_of_ble_eq_true rfl⟩ ?_
  refine ev_putR 18 dX12_init_221 (by decide) rfl ciX12 (by decide) (Or.inr ⟨rfl, rfl, rfl⟩) rfl flX12_91 rfl (fun _ => ⟨rfl, rfl⟩) upc ?_
  refine ev_aload_n dX12_init_224 0 rfl ?_
  refine ev_sipush dX12_init_225 rfl ?_
  refine ev_newI dX12_init_228 rfl (by decide) rfl (by decide) (fr hF rfl rfl) ⟨Nat.le_of_ble_eq_true rfl, Nat.le_of_ble_eq_true rfl⟩ ?_
  refine ev_putR 19 dX12_init_230 (by decide) rfl ciX12 (by decide) (Or.inr ⟨rfl, rfl, rfl⟩) rfl flX12_94 rfl (fun _ => ⟨rfl, rfl⟩) upc ?_
  refine ev_aload_n dX12_init_233 0 rfl ?_
  refine ev_iconst dX12_init_234 ?_
  refine ev_newZ dX12_init_235 rfl (by decide) rfl (by decide) (fr hF rfl rfl) ⟨Nat.le_of_ble_eq_true rfl, Nat.le_of_ble_eq_true rfl⟩ ?_
  refine ev_putR 21 dX12_init_237 (by decide) rfl ciX12 (by decide) (Or.inr ⟨rfl, rfl, rfl⟩) rfl flX12_97 rfl (fun _ => ⟨rfl, rfl⟩) upc ?_
  refine ev_aload_n dX12_init_240 0 rfl ?_
  refine ev_iconst dX12_init_241 ?_
  refine ev_newI dX12_init_242 rfl (by decide) rfl (by decide) (fr hF rfl rfl) ⟨Nat.le_of_ble_eq_true rfl, Nat.le_of_ble_eq_true rfl⟩ ?_
  refine ev_putR 23 dX12_init_244 (by decide) rfl ciX12 (by decide) (Or.inr ⟨rfl, rfl, rfl⟩) rfl flX12_101 rfl (fun _ => ⟨rfl, rfl⟩) upc ?_
  refine ev_aload_n dX12_init_247 0 rfl ?_
  refine ev_iconst dX12_init_248 ?_
  refine ev_newZ dX12_init_249 rfl (by decide) rfl (by decide) (fr hF rfl rfl) ⟨Nat.le_of_ble_eq_true rfl, Nat.le_of_ble_eq_true rfl⟩ ?_
  refine ev_putR 24 dX12_init_251 (by decide) rfl ciX12 (by decide) (Or.inr ⟨rfl, rfl, rfl⟩) rfl flX12_104 rfl (fun _ => ⟨rfl, rfl⟩) upc ?_
  refine ev_aload_n dX12_init_254 0 rfl ?_
  refine ev_sipush dX12_init_255 rfl ?_
  refine ev_newJ dX12_init_258 rfl (by decide) rfl (by decide) (fr hF rfl rfl) ⟨Nat.le_of_ble_eq_true rfl, Nat.le_of_ble_eq_true rfl⟩ ?_
  refine ev_putR 25 dX12_init_260 (by decide) rfl ciX12 (by decide) (Or.inr ⟨rfl, rfl, rfl⟩) rfl flX12_107 rfl (fun _ => ⟨rfl, rfl⟩) upc ?_
  refine ev_aload_n dX12_init_263 0 rfl ?_
  refine ev_bipush dX12_init_264 rfl ?_
  refine ev_newI dX12_init_266 rfl (by decide) rfl (by decide) (fr hF rfl rfl) ⟨Nat.le_of_ble_eq_true rfl, Nat.le_of_ble_eq_true rfl⟩ ?_
  refine ev_putR 27 dX12_init_268 (by decide) rfl ciX12 (by decide) (Or.inr ⟨rfl, rfl, rfl⟩) rfl flX12_110 rfl (fun _ => ⟨rfl, rfl⟩) upc ?_
  refine ev_aload_n dX12_init_271 0 rfl ?_
  refine ev_bipush dX12_init_272 rfl ?_
  refine ev_newI dX12_init_274 rfl (by decide) rfl (by decide) (fr hF rfl rfl) ⟨Nat.le_of_ble_eq_true rfl, Nat.le_of_ble_eq_true rfl⟩ ?_
  refine ev_putR 28 dX12_init_276 (by decide) rfl ciX12 (by decide) (Or.inr ⟨rfl, rfl, rfl⟩) rfl flX12_113 rfl (fun _ => ⟨rfl, rfl⟩) upc ?_
  refine ev_aload_n dX12_init_279 0 rfl ?_
  refine ev_bipush dX12_init_280 rfl ?_
  refine ev_newI dX12_init_282 rfl (by decide) rfl (by decide) (fr hF rfl rfl) ⟨Nat.le_of_ble_eq_true rfl, Nat.le_of_ble_eq_true rfl⟩ ?_
  refine ev_putR 29 dX12_init_284 (by decide) rfl ciX12 (by decide) (Or.inr ⟨rfl, rfl, rfl⟩) rfl flX12_116 rfl (fun _ => ⟨rfl, rfl⟩) upc ?_
  refine ev_aload_n dX12_init_287 0 rfl ?_
  refine ev_iconst dX12_init_288 ?_
  refine ev_mem (N2 := ups us_M N) rfl ?_
  refine ev_fz (K2 := Kr 0 97) (fz (fzM N) rfl) ?_
  refine ev_mem (LR_self (lo := 75) (hi := 96)) ?_
  refine cl_V0 (As := [vi 0]) (st := []) miX12_standsAsAlways (tX12_standsAsAlways (sdR (N := ups us_M N) (by decide) (fun k hk => Kr_in (inR_w hk rfl rfl))) (CIn.w (lo := 75) (hi := 96) (fun k hk => hk) rfl rfl) 0 (ups us_M N) hx3) dX12_init_289 lkX12_119 inX12_standsAsAlways rfl (by decide) rfl ⟨rfl, rfl⟩ ⟨⟨Nat.le_of_ble_eq_true rfl, Nat.le_of_ble_eq_true rfl⟩, Nat.le_of_ble_eq_true rfl, Nat.le_of_ble_eq_true rfl⟩ (Nat.le_of_ble_eq_true rfl) ?_
  refine ev_aload_n dX12_init_292 0 rfl ?_
  refine cl_V0 (As := []) (st := []) miX12_begins (tX12_begins (sdR (N := ups us_M N) (by decide) (fun k hk => Kr_in (inR_w hk rfl rfl))) (CIn.w (lo := 75) (hi := 96) (fun k hk => hk) rfl rfl) o3 hx4) dX12_init_293 lkX12_123 inX12_begins rfl (by decide) rfl ⟨rfl, rfl⟩ ⟨⟨Nat.le_of_ble_eq_true rfl, Nat.le_of_ble_eq_true rfl⟩, Nat.le_of_ble_eq_true rfl, Nat.le_of_ble_eq_true rfl⟩ (Nat.le_of_ble_eq_true rfl) ?_
  exact ev_vret dX12_init_296 rfl ⟨Nat.le_of_ble_eq_true rfl, Nat.le_of_ble_eq_true rfl⟩ ⟨rfl, rfl, rfl, rfl⟩
end CTO
