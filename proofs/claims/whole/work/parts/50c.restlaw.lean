/-! ===== rests: the law's call ===== -/
theorem cst_in : Cond.castable RNSE RNSE ∈ tables_1 := List.mem_append_right _ (List.mem_append_right _ (List.mem_append_right _ (List.mem_append_right _ (List.mem_append_right _ (List.mem_append_left _ (List.mem_of_getElem? (l := tables_1_6) (i := 187) rfl))))))
theorem ZT_of {g : Nat → Nat} {s : State} (hq : ZQ g s s.heap) (h : ∀ w ∈ tables_1, w.onTables = true → va_Nw w s) : ZT g s := by
  refine ⟨⟨hq, fun w hw => ?_⟩, h _ cst_in rfl⟩
  have h0 := List.mem_filter.mp hw
  have h1 := at0_ot w (List.mem_cons_of_mem _ (List.mem_cons_of_mem _ h0.1))
  have h2 : goodWord w = false := by
    have := h0.2
    cases hg : goodWord w with
    | false => rfl
    | true => rw [hg] at this; exact absurd this (by decide)
  unfold vx_ot at h1
  rw [h2, Bool.or_false] at h1
  exact h w (at0_in w h0.1) h1
theorem wsSL_rests : GoodIn UW (va_wsS RL 198 yL_rests (Cond.codeWith yL_rests cL_rests 7 (some .int) hhR :: UW)) := fun w hw => by
  unfold va_wsS at hw
  rcases List.mem_append.mp hw with hw | hw
  · have hw2 : w ∈ UW := by
      rcases List.mem_cons.mp hw with rfl | hw
      · exact lkL_198
      rcases List.mem_cons.mp hw with rfl | hw
      · exact stL_rests
      rcases List.mem_cons.mp hw with rfl | hw
      · exact iniL
      · exact nomatch hw
    exact ⟨hw2, good_of_word (UW_good hw2)⟩
  · exact goodL_rests w hw
section LAWR
variable {l : Launch} {D : va_G} {cy : Nat → ClassId} {g : Nat → Nat} {K : KT} {y : MethodName} {cc : ByteArray} {nL : Nat} {rt : Option FieldType} {rm : Room} {cells slots : Nat} {μ : Mem} {pc : Nat} {al : List (Nat × Value)} {st : List Value} {b L : Nat} {xs : Nat → Int32}
theorem ev_rests {a1 a2 a3 a4 : Int} {o0 : Int × Bool} (hno : l.stackTraces = false) (hy : y.cls = RL) (hf : fX11_rests a1 a2 a3 a4 μ = some o0) (hd : decode cc pc = .ok (.invokestatic 198, 3)) (hrm : (8 + 1 ≤ rm.frames ∧ 8 + (7 + 11) + 40 * 8 ≤ rm.locals) ∧ cells + 1 ≤ rm.cells ∧ slots + 6 ≤ rm.slots) (hst : (st.map fun v => v.category).sum ≤ 8)
    (kk : Ev l D cy g (Kr 0 97) y cc nL rt rm (QL b L xs g) (cells + 1) (slots + 6) 97 false (if o0.2 = true then μ else upd2 μ 96 0 (w32 o0.1)) (pc + 3) al (vi (b2i o0.2) :: st)) : Ev l D cy g (Kr 0 97) y cc nL rt rm (QL b L xs g) cells slots 97 false μ pc al (vr g 96 :: vi a4 :: vi a3 :: vi a2 :: vi a1 :: vr g 0 :: st) := by
  refine ev_pX fun args s hP p e m below meth c H locs ls C hR hS hl => ?_
  obtain ⟨⟨hX, hbl, hb0, hsz, hzq, htb⟩, rfl⟩ := hP
  have hts := C.2.2.2.2.1
  have hB := C.2.2.2.2.2.2.2.2
  have hown : s.vm.findClass RL = some m.cls := by rw [← hy]; exact C.2.2.2.1
  have hZ := ZT_of hzq htb
  have hcw := vx_cwSW (s := s) (args := #[Value.ref b]) (R := rm) (own := RL) (index := 198) (y := yL_rests) (rm := rmd 8 1 6) (mc := 1) (ms := 6) 6 hts wsSL_rests rfl rfl rfl ⟨by decide, by decide, by decide +kernel⟩ hrm.1
  intro T hT X
  rcases vx_runSX ⟨C.1, C.2.1, C.2.2.1, hown, hts⟩ (tL_rests (D := D) (cy := cy) (g := g) hno a1 a2 a3 a4 μ hf) hcw ⟨fun a U f mk h => ⟨h.1, h.2.1.blind, h.2.2.1, h.2.2.2.blind⟩, fun U hU hW => ⟨rfl, hB.call hW (fun a h1 h2 => by rw [hU]; exact hS.2.1 a h1 h2), by rw [hU]; exact hR, hZ.call hW (fun a h1 h2 => by rw [hU]; exact hS.2.1 a h1 h2)⟩⟩ (As := [vr g 0, vi a1, vi a2, vi a3, vi a4, vr g 96]) (rest := st) (g := F0 m pc ls _) rfl rfl hl.1 rfl (lv_room hst) hd hrm.2 T hT X with ⟨v, st₀, t, T', L, h0, X', hL, e1, e2, ⟨⟨v', M2, x2, N2, hv, ⟨p1, p2, p3⟩, hq⟩, hz, hk⟩, stp⟩ | ⟨q, st₀, t, T', L, E, ce, h0, X', hL, e1, e2, hXC, hce, hcv, hcl, stp⟩
  · cases hv
    subst p1
    rw [p2, p3] at hq
    rw [h0] at hz hk
    rw [← e1] at hz hk hq
    obtain ⟨t2, b1, b2⟩ := ev_wx (x := x2) kk p e s m _ below meth c T'.heap (locs ++ L) ls C hq
      ⟨Nat.le_trans hS.1 hz, fun q h1 h2 => (hk q (Nat.lt_of_lt_of_le h1 hS.1) h2).trans (hS.2.1 q h1 h2), fun q hq => by
        rcases List.mem_append.mp hq with h | h
        · exact hS.2.2 q h
        · exact hL q h⟩ hl T' rfl X'
    exact ⟨t2, stp t2 b1, b2⟩
  · exact hXC.elim
theorem h_rests_ok (hno : l.stackTraces = false) (hb : L ≤ 3584) (nm : String) (i cells slots : Nat) (μ : Mem) (hG : GW μ) (hi : i + 7 ≤ L) (hc : cells + 7 ≤ 601024 ∧ slots + 7 ≤ 7293034) (kk : ∀ μ2, GW μ2 → Ev l D cy g (Kr 0 97) (yl nm) cL_law 7 ret room_1 (QL b L xs g) (cells + 7) (slots + 7) 97 false μ2 1463 [(0, Value.ref b), (1, vr g 0), (2, vr g 75), (3, vr g 96), (4, vi (i : Int))] []) : Ev l D cy g (Kr 0 97) (yl nm) cL_law 7 ret room_1 (QL b L xs g) cells slots 97 false μ 1244 [(0, Value.ref b), (1, vr g 0), (2, vr g 75), (3, vr g 96), (4, vi (i : Int))] [] := by
  obtain ⟨v, t, e1, e2⟩ := rest_both (a := XI xs (i + 1)) (b := XI xs (i + 2)) (c := XI xs (i + 3)) (d := XI xs (i + 4)) (w32_eq nzX.1 nzX.2)
  refine ev_aload_n dL_law_1244 1 rfl ?_
  refine ev_aload_n dL_law_1245 0 rfl ?_
  refine ev_iload dL_law_1246 4 rfl ?_
  refine ev_iconst dL_law_1248 ?_
  refine ev_iadd dL_law_1249 ?_
  refine ev_sld (i + 1) dL_law_1250 (xi 1 (by omega) hb) (by omega) ?_
  refine ev_aload_n dL_law_1251 0 rfl ?_
  refine ev_iload dL_law_1252 4 rfl ?_
  refine ev_iconst dL_law_1254 ?_
  refine ev_iadd dL_law_1255 ?_
  refine ev_sld (i + 2) dL_law_1256 (xi 2 (by omega) hb) (by omega) ?_
  refine ev_aload_n dL_law_1257 0 rfl ?_
  refine ev_iload dL_law_1258 4 rfl ?_
  refine ev_iconst dL_law_1260 ?_
  refine ev_iadd dL_law_1261 ?_
  refine ev_sld (i + 3) dL_law_1262 (xi 3 (by omega) hb) (by omega) ?_
  refine ev_aload_n dL_law_1263 0 rfl ?_
  refine ev_iload dL_law_1264 4 rfl ?_
  refine ev_iconst dL_law_1266 ?_
  refine ev_iadd dL_law_1267 ?_
  refine ev_sld (i + 4) dL_law_1268 (xi 4 (by omega) hb) (by omega) ?_
  refine ev_aload_n dL_law_1269 3 rfl ?_
  refine ev_rests (o0 := (v, t)) hno rfl (e1 μ) dL_law_1270 ⟨⟨Nat.le_of_ble_eq_true rfl, Nat.le_of_ble_eq_true rfl⟩, Nat.le_trans (show cells + 1 ≤ 601024 by omega) (Nat.le_of_ble_eq_true rfl), Nat.le_trans (show slots + 6 ≤ 7293034 by omega) (Nat.le_of_ble_eq_true rfl)⟩ (Nat.zero_le _) ?_
  refine ev_istore (al2 := [(5, vi (b2i t)), (0, Value.ref b), (1, vr g 0), (2, vr g 75), (3, vr g 96), (4, vi (i : Int))]) dL_law_1273 (by decide) rfl ?_
  have hG1 : GW (if t = true then μ else upd2 μ 96 0 (w32 v)) := by
    cases t with
    | true => exact hG
    | false => exact hG.q96
  have h96 : ¬ t = true → (if t = true then μ else upd2 μ 96 0 (w32 v)) 96 0 = w32 v := fun h => by rw [if_neg h]; exact upd2_at
  show Ev l D cy g (Kr 0 97) (yl nm) cL_law 7 ret room_1 (QL b L xs g) (cells + 1) (slots + 6) 97 false (if t = true then μ else upd2 μ 96 0 (w32 v)) 1275 [(5, vi (b2i t)), (0, Value.ref b), (1, vr g 0), (2, vr g 75), (3, vr g 96), (4, vi (i : Int))] []
  generalize (if t = true then μ else upd2 μ 96 0 (w32 v)) = μ1 at hG1 h96 ⊢
  refine ev_aload_n dL_law_1275 3 rfl ?_
  refine ev_aload_n dL_law_1276 1 rfl ?_
  refine ev_iload dL_law_1277 5 rfl ?_
  refine ev_iconst dL_law_1279 ?_
  refine ev_iadd dL_law_1280 ?_
  refine ev_sld (i + 1) dL_law_1281 (xi 1 (by omega) hb) (by omega) ?_
  refine ev_aload_n dL_law_1282 1 rfl ?_
  refine ev_iload dL_law_1283 5 rfl ?_
  refine ev_iconst dL_law_1285 ?_
  refine ev_iadd dL_law_1286 ?_
  refine ev_sld (i + 2) dL_law_1287 (xi 2 (by omega) hb) (by omega) ?_
  refine ev_aload_n dL_law_1288 1 rfl ?_
  refine ev_iload dL_law_1289 5 rfl ?_
  refine ev_iconst dL_law_1291 ?_
  refine ev_iadd dL_law_1292 ?_
  refine ev_sld (i + 3) dL_law_1293 (xi 3 (by omega) hb) (by omega) ?_
  refine ev_aload_n dL_law_1294 1 rfl ?_
  refine ev_iload dL_law_1295 5 rfl ?_
  refine ev_iconst dL_law_1297 ?_
  refine ev_iadd dL_law_1298 ?_
  refine ev_sld (i + 4) dL_law_1299 (xi 4 (by omega) hb) (by omega) ?_
  refine ev_mem (LR_self (lo := 75) (hi := 96)) ?_
  refine cl_V1 (As := [vi (XI xs (i + 1)), vi (XI xs (i + 2)), vi (XI xs (i + 3)), vi (XI xs (i + 4))]) (st := []) miX12_rests (tX12_rests (sdR (N := μ1) (by decide) (fun k hk => Kr_in2 (inR_w hk rfl rfl))) (CIn.w (lo := 75) (hi := 96) (fun k hk => hk) rfl rfl) (XI xs (i + 1)) (XI xs (i + 2)) (XI xs (i + 3)) (XI xs (i + 4)) μ1 (o := (v, upd2 μ1 75 0 (b2i t))) (e2 μ1)) dL_law_1300 lkL_203 inX12_rests rfl (by decide) rfl ⟨rfl, rfl⟩ ⟨⟨Nat.le_of_ble_eq_true rfl, Nat.le_of_ble_eq_true rfl⟩, Nat.le_trans (show cells + 1 ≤ 601024 by omega) (Nat.le_of_ble_eq_true rfl), Nat.le_trans (show slots + 6 ≤ 7293034 by omega) (Nat.le_of_ble_eq_true rfl)⟩ (Nat.le_of_ble_eq_true rfl) ?_
  have hG2 : GW (upd2 μ1 75 0 (b2i t)) := hG1.q750
  have h75 : (upd2 μ1 75 0 (b2i t)) 75 0 = b2i t := upd2_at
  have h96b : ¬ t = true → (upd2 μ1 75 0 (b2i t)) 96 0 = w32 v := fun h => by rw [upd2_ne (by omega)]; exact h96 h
  refine ev_mem (LR_r (fun x hx => upd2_ne (by omega))) ?_
  show Ev l D cy g (Kr 0 97) (yl nm) cL_law 7 ret room_1 (QL b L xs g) (cells + 1) (slots + 6) 97 false (upd2 μ1 75 0 (b2i t)) 1303 [(5, vi (b2i t)), (0, Value.ref b), (1, vr g 0), (2, vr g 75), (3, vr g 96), (4, vi (i : Int))] [vi v]
  generalize (upd2 μ1 75 0 (b2i t)) = μ2 at hG2 h75 h96b ⊢
  refine ev_istore (al2 := [(6, vi v), (5, vi (b2i t)), (0, Value.ref b), (1, vr g 0), (2, vr g 75), (3, vr g 96), (4, vi (i : Int))]) dL_law_1303 (by decide) rfl ?_
  refine ev_aload_n dL_law_1305 4 rfl ?_
  refine ev_mem (LR_self (lo := 75) (hi := 96)) ?_
  refine cl_V1 (As := []) (st := []) miX12_thrown (tX12_thrown (sdR (N := μ2) (by decide) (fun k hk => Kr_in2 (inR_w hk rfl rfl))) (CIn.w (lo := 75) (hi := 96) (fun k hk => hk) rfl rfl) μ2 (o := μ2 75 0) rfl) dL_law_1306 lkL_204 inX12_thrown rfl (by decide) rfl ⟨rfl, rfl⟩ ⟨⟨Nat.le_of_ble_eq_true rfl, Nat.le_of_ble_eq_true rfl⟩, Nat.le_trans (show cells + 1 ≤ 601024 by omega) (Nat.le_of_ble_eq_true rfl), Nat.le_trans (show slots + 6 ≤ 7293034 by omega) (Nat.le_of_ble_eq_true rfl)⟩ (Nat.le_of_ble_eq_true rfl) ?_
  refine ev_mem LR_self.symm ?_
  have kend : Ev l D cy g (Kr 0 97) (yl nm) cL_law 7 ret room_1 (QL b L xs g) (cells + 1) (slots + 6) 97 false μ2 1333 [(6, vi v), (5, vi (b2i t)), (0, Value.ref b), (1, vr g 0), (2, vr g 75), (3, vr g 96), (4, vi (i : Int))] [] := by
    refine ev_goto 1463 dL_law_1333 (by decide) ?_
    refine ev_sub [2, 3, 4, 5, 6] rfl ?_
    exact ev_wide (by omega) (by omega) (kk μ2 hG2)
  refine ev_iload dL_law_1309 1 rfl ?_
  refine ev_icmp_eq 1316 dL_law_1311 (by decide) (fun _ => ?_) (fun h => absurd (by rw [h75]) h)
  refine ev_iload dL_law_1316 1 rfl ?_
  refine ev_if_ne 1333 dL_law_1318 (by decide) (fun _ => kend) (fun h => ?_)
  have ht : ¬ t = true := fun q => by rw [q] at h; exact absurd h (by decide)
  refine ev_aload_n dL_law_1321 5 rfl ?_
  refine ev_iconst dL_law_1322 ?_
  refine ev_lald (mm := μ2 96) dL_law_1323 (by decide) rfl rfl (by decide) ?_
  refine ev_iload dL_law_1324 0 rfl ?_
  refine ev_i2l dL_law_1326 ?_
  refine ev_lcmp_eq 1333 dL_law_1327 dL_law_1328 (by decide) (fun _ => kend) (fun h2 => absurd ?_ h2)
  show w64 (μ2 96 (w32 0).toNat) = w64 (w32 v)
  rw [show (w32 0).toNat = 0 from by decide, h96b ht]
theorem law_whole {p : Program} {e : Env} {s : State} {m : MethodId} {below : List Frame} {meth : Method} {c : Code} (hno : l.stackTraces = false) (hb : L ≤ 3584) (C0 : lw_At p s m meth c b L xs) : W p l e room_1 s m #[Value.ref b] below meth c s.heap [] 0 0 (lw_Z below #[Value.ref b] s) (entryFrame m ([Value.ref b] : List Value).toArray 7) :=
  law_all l hb C0 (fun D cy g nm i cells slots μ hG hi hc kk => h_rests_ok hno hb nm i cells slots μ hG hi hc kk)
end LAWR
