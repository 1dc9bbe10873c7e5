/-! ===== the law: its script, its end ===== -/
abbrev yl (nm : String) : MethodName := ⟨RL, nm, "([I)Z"⟩
def ZQ (g : Nat → Nat) (U : State) (H : Heap) : Prop := vx_Zq "java/lang/Throwable" "UNASSIGNED_STACK" "[Ljava/lang/StackTraceElement;" (AA g) U H ∧ vx_Zq "java/lang/Throwable" "SUPPRESSED_SENTINEL" "Ljava/util/List;" (AA g) U H
def PX (b L : Nat) (xs : Nat → Int32) (g : Nat → Nat) (s : State) : Prop := va_X b L xs s s.heap ∧ b < s.heap.size ∧ b < g 0 ∧ s.heap.size = g 0 ∧ ZQ g s s.heap ∧ ∀ w ∈ tables_1, w.onTables = true → va_Nw w s
def QL (b L : Nat) (xs : Nat → Int32) (g : Nat → Nat) : Qty := fun below args s t => PX b L xs g s → args = #[Value.ref b] → lw_Z below args s t
def XI (xs : Nat → Int32) (j : Nat) : Int := (xs j).toInt
def Nz (a : Int) : Prop := -2147483648 ≤ a ∧ a < 2147483648
theorem nzX {xs : Nat → Int32} {j : Nat} : Nz (XI xs j) := ⟨Int32.le_toInt _, Int32.toInt_lt _⟩
theorem XI_v {xs : Nat → Int32} {j : Nat} : Value.int (xs j) = vi (XI xs j) := congrArg Value.int (Int32.ofInt_toInt _).symm
section LWR
variable {l : Launch} {D : va_G} {cy : Nat → ClassId} {g : Nat → Nat} {K : KT} {y : MethodName} {cc : ByteArray} {nL : Nat} {rt : Option FieldType} {rm : Room} {cells slots M : Nat} {x : Bool} {N : Mem} {pc : Nat} {al : List (Nat × Value)} {st : List Value} {b L : Nat} {xs : Nat → Int32}
theorem ev_pX (h : (∀ (args : Array Value) (s : State), PX b L xs g s ∧ args = #[Value.ref b] → ∀ (p : Program) (e : Env) (m : MethodId) (below : List Frame) (meth : Method) (c : Code) (H : Heap) (locs : List Loc) (ls : Array Slot), Cx D cy g y cc nL rt p s m args meth c → Rq D cy g K M x N H → va_S (AA g) s.heap H locs → lv_has ls nL al → W p l e rm s m args below meth c H locs cells slots (QL b L xs g below args s) (F0 m pc ls st))) : Ev l D cy g K y cc nL rt rm (QL b L xs g) cells slots M x N pc al st := by
  intro p e s m args below meth c H locs ls C hR hS hl
  by_cases hP : PX b L xs g s ∧ args = #[Value.ref b]
  · exact h args s hP p e m below meth c H locs ls C hR hS hl
  · intro T hT X
    exact ⟨_, Steps.refl _, fun h1 h2 => absurd ⟨h1, h2⟩ hP⟩
theorem ev_sld {i : Int} (j : Nat) (hd : decode cc pc = .ok (.iaload, 1)) (hi : w32 i = j) (hj : j < L) (kk : Ev l D cy g K y cc nL rt rm (QL b L xs g) cells slots M x N (pc + 1) al (vi (XI xs j) :: st)) : Ev l D cy g K y cc nL rt rm (QL b L xs g) cells slots M x N pc al (vi i :: Value.ref b :: st) := by
  refine ev_pX fun args s hP p e m below meth c H locs ls C hR hS hl => ?_
  obtain ⟨⟨hX, hbl, hb0, -⟩, rfl⟩ := hP
  refine va_sld (A := AA g) C.1 C.2.1 hX hbl (Nat.not_le.mpr hb0) hS (inb_vp (n := L) (by rw [hi]; omega)) hd ?_
  have ei : (Int32.ofInt i).toNatClampNeg = j := by show (w32 i).toNat = j; rw [hi]; rfl
  rw [ei, XI_v]
  exact kk p e s m _ below meth c H locs ls C hR hS hl
theorem ev_slen (hd : decode cc pc = .ok (.arraylength, 1)) (kk : Ev l D cy g K y cc nL rt rm (QL b L xs g) cells slots M x N (pc + 1) al (vi (L : Int) :: st)) : Ev l D cy g K y cc nL rt rm (QL b L xs g) cells slots M x N pc al (Value.ref b :: st) := by
  refine ev_pX fun args s hP p e m below meth c H locs ls C hR hS hl => ?_
  obtain ⟨⟨hX, hbl, hb0, -⟩, rfl⟩ := hP
  exact va_slen (A := AA g) C.1 C.2.1 hX hbl (Nat.not_le.mpr hb0) hS hd (kk p e s m _ below meth c H locs ls C hR hS hl)
theorem ev_wide {Q : Qty} {cells2 slots2 : Nat} (h1 : cells ≤ cells2) (h2 : slots ≤ slots2) (kk : Ev l D cy g K y cc nL rt rm Q cells2 slots2 M x N pc al st) : Ev l D cy g K y cc nL rt rm Q cells slots M x N pc al st := by
  intro p e s m args below meth c H locs ls C hR hS hl
  exact W.widen h1 h2 (kk p e s m args below meth c H locs ls C hR hS hl)
theorem ev_wx {Q : Qty} (kk : Ev l D cy g K y cc nL rt rm Q cells slots M false N pc al st) : Ev l D cy g K y cc nL rt rm Q cells slots M x N pc al st := by
  intro p e s m args below meth c H locs ls C hR hS hl
  exact kk p e s m args below meth c H locs ls C ⟨hR.1, fun h => by cases h⟩ hS hl
theorem ev_lawend (hd : decode code pc = .ok (.ireturn, 1)) (hg : ∀ s : State, PX b L xs g s → s.heap.size ≤ g 0) (hc : cells ≤ 601024 ∧ slots ≤ 7293034) : Ev l D cy g K (yl y.name) code nL ret room_1 (QL b L xs g) cells slots M x N pc al [vi 1] := by
  refine ev_pX fun args s hP p e m below meth c H locs ls C hR hS hl => ?_
  obtain ⟨hP, rfl⟩ := hP
  have hW : W p l e room_1 s m #[Value.ref b] below meth c H [] 601024 7293034 (lw_Z below #[Value.ref b] s) (F0 m pc ls [.int 1]) := lw_ret C.1 C.2.1 C.2.2.2.2.2.1 C.2.2.2.2.2.2.1 hd
  refine va_forget (fun q hq => Nat.le_trans (hg s hP) (hS.2.2 q hq)) ?_
  refine W.widen hc.1 hc.2 ?_
  intro T hT X
  obtain ⟨t, a1, a2⟩ := hW T hT X
  exact ⟨t, a1, fun _ _ => a2⟩
end LWR
theorem xi {i L : Nat} (j : Nat) (h : i + j < L) (hb : L ≤ 3584) : w32 ((i : Int) + (j : Int)) = ((i + j : Nat) : Int) := by
  rw [w32_eq (by omega) (by omega)]; omega
theorem Kr_in2 {k : Nat} (h : inR 0 97 k = true) : Kr 0 97 k = Kf k := if_pos h
section LAWC
variable {l : Launch} {D : va_G} {cy : Nat → ClassId} {g : Nat → Nat} {nm : String} {cells slots : Nat} {b L : Nat} {xs : Nat → Int32} {i : Nat} {μ : Mem}
def S_feed (G : Mem → Prop) (a0 : Int) (a1 : Int) (a2 : Int) (μ : Mem) : Prop := ∃ (v1 : Int) (μ1 : Mem), (fX11_feed a0 a1 a2 μ = some (v1, μ1)) ∧ ∃ (v2 : Int) (μ2 : Mem), (fX12_feed a0 a1 a2 (LR 0 75 μ μ1) = some (v2, μ2)) ∧ w32 v1 = w32 v2 ∧ G (LR 75 96 (LR 0 75 μ μ1) μ2)
theorem lc_feed {G : Mem → Prop} (hs : ∀ (a0 : Int) (a1 : Int) (a2 : Int), S_feed G a0 a1 a2 μ) (hi : i + 7 ≤ L) (hb : L ≤ 3584) (hc : cells ≤ 601024 ∧ slots ≤ 7293034) (kk : ∀ μ2, G μ2 → Ev l D cy g (Kr 0 97) (yl nm) cL_law 7 ret room_1 (QL b L xs g) cells slots 97 false μ2 1463 [(0, Value.ref b), (1, vr g 0), (2, vr g 75), (3, vr g 96), (4, vi (i : Int))] []) : Ev l D cy g (Kr 0 97) (yl nm) cL_law 7 ret room_1 (QL b L xs g) cells slots 97 false μ 240 [(0, Value.ref b), (1, vr g 0), (2, vr g 75), (3, vr g 96), (4, vi (i : Int))] [] := by
  refine ev_aload_n dL_law_240 1 rfl ?_
  refine ev_aload_n dL_law_241 0 rfl ?_
  refine ev_iload dL_law_242 4 rfl ?_
  refine ev_iconst dL_law_244 ?_
  refine ev_iadd dL_law_245 ?_
  refine ev_sld (i + 1) dL_law_246 (xi 1 (by omega) hb) (by omega) ?_
  refine ev_i2l dL_law_247 ?_
  refine ev_bipush dL_law_248 rfl ?_
  refine ev_lshl dL_law_250 ?_
  refine ev_aload_n dL_law_251 0 rfl ?_
  refine ev_iload dL_law_252 4 rfl ?_
  refine ev_iconst dL_law_254 ?_
  refine ev_iadd dL_law_255 ?_
  refine ev_sld (i + 2) dL_law_256 (xi 2 (by omega) hb) (by omega) ?_
  refine ev_i2l dL_law_257 ?_
  refine ev_ldc2 4294967295 dL_law_258 klL_19 rfl ?_
  refine ev_land dL_law_261 ?_
  refine ev_lor dL_law_262 ?_
  refine ev_aload_n dL_law_263 0 rfl ?_
  refine ev_iload dL_law_264 4 rfl ?_
  refine ev_iconst dL_law_266 ?_
  refine ev_iadd dL_law_267 ?_
  refine ev_sld (i + 3) dL_law_268 (xi 3 (by omega) hb) (by omega) ?_
  refine ev_i2l dL_law_269 ?_
  refine ev_bipush dL_law_270 rfl ?_
  refine ev_lshl dL_law_272 ?_
  refine ev_aload_n dL_law_273 0 rfl ?_
  refine ev_iload dL_law_274 4 rfl ?_
  refine ev_iconst dL_law_276 ?_
  refine ev_iadd dL_law_277 ?_
  refine ev_sld (i + 4) dL_law_278 (xi 4 (by omega) hb) (by omega) ?_
  refine ev_i2l dL_law_279 ?_
  refine ev_ldc2 4294967295 dL_law_280 klL_19 rfl ?_
  refine ev_land dL_law_283 ?_
  refine ev_lor dL_law_284 ?_
  refine ev_aload_n dL_law_285 0 rfl ?_
  refine ev_iload dL_law_286 4 rfl ?_
  refine ev_iconst dL_law_288 ?_
  refine ev_iadd dL_law_289 ?_
  refine ev_sld (i + 5) dL_law_290 (xi 5 (by omega) hb) (by omega) ?_
  refine ev_i2l dL_law_291 ?_
  refine ev_bipush dL_law_292 rfl ?_
  refine ev_lshl dL_law_294 ?_
  refine ev_aload_n dL_law_295 0 rfl ?_
  refine ev_iload dL_law_296 4 rfl ?_
  refine ev_bipush dL_law_298 rfl ?_
  refine ev_iadd dL_law_300 ?_
  refine ev_sld (i + 6) dL_law_301 (xi 6 (by omega) hb) (by omega) ?_
  refine ev_i2l dL_law_302 ?_
  refine ev_ldc2 4294967295 dL_law_303 klL_19 rfl ?_
  refine ev_land dL_law_306 ?_
  refine ev_lor dL_law_307 ?_
  obtain ⟨v1, μ1, hf1, v2, μ2, hf2, ho, hG⟩ := hs (l_or (l_shl (w32 (XI xs (i + 1))) 32) (l_and (w32 (XI xs (i + 2))) 4294967295)) (l_or (l_shl (w32 (XI xs (i + 3))) 32) (l_and (w32 (XI xs (i + 4))) 4294967295)) (l_or (l_shl (w32 (XI xs (i + 5))) 32) (l_and (w32 (XI xs (i + 6))) 4294967295))
  refine ev_mem (LR_self (lo := 0) (hi := 75)) ?_
  refine cl_V1 (As := [vl (l_or (l_shl (w32 (XI xs (i + 1))) 32) (l_and (w32 (XI xs (i + 2))) 4294967295)), vl (l_or (l_shl (w32 (XI xs (i + 3))) 32) (l_and (w32 (XI xs (i + 4))) 4294967295)), vl (l_or (l_shl (w32 (XI xs (i + 5))) 32) (l_and (w32 (XI xs (i + 6))) 4294967295))]) (st := []) miX11_feed (tX11_feed (sdR (N := μ) (by decide) (fun k hk => Kr_in2 (inR_w hk rfl rfl))) (CIn.w (lo := 0) (hi := 75) (fun k hk => hk) rfl rfl) (l_or (l_shl (w32 (XI xs (i + 1))) 32) (l_and (w32 (XI xs (i + 2))) 4294967295)) (l_or (l_shl (w32 (XI xs (i + 3))) 32) (l_and (w32 (XI xs (i + 4))) 4294967295)) (l_or (l_shl (w32 (XI xs (i + 5))) 32) (l_and (w32 (XI xs (i + 6))) 4294967295)) μ (o := (v1, μ1)) hf1) dL_law_308 lkL_21 inX11_feed rfl (by decide) rfl ⟨rfl, rfl⟩ ⟨⟨Nat.le_of_ble_eq_true rfl, Nat.le_of_ble_eq_true rfl⟩, hc.1, hc.2⟩ (Nat.le_of_ble_eq_true rfl) ?_
  refine ev_aload_n dL_law_311 2 rfl ?_
  refine ev_aload_n dL_law_312 0 rfl ?_
  refine ev_iload dL_law_313 4 rfl ?_
  refine ev_iconst dL_law_315 ?_
  refine ev_iadd dL_law_316 ?_
  refine ev_sld (i + 1) dL_law_317 (xi 1 (by omega) hb) (by omega) ?_
  refine ev_i2l dL_law_318 ?_
  refine ev_bipush dL_law_319 rfl ?_
  refine ev_lshl dL_law_321 ?_
  refine ev_aload_n dL_law_322 0 rfl ?_
  refine ev_iload dL_law_323 4 rfl ?_
  refine ev_iconst dL_law_325 ?_
  refine ev_iadd dL_law_326 ?_
  refine ev_sld (i + 2) dL_law_327 (xi 2 (by omega) hb) (by omega) ?_
  refine ev_i2l dL_law_328 ?_
  refine ev_ldc2 4294967295 dL_law_329 klL_19 rfl ?_
  refine ev_land dL_law_332 ?_
  refine ev_lor dL_law_333 ?_
  refine ev_aload_n dL_law_334 0 rfl ?_
  refine ev_iload dL_law_335 4 rfl ?_
  refine ev_iconst dL_law_337 ?_
  refine ev_iadd dL_law_338 ?_
  refine ev_sld (i + 3) dL_law_339 (xi 3 (by omega) hb) (by omega) ?_
  refine ev_i2l dL_law_340 ?_
  refine ev_bipush dL_law_341 rfl ?_
  refine ev_lshl dL_law_343 ?_
  refine ev_aload_n dL_law_344 0 rfl ?_
  refine ev_iload dL_law_345 4 rfl ?_
  refine ev_iconst dL_law_347 ?_
  refine ev_iadd dL_law_348 ?_
  refine ev_sld (i + 4) dL_law_349 (xi 4 (by omega) hb) (by omega) ?_
  refine ev_i2l dL_law_350 ?_
  refine ev_ldc2 4294967295 dL_law_351 klL_19 rfl ?_
  refine ev_land dL_law_354 ?_
  refine ev_lor dL_law_355 ?_
  refine ev_aload_n dL_law_356 0 rfl ?_
  refine ev_iload dL_law_357 4 rfl ?_
  refine ev_iconst dL_law_359 ?_
  refine ev_iadd dL_law_360 ?_
  refine ev_sld (i + 5) dL_law_361 (xi 5 (by omega) hb) (by omega) ?_
  refine ev_i2l dL_law_362 ?_
  refine ev_bipush dL_law_363 rfl ?_
  refine ev_lshl dL_law_365 ?_
  refine ev_aload_n dL_law_366 0 rfl ?_
  refine ev_iload dL_law_367 4 rfl ?_
  refine ev_bipush dL_law_369 rfl ?_
  refine ev_iadd dL_law_371 ?_
  refine ev_sld (i + 6) dL_law_372 (xi 6 (by omega) hb) (by omega) ?_
  refine ev_i2l dL_law_373 ?_
  refine ev_ldc2 4294967295 dL_law_374 klL_19 rfl ?_
  refine ev_land dL_law_377 ?_
  refine ev_lor dL_law_378 ?_
  refine ev_mem (LR_self (lo := 75) (hi := 96)) ?_
  refine cl_V1 (As := [vl (l_or (l_shl (w32 (XI xs (i + 1))) 32) (l_and (w32 (XI xs (i + 2))) 4294967295)), vl (l_or (l_shl (w32 (XI xs (i + 3))) 32) (l_and (w32 (XI xs (i + 4))) 4294967295)), vl (l_or (l_shl (w32 (XI xs (i + 5))) 32) (l_and (w32 (XI xs (i + 6))) 4294967295))]) (st := [vi v1]) miX12_feed (tX12_feed (sdR (N := (LR 0 75 μ μ1)) (by decide) (fun k hk => Kr_in2 (inR_w hk rfl rfl))) (CIn.w (lo := 75) (hi := 96) (fun k hk => hk) rfl rfl) (l_or (l_shl (w32 (XI xs (i + 1))) 32) (l_and (w32 (XI xs (i + 2))) 4294967295)) (l_or (l_shl (w32 (XI xs (i + 3))) 32) (l_and (w32 (XI xs (i + 4))) 4294967295)) (l_or (l_shl (w32 (XI xs (i + 5))) 32) (l_and (w32 (XI xs (i + 6))) 4294967295)) (LR 0 75 μ μ1) (o := (v2, μ2)) hf2) dL_law_379 lkL_25 inX12_feed rfl (by decide) rfl ⟨rfl, rfl⟩ ⟨⟨Nat.le_of_ble_eq_true rfl, Nat.le_of_ble_eq_true rfl⟩, hc.1, hc.2⟩ (Nat.le_of_ble_eq_true rfl) ?_
  refine ev_icmp_eq 1463 dL_law_382 (by decide) (fun _ => ?_) (fun h => absurd ho h)
  exact kk _ hG
def S_griddle (G : Mem → Prop)  (μ : Mem) : Prop := ∃ (v1 : Int) (μ1 : Mem), (fX11_griddle  μ = some (v1, μ1)) ∧ ∃ (v2 : Int) (μ2 : Mem), (fX12_griddle  (LR 0 75 μ μ1) = some (v2, μ2)) ∧ w32 v1 = w32 v2 ∧ G (LR 75 96 (LR 0 75 μ μ1) μ2)
theorem lc_griddle {G : Mem → Prop} (hs : S_griddle G  μ) (hi : i + 7 ≤ L) (hb : L ≤ 3584) (hc : cells ≤ 601024 ∧ slots ≤ 7293034) (kk : ∀ μ2, G μ2 → Ev l D cy g (Kr 0 97) (yl nm) cL_law 7 ret room_1 (QL b L xs g) cells slots 97 false μ2 1463 [(0, Value.ref b), (1, vr g 0), (2, vr g 75), (3, vr g 96), (4, vi (i : Int))] []) : Ev l D cy g (Kr 0 97) (yl nm) cL_law 7 ret room_1 (QL b L xs g) cells slots 97 false μ 387 [(0, Value.ref b), (1, vr g 0), (2, vr g 75), (3, vr g 96), (4, vi (i : Int))] [] := by
  refine ev_aload_n dL_law_387 1 rfl ?_
  obtain ⟨v1, μ1, hf1, v2, μ2, hf2, ho, hG⟩ := hs
  refine ev_mem (LR_self (lo := 0) (hi := 75)) ?_
  refine cl_V1 (As := []) (st := []) miX11_griddle (tX11_griddle (sdR (N := μ) (by decide) (fun k hk => Kr_in2 (inR_w hk rfl rfl))) (CIn.w (lo := 0) (hi := 75) (fun k hk => hk) rfl rfl)  μ (o := (v1, μ1)) hf1) dL_law_388 lkL_26 inX11_griddle rfl (by decide) rfl ⟨rfl, rfl⟩ ⟨⟨Nat.le_of_ble_eq_true rfl, Nat.le_of_ble_eq_true rfl⟩, hc.1, hc.2⟩ (Nat.le_of_ble_eq_true rfl) ?_
  refine ev_aload_n dL_law_391 2 rfl ?_
  refine ev_mem (LR_self (lo := 75) (hi := 96)) ?_
  refine cl_V1 (As := []) (st := [vi v1]) miX12_griddle (tX12_griddle (sdR (N := (LR 0 75 μ μ1)) (by decide) (fun k hk => Kr_in2 (inR_w hk rfl rfl))) (CIn.w (lo := 75) (hi := 96) (fun k hk => hk) rfl rfl)  (LR 0 75 μ μ1) (o := (v2, μ2)) hf2) dL_law_392 lkL_30 inX12_griddle rfl (by decide) rfl ⟨rfl, rfl⟩ ⟨⟨Nat.le_of_ble_eq_true rfl, Nat.le_of_ble_eq_true rfl⟩, hc.1, hc.2⟩ (Nat.le_of_ble_eq_true rfl) ?_
  refine ev_icmp_eq 1463 dL_law_395 (by decide) (fun _ => ?_) (fun h => absurd ho h)
  exact kk _ hG
def S_plan (G : Mem → Prop)  (μ : Mem) : Prop := ∃ (v1 : Int) (μ1 : Mem), (fX11_plan  μ = some (v1, μ1)) ∧ ∃ (v2 : Int) (μ2 : Mem), (fX12_plan  (LR 0 75 μ μ1) = some (v2, μ2)) ∧ w32 v1 = w32 v2 ∧ G (LR 75 96 (LR 0 75 μ μ1) μ2)
theorem lc_plan {G : Mem → Prop} (hs : S_plan G  μ) (hi : i + 7 ≤ L) (hb : L ≤ 3584) (hc : cells ≤ 601024 ∧ slots ≤ 7293034) (kk : ∀ μ2, G μ2 → Ev l D cy g (Kr 0 97) (yl nm) cL_law 7 ret room_1 (QL b L xs g) cells slots 97 false μ2 1463 [(0, Value.ref b), (1, vr g 0), (2, vr g 75), (3, vr g 96), (4, vi (i : Int))] []) : Ev l D cy g (Kr 0 97) (yl nm) cL_law 7 ret room_1 (QL b L xs g) cells slots 97 false μ 400 [(0, Value.ref b), (1, vr g 0), (2, vr g 75), (3, vr g 96), (4, vi (i : Int))] [] := by
  refine ev_aload_n dL_law_400 1 rfl ?_
  obtain ⟨v1, μ1, hf1, v2, μ2, hf2, ho, hG⟩ := hs
  refine ev_mem (LR_self (lo := 0) (hi := 75)) ?_
  refine cl_V1 (As := []) (st := []) miX11_plan (tX11_plan (sdR (N := μ) (by decide) (fun k hk => Kr_in2 (inR_w hk rfl rfl))) (CIn.w (lo := 0) (hi := 75) (fun k hk => hk) rfl rfl)  μ (o := (v1, μ1)) hf1) dL_law_401 lkL_31 inX11_plan rfl (by decide) rfl ⟨rfl, rfl⟩ ⟨⟨Nat.le_of_ble_eq_true rfl, Nat.le_of_ble_eq_true rfl⟩, hc.1, hc.2⟩ (Nat.le_of_ble_eq_true rfl) ?_
  refine ev_aload_n dL_law_404 2 rfl ?_
  refine ev_mem (LR_self (lo := 75) (hi := 96)) ?_
  refine cl_V1 (As := []) (st := [vi v1]) miX12_plan (tX12_plan (sdR (N := (LR 0 75 μ μ1)) (by decide) (fun k hk => Kr_in2 (inR_w hk rfl rfl))) (CIn.w (lo := 75) (hi := 96) (fun k hk => hk) rfl rfl)  (LR 0 75 μ μ1) (o := (v2, μ2)) hf2) dL_law_405 lkL_34 inX12_plan rfl (by decide) rfl ⟨rfl, rfl⟩ ⟨⟨Nat.le_of_ble_eq_true rfl, Nat.le_of_ble_eq_true rfl⟩, hc.1, hc.2⟩ (Nat.le_of_ble_eq_true rfl) ?_
  refine ev_icmp_eq 1463 dL_law_408 (by decide) (fun _ => ?_) (fun h => absurd ho h)
  exact kk _ hG
def S_wish (G : Mem → Prop)  (μ : Mem) : Prop := ∃ (v1 : Int) (μ1 : Mem), (fX11_wish  μ = some (v1, μ1)) ∧ ∃ (v2 : Int) (μ2 : Mem), (fX12_wish  (LR 0 75 μ μ1) = some (v2, μ2)) ∧ w32 v1 = w32 v2 ∧ G (LR 75 96 (LR 0 75 μ μ1) μ2)
theorem lc_wish {G : Mem → Prop} (hs : S_wish G  μ) (hi : i + 7 ≤ L) (hb : L ≤ 3584) (hc : cells ≤ 601024 ∧ slots ≤ 7293034) (kk : ∀ μ2, G μ2 → Ev l D cy g (Kr 0 97) (yl nm) cL_law 7 ret room_1 (QL b L xs g) cells slots 97 false μ2 1463 [(0, Value.ref b), (1, vr g 0), (2, vr g 75), (3, vr g 96), (4, vi (i : Int))] []) : Ev l D cy g (Kr 0 97) (yl nm) cL_law 7 ret room_1 (QL b L xs g) cells slots 97 false μ 413 [(0, Value.ref b), (1, vr g 0), (2, vr g 75), (3, vr g 96), (4, vi (i : Int))] [] := by
  refine ev_aload_n dL_law_413 1 rfl ?_
  obtain ⟨v1, μ1, hf1, v2, μ2, hf2, ho, hG⟩ := hs
  refine ev_mem (LR_self (lo := 0) (hi := 75)) ?_
  refine cl_V1 (As := []) (st := []) miX11_wish (tX11_wish (sdR (N := μ) (by decide) (fun k hk => Kr_in2 (inR_w hk rfl rfl))) (CIn.w (lo := 0) (hi := 75) (fun k hk => hk) rfl rfl)  μ (o := (v1, μ1)) hf1) dL_law_414 lkL_35 inX11_wish rfl (by decide) rfl ⟨rfl, rfl⟩ ⟨⟨Nat.le_of_ble_eq_true rfl, Nat.le_of_ble_eq_true rfl⟩, hc.1, hc.2⟩ (Nat.le_of_ble_eq_true rfl) ?_
  refine ev_aload_n dL_law_417 2 rfl ?_
  refine ev_mem (LR_self (lo := 75) (hi := 96)) ?_
  refine cl_V1 (As := []) (st := [vi v1]) miX12_wish (tX12_wish (sdR (N := (LR 0 75 μ μ1)) (by decide) (fun k hk => Kr_in2 (inR_w hk rfl rfl))) (CIn.w (lo := 75) (hi := 96) (fun k hk => hk) rfl rfl)  (LR 0 75 μ μ1) (o := (v2, μ2)) hf2) dL_law_418 lkL_38 inX12_wish rfl (by decide) rfl ⟨rfl, rfl⟩ ⟨⟨Nat.le_of_ble_eq_true rfl, Nat.le_of_ble_eq_true rfl⟩, hc.1, hc.2⟩ (Nat.le_of_ble_eq_true rfl) ?_
  refine ev_icmp_eq 1463 dL_law_421 (by decide) (fun _ => ?_) (fun h => absurd ho h)
  exact kk _ hG
def S_cake (G : Mem → Prop) (a0 : Int) (a1 : Int) (μ : Mem) : Prop := Nz a0 → Nz a1 → ∃ (v1 : Int) (μ1 : Mem), (fX11_cake a0 a1 μ = some v1 ∧ μ = μ1) ∧ ∃ (v2 : Int) (μ2 : Mem), (fX12_cake a0 a1 (LR 0 75 μ μ1) = some (v2, μ2)) ∧ w32 v1 = w32 v2 ∧ G (LR 75 96 (LR 0 75 μ μ1) μ2)
theorem lc_cake {G : Mem → Prop} (hs : ∀ (a0 : Int) (a1 : Int), S_cake G a0 a1 μ) (hi : i + 7 ≤ L) (hb : L ≤ 3584) (hc : cells ≤ 601024 ∧ slots ≤ 7293034) (kk : ∀ μ2, G μ2 → Ev l D cy g (Kr 0 97) (yl nm) cL_law 7 ret room_1 (QL b L xs g) cells slots 97 false μ2 1463 [(0, Value.ref b), (1, vr g 0), (2, vr g 75), (3, vr g 96), (4, vi (i : Int))] []) : Ev l D cy g (Kr 0 97) (yl nm) cL_law 7 ret room_1 (QL b L xs g) cells slots 97 false μ 426 [(0, Value.ref b), (1, vr g 0), (2, vr g 75), (3, vr g 96), (4, vi (i : Int))] [] := by
  refine ev_aload_n dL_law_426 1 rfl ?_
  refine ev_aload_n dL_law_427 0 rfl ?_
  refine ev_iload dL_law_428 4 rfl ?_
  refine ev_iconst dL_law_430 ?_
  refine ev_iadd dL_law_431 ?_
  refine ev_sld (i + 1) dL_law_432 (xi 1 (by omega) hb) (by omega) ?_
  refine ev_aload_n dL_law_433 0 rfl ?_
  refine ev_iload dL_law_434 4 rfl ?_
  refine ev_iconst dL_law_436 ?_
  refine ev_iadd dL_law_437 ?_
  refine ev_sld (i + 2) dL_law_438 (xi 2 (by omega) hb) (by omega) ?_
  obtain ⟨v1, μ1, hf1, v2, μ2, hf2, ho, hG⟩ := hs (XI xs (i + 1)) (XI xs (i + 2)) nzX nzX
  obtain ⟨hf1, rfl⟩ := hf1
  refine ev_mem (LR_self (lo := 0) (hi := 75)) ?_
  refine cl_V1 (As := [vi (XI xs (i + 1)), vi (XI xs (i + 2))]) (st := []) miX11_cake (tX11_cake (sdR (N := μ) (by decide) (fun k hk => Kr_in2 (inR_w hk rfl rfl))) (CIn.w (lo := 0) (hi := 75) (fun k hk => hk) rfl rfl) (XI xs (i + 1)) (XI xs (i + 2)) μ (o := v1) hf1) dL_law_439 lkL_39 inX11_cake rfl (by decide) rfl ⟨rfl, rfl⟩ ⟨⟨Nat.le_of_ble_eq_true rfl, Nat.le_of_ble_eq_true rfl⟩, hc.1, hc.2⟩ (Nat.le_of_ble_eq_true rfl) ?_
  refine ev_aload_n dL_law_442 2 rfl ?_
  refine ev_aload_n dL_law_443 0 rfl ?_
  refine ev_iload dL_law_444 4 rfl ?_
  refine ev_iconst dL_law_446 ?_
  refine ev_iadd dL_law_447 ?_
  refine ev_sld (i + 1) dL_law_448 (xi 1 (by omega) hb) (by omega) ?_
  refine ev_aload_n dL_law_449 0 rfl ?_
  refine ev_iload dL_law_450 4 rfl ?_
  refine ev_iconst dL_law_452 ?_
  refine ev_iadd dL_law_453 ?_
  refine ev_sld (i + 2) dL_law_454 (xi 2 (by omega) hb) (by omega) ?_
  refine ev_mem (LR_self (lo := 75) (hi := 96)) ?_
  refine cl_V1 (As := [vi (XI xs (i + 1)), vi (XI xs (i + 2))]) (st := [vi v1]) miX12_cake (tX12_cake (sdR (N := (LR 0 75 μ μ)) (by decide) (fun k hk => Kr_in2 (inR_w hk rfl rfl))) (CIn.w (lo := 75) (hi := 96) (fun k hk => hk) rfl rfl) (XI xs (i + 1)) (XI xs (i + 2)) (LR 0 75 μ μ) (o := (v2, μ2)) hf2) dL_law_455 lkL_43 inX12_cake rfl (by decide) rfl ⟨rfl, rfl⟩ ⟨⟨Nat.le_of_ble_eq_true rfl, Nat.le_of_ble_eq_true rfl⟩, hc.1, hc.2⟩ (Nat.le_of_ble_eq_true rfl) ?_
  refine ev_icmp_eq 1463 dL_law_458 (by decide) (fun _ => ?_) (fun h => absurd ho h)
  exact kk _ hG
def S_there (G : Mem → Prop) (a0 : Int) (μ : Mem) : Prop := Nz a0 → ∃ (v1 : Int) (μ1 : Mem), (fX11_there a0 μ = v1 ∧ μ = μ1) ∧ ∃ (v2 : Int) (μ2 : Mem), (fX12_there a0 (LR 0 75 μ μ1) = some (v2, μ2)) ∧ w32 v1 = w32 v2 ∧ G (LR 75 96 (LR 0 75 μ μ1) μ2)
theorem lc_there {G : Mem → Prop} (hs : ∀ (a0 : Int), S_there G a0 μ) (hi : i + 7 ≤ L) (hb : L ≤ 3584) (hc : cells ≤ 601024 ∧ slots ≤ 7293034) (kk : ∀ μ2, G μ2 → Ev l D cy g (Kr 0 97) (yl nm) cL_law 7 ret room_1 (QL b L xs g) cells slots 97 false μ2 1463 [(0, Value.ref b), (1, vr g 0), (2, vr g 75), (3, vr g 96), (4, vi (i : Int))] []) : Ev l D cy g (Kr 0 97) (yl nm) cL_law 7 ret room_1 (QL b L xs g) cells slots 97 false μ 463 [(0, Value.ref b), (1, vr g 0), (2, vr g 75), (3, vr g 96), (4, vi (i : Int))] [] := by
  refine ev_aload_n dL_law_463 1 rfl ?_
  refine ev_aload_n dL_law_464 0 rfl ?_
  refine ev_iload dL_law_465 4 rfl ?_
  refine ev_iconst dL_law_467 ?_
  refine ev_iadd dL_law_468 ?_
  refine ev_sld (i + 1) dL_law_469 (xi 1 (by omega) hb) (by omega) ?_
  obtain ⟨v1, μ1, hf1, v2, μ2, hf2, ho, hG⟩ := hs (XI xs (i + 1)) nzX
  obtain ⟨hf1, rfl⟩ := hf1
  refine ev_mem (LR_self (lo := 0) (hi := 75)) ?_
  refine cl_V1 (As := [vi (XI xs (i + 1))]) (st := []) miX11_there (tX11_there (sdR (N := μ) (by decide) (fun k hk => Kr_in2 (inR_w hk rfl rfl))) (CIn.w (lo := 0) (hi := 75) (fun k hk => hk) rfl rfl) (XI xs (i + 1)) μ (o := v1) hf1) dL_law_470 lkL_44 inX11_there rfl (by decide) rfl ⟨rfl, rfl⟩ ⟨⟨Nat.le_of_ble_eq_true rfl, Nat.le_of_ble_eq_true rfl⟩, hc.1, hc.2⟩ (Nat.le_of_ble_eq_true rfl) ?_
  refine ev_aload_n dL_law_473 2 rfl ?_
  refine ev_aload_n dL_law_474 0 rfl ?_
  refine ev_iload dL_law_475 4 rfl ?_
  refine ev_iconst dL_law_477 ?_
  refine ev_iadd dL_law_478 ?_
  refine ev_sld (i + 1) dL_law_479 (xi 1 (by omega) hb) (by omega) ?_
  refine ev_mem (LR_self (lo := 75) (hi := 96)) ?_
  refine cl_V1 (As := [vi (XI xs (i + 1))]) (st := [vi v1]) miX12_there (tX12_there (sdR (N := (LR 0 75 μ μ)) (by decide) (fun k hk => Kr_in2 (inR_w hk rfl rfl))) (CIn.w (lo := 75) (hi := 96) (fun k hk => hk) rfl rfl) (XI xs (i + 1)) (LR 0 75 μ μ) (o := (v2, μ2)) hf2) dL_law_480 lkL_48 inX12_there rfl (by decide) rfl ⟨rfl, rfl⟩ ⟨⟨Nat.le_of_ble_eq_true rfl, Nat.le_of_ble_eq_true rfl⟩, hc.1, hc.2⟩ (Nat.le_of_ble_eq_true rfl) ?_
  refine ev_icmp_eq 1463 dL_law_483 (by decide) (fun _ => ?_) (fun h => absurd ho h)
  exact kk _ hG
def S_turn (G : Mem → Prop) (a0 : Int) (μ : Mem) : Prop := Nz a0 → ∃ (v1 : Int) (μ1 : Mem), (fX11_turn a0 μ = some (v1, μ1)) ∧ ∃ (v2 : Int) (μ2 : Mem), (fX12_turn a0 (LR 0 75 μ μ1) = some (v2, μ2)) ∧ w32 v1 = w32 v2 ∧ G (LR 75 96 (LR 0 75 μ μ1) μ2)
theorem lc_turn {G : Mem → Prop} (hs : ∀ (a0 : Int), S_turn G a0 μ) (hi : i + 7 ≤ L) (hb : L ≤ 3584) (hc : cells ≤ 601024 ∧ slots ≤ 7293034) (kk : ∀ μ2, G μ2 → Ev l D cy g (Kr 0 97) (yl nm) cL_law 7 ret room_1 (QL b L xs g) cells slots 97 false μ2 1463 [(0, Value.ref b), (1, vr g 0), (2, vr g 75), (3, vr g 96), (4, vi (i : Int))] []) : Ev l D cy g (Kr 0 97) (yl nm) cL_law 7 ret room_1 (QL b L xs g) cells slots 97 false μ 488 [(0, Value.ref b), (1, vr g 0), (2, vr g 75), (3, vr g 96), (4, vi (i : Int))] [] := by
  refine ev_aload_n dL_law_488 1 rfl ?_
  refine ev_aload_n dL_law_489 0 rfl ?_
  refine ev_iload dL_law_490 4 rfl ?_
  refine ev_iconst dL_law_492 ?_
  refine ev_iadd dL_law_493 ?_
  refine ev_sld (i + 1) dL_law_494 (xi 1 (by omega) hb) (by omega) ?_
  obtain ⟨v1, μ1, hf1, v2, μ2, hf2, ho, hG⟩ := hs (XI xs (i + 1)) nzX
  refine ev_mem (LR_self (lo := 0) (hi := 75)) ?_
  refine cl_V1 (As := [vi (XI xs (i + 1))]) (st := []) miX11_turn (tX11_turn (sdR (N := μ) (by decide) (fun k hk => Kr_in2 (inR_w hk rfl rfl))) (CIn.w (lo := 0) (hi := 75) (fun k hk => hk) rfl rfl) (XI xs (i + 1)) μ (o := (v1, μ1)) hf1) dL_law_495 lkL_49 inX11_turn rfl (by decide) rfl ⟨rfl, rfl⟩ ⟨⟨Nat.le_of_ble_eq_true rfl, Nat.le_of_ble_eq_true rfl⟩, hc.1, hc.2⟩ (Nat.le_of_ble_eq_true rfl) ?_
  refine ev_aload_n dL_law_498 2 rfl ?_
  refine ev_aload_n dL_law_499 0 rfl ?_
  refine ev_iload dL_law_500 4 rfl ?_
  refine ev_iconst dL_law_502 ?_
  refine ev_iadd dL_law_503 ?_
  refine ev_sld (i + 1) dL_law_504 (xi 1 (by omega) hb) (by omega) ?_
  refine ev_mem (LR_self (lo := 75) (hi := 96)) ?_
  refine cl_V1 (As := [vi (XI xs (i + 1))]) (st := [vi v1]) miX12_turn (tX12_turn (sdR (N := (LR 0 75 μ μ1)) (by decide) (fun k hk => Kr_in2 (inR_w hk rfl rfl))) (CIn.w (lo := 75) (hi := 96) (fun k hk => hk) rfl rfl) (XI xs (i + 1)) (LR 0 75 μ μ1) (o := (v2, μ2)) hf2) dL_law_505 lkL_52 inX12_turn rfl (by decide) rfl ⟨rfl, rfl⟩ ⟨⟨Nat.le_of_ble_eq_true rfl, Nat.le_of_ble_eq_true rfl⟩, hc.1, hc.2⟩ (Nat.le_of_ble_eq_true rfl) ?_
  refine ev_icmp_eq 1463 dL_law_508 (by decide) (fun _ => ?_) (fun h => absurd ho h)
  exact kk _ hG
def S_undo (G : Mem → Prop)  (μ : Mem) : Prop := ∃ (v1 : Bool) (μ1 : Mem), (fX11_undo  μ = (v1, μ1)) ∧ ∃ (v2 : Bool) (μ2 : Mem), (fX12_undo  (LR 0 75 μ μ1) = some (v2, μ2)) ∧ v1 = v2 ∧ G (LR 75 96 (LR 0 75 μ μ1) μ2)
theorem lc_undo {G : Mem → Prop} (hs : S_undo G  μ) (hi : i + 7 ≤ L) (hb : L ≤ 3584) (hc : cells ≤ 601024 ∧ slots ≤ 7293034) (kk : ∀ μ2, G μ2 → Ev l D cy g (Kr 0 97) (yl nm) cL_law 7 ret room_1 (QL b L xs g) cells slots 97 false μ2 1463 [(0, Value.ref b), (1, vr g 0), (2, vr g 75), (3, vr g 96), (4, vi (i : Int))] []) : Ev l D cy g (Kr 0 97) (yl nm) cL_law 7 ret room_1 (QL b L xs g) cells slots 97 false μ 513 [(0, Value.ref b), (1, vr g 0), (2, vr g 75), (3, vr g 96), (4, vi (i : Int))] [] := by
  refine ev_aload_n dL_law_513 1 rfl ?_
  obtain ⟨v1, μ1, hf1, v2, μ2, hf2, ho, hG⟩ := hs
  refine ev_mem (LR_self (lo := 0) (hi := 75)) ?_
  refine cl_V1 (As := []) (st := []) miX11_undo (tX11_undo (sdR (N := μ) (by decide) (fun k hk => Kr_in2 (inR_w hk rfl rfl))) (CIn.w (lo := 0) (hi := 75) (fun k hk => hk) rfl rfl)  μ (o := (v1, μ1)) hf1) dL_law_514 lkL_53 inX11_undo rfl (by decide) rfl ⟨rfl, rfl⟩ ⟨⟨Nat.le_of_ble_eq_true rfl, Nat.le_of_ble_eq_true rfl⟩, hc.1, hc.2⟩ (Nat.le_of_ble_eq_true rfl) ?_
  refine ev_aload_n dL_law_517 2 rfl ?_
  refine ev_mem (LR_self (lo := 75) (hi := 96)) ?_
  refine cl_V1 (As := []) (st := [vb v1]) miX12_undo (tX12_undo (sdR (N := (LR 0 75 μ μ1)) (by decide) (fun k hk => Kr_in2 (inR_w hk rfl rfl))) (CIn.w (lo := 75) (hi := 96) (fun k hk => hk) rfl rfl)  (LR 0 75 μ μ1) (o := (v2, μ2)) hf2) dL_law_518 lkL_57 inX12_undo rfl (by decide) rfl ⟨rfl, rfl⟩ ⟨⟨Nat.le_of_ble_eq_true rfl, Nat.le_of_ble_eq_true rfl⟩, hc.1, hc.2⟩ (Nat.le_of_ble_eq_true rfl) ?_
  refine ev_icmp_eq 1463 dL_law_521 (by decide) (fun _ => ?_) (fun h => absurd (by rw [ho]) h)
  exact kk _ hG
def S_can (G : Mem → Prop) (a0 : Int) (μ : Mem) : Prop := Nz a0 → ∃ (v1 : Bool) (μ1 : Mem), (fX11_can a0 μ = v1 ∧ μ = μ1) ∧ ∃ (v2 : Bool) (μ2 : Mem), (fX12_can a0 (LR 0 75 μ μ1) = some (v2, μ2)) ∧ v1 = v2 ∧ G (LR 75 96 (LR 0 75 μ μ1) μ2)
theorem lc_can {G : Mem → Prop} (hs : ∀ (a0 : Int), S_can G a0 μ) (hi : i + 7 ≤ L) (hb : L ≤ 3584) (hc : cells ≤ 601024 ∧ slots ≤ 7293034) (kk : ∀ μ2, G μ2 → Ev l D cy g (Kr 0 97) (yl nm) cL_law 7 ret room_1 (QL b L xs g) cells slots 97 false μ2 1463 [(0, Value.ref b), (1, vr g 0), (2, vr g 75), (3, vr g 96), (4, vi (i : Int))] []) : Ev l D cy g (Kr 0 97) (yl nm) cL_law 7 ret room_1 (QL b L xs g) cells slots 97 false μ 526 [(0, Value.ref b), (1, vr g 0), (2, vr g 75), (3, vr g 96), (4, vi (i : Int))] [] := by
  refine ev_aload_n dL_law_526 1 rfl ?_
  refine ev_aload_n dL_law_527 0 rfl ?_
  refine ev_iload dL_law_528 4 rfl ?_
  refine ev_iconst dL_law_530 ?_
  refine ev_iadd dL_law_531 ?_
  refine ev_sld (i + 1) dL_law_532 (xi 1 (by omega) hb) (by omega) ?_
  obtain ⟨v1, μ1, hf1, v2, μ2, hf2, ho, hG⟩ := hs (XI xs (i + 1)) nzX
  obtain ⟨hf1, rfl⟩ := hf1
  refine ev_mem (LR_self (lo := 0) (hi := 75)) ?_
  refine cl_V1 (As := [vi (XI xs (i + 1))]) (st := []) miX11_can (tX11_can (sdR (N := μ) (by decide) (fun k hk => Kr_in2 (inR_w hk rfl rfl))) (CIn.w (lo := 0) (hi := 75) (fun k hk => hk) rfl rfl) (XI xs (i + 1)) μ (o := v1) hf1) dL_law_533 lkL_58 inX11_can rfl (by decide) rfl ⟨rfl, rfl⟩ ⟨⟨Nat.le_of_ble_eq_true rfl, Nat.le_of_ble_eq_true rfl⟩, hc.1, hc.2⟩ (Nat.le_of_ble_eq_true rfl) ?_
  refine ev_aload_n dL_law_536 2 rfl ?_
  refine ev_aload_n dL_law_537 0 rfl ?_
  refine ev_iload dL_law_538 4 rfl ?_
  refine ev_iconst dL_law_540 ?_
  refine ev_iadd dL_law_541 ?_
  refine ev_sld (i + 1) dL_law_542 (xi 1 (by omega) hb) (by omega) ?_
  refine ev_mem (LR_self (lo := 75) (hi := 96)) ?_
  refine cl_V1 (As := [vi (XI xs (i + 1))]) (st := [vb v1]) miX12_can (tX12_can (sdR (N := (LR 0 75 μ μ)) (by decide) (fun k hk => Kr_in2 (inR_w hk rfl rfl))) (CIn.w (lo := 75) (hi := 96) (fun k hk => hk) rfl rfl) (XI xs (i + 1)) (LR 0 75 μ μ) (o := (v2, μ2)) hf2) dL_law_543 lkL_62 inX12_can rfl (by decide) rfl ⟨rfl, rfl⟩ ⟨⟨Nat.le_of_ble_eq_true rfl, Nat.le_of_ble_eq_true rfl⟩, hc.1, hc.2⟩ (Nat.le_of_ble_eq_true rfl) ?_
  refine ev_icmp_eq 1463 dL_law_546 (by decide) (fun _ => ?_) (fun h => absurd (by rw [ho]) h)
  exact kk _ hG
def S_cost (G : Mem → Prop) (a0 : Int) (μ : Mem) : Prop := Nz a0 → ∃ (v1 : Int) (μ1 : Mem), (fX11_cost a0 μ = v1 ∧ μ = μ1) ∧ ∃ (v2 : Int) (μ2 : Mem), (fX12_cost a0 (LR 0 75 μ μ1) = some (v2, μ2)) ∧ w32 v1 = w32 v2 ∧ G (LR 75 96 (LR 0 75 μ μ1) μ2)
theorem lc_cost {G : Mem → Prop} (hs : ∀ (a0 : Int), S_cost G a0 μ) (hi : i + 7 ≤ L) (hb : L ≤ 3584) (hc : cells ≤ 601024 ∧ slots ≤ 7293034) (kk : ∀ μ2, G μ2 → Ev l D cy g (Kr 0 97) (yl nm) cL_law 7 ret room_1 (QL b L xs g) cells slots 97 false μ2 1463 [(0, Value.ref b), (1, vr g 0), (2, vr g 75), (3, vr g 96), (4, vi (i : Int))] []) : Ev l D cy g (Kr 0 97) (yl nm) cL_law 7 ret room_1 (QL b L xs g) cells slots 97 false μ 551 [(0, Value.ref b), (1, vr g 0), (2, vr g 75), (3, vr g 96), (4, vi (i : Int))] [] := by
  refine ev_aload_n dL_law_551 1 rfl ?_
  refine ev_aload_n dL_law_552 0 rfl ?_
  refine ev_iload dL_law_553 4 rfl ?_
  refine ev_iconst dL_law_555 ?_
  refine ev_iadd dL_law_556 ?_
  refine ev_sld (i + 1) dL_law_557 (xi 1 (by omega) hb) (by omega) ?_
  obtain ⟨v1, μ1, hf1, v2, μ2, hf2, ho, hG⟩ := hs (XI xs (i + 1)) nzX
  obtain ⟨hf1, rfl⟩ := hf1
  refine ev_mem (LR_self (lo := 0) (hi := 75)) ?_
  refine cl_V1 (As := [vi (XI xs (i + 1))]) (st := []) miX11_cost (tX11_cost (sdR (N := μ) (by decide) (fun k hk => Kr_in2 (inR_w hk rfl rfl))) (CIn.w (lo := 0) (hi := 75) (fun k hk => hk) rfl rfl) (XI xs (i + 1)) μ (o := v1) hf1) dL_law_558 lkL_63 inX11_cost rfl (by decide) rfl ⟨rfl, rfl⟩ ⟨⟨Nat.le_of_ble_eq_true rfl, Nat.le_of_ble_eq_true rfl⟩, hc.1, hc.2⟩ (Nat.le_of_ble_eq_true rfl) ?_
  refine ev_aload_n dL_law_561 2 rfl ?_
  refine ev_aload_n dL_law_562 0 rfl ?_
  refine ev_iload dL_law_563 4 rfl ?_
  refine ev_iconst dL_law_565 ?_
  refine ev_iadd dL_law_566 ?_
  refine ev_sld (i + 1) dL_law_567 (xi 1 (by omega) hb) (by omega) ?_
  refine ev_mem (LR_self (lo := 75) (hi := 96)) ?_
  refine cl_V1 (As := [vi (XI xs (i + 1))]) (st := [vi v1]) miX12_cost (tX12_cost (sdR (N := (LR 0 75 μ μ)) (by decide) (fun k hk => Kr_in2 (inR_w hk rfl rfl))) (CIn.w (lo := 75) (hi := 96) (fun k hk => hk) rfl rfl) (XI xs (i + 1)) (LR 0 75 μ μ) (o := (v2, μ2)) hf2) dL_law_568 lkL_66 inX12_cost rfl (by decide) rfl ⟨rfl, rfl⟩ ⟨⟨Nat.le_of_ble_eq_true rfl, Nat.le_of_ble_eq_true rfl⟩, hc.1, hc.2⟩ (Nat.le_of_ble_eq_true rfl) ?_
  refine ev_icmp_eq 1463 dL_law_571 (by decide) (fun _ => ?_) (fun h => absurd ho h)
  exact kk _ hG
def S_served (G : Mem → Prop)  (μ : Mem) : Prop := ∃ (v1 : Bool) (μ1 : Mem), (fX11_served  μ = v1 ∧ μ = μ1) ∧ ∃ (v2 : Bool) (μ2 : Mem), (fX12_served  (LR 0 75 μ μ1) = some (v2, μ2)) ∧ v1 = v2 ∧ G (LR 75 96 (LR 0 75 μ μ1) μ2)
theorem lc_served {G : Mem → Prop} (hs : S_served G  μ) (hi : i + 7 ≤ L) (hb : L ≤ 3584) (hc : cells ≤ 601024 ∧ slots ≤ 7293034) (kk : ∀ μ2, G μ2 → Ev l D cy g (Kr 0 97) (yl nm) cL_law 7 ret room_1 (QL b L xs g) cells slots 97 false μ2 1463 [(0, Value.ref b), (1, vr g 0), (2, vr g 75), (3, vr g 96), (4, vi (i : Int))] []) : Ev l D cy g (Kr 0 97) (yl nm) cL_law 7 ret room_1 (QL b L xs g) cells slots 97 false μ 576 [(0, Value.ref b), (1, vr g 0), (2, vr g 75), (3, vr g 96), (4, vi (i : Int))] [] := by
  refine ev_aload_n dL_law_576 1 rfl ?_
  obtain ⟨v1, μ1, hf1, v2, μ2, hf2, ho, hG⟩ := hs
  obtain ⟨hf1, rfl⟩ := hf1
  refine ev_mem (LR_self (lo := 0) (hi := 75)) ?_
  refine cl_V1 (As := []) (st := []) miX11_served (tX11_served (sdR (N := μ) (by decide) (fun k hk => Kr_in2 (inR_w hk rfl rfl))) (CIn.w (lo := 0) (hi := 75) (fun k hk => hk) rfl rfl)  μ (o := v1) hf1) dL_law_577 lkL_67 inX11_served rfl (by decide) rfl ⟨rfl, rfl⟩ ⟨⟨Nat.le_of_ble_eq_true rfl, Nat.le_of_ble_eq_true rfl⟩, hc.1, hc.2⟩ (Nat.le_of_ble_eq_true rfl) ?_
  refine ev_aload_n dL_law_580 2 rfl ?_
  refine ev_mem (LR_self (lo := 75) (hi := 96)) ?_
  refine cl_V1 (As := []) (st := [vb v1]) miX12_served (tX12_served (sdR (N := (LR 0 75 μ μ)) (by decide) (fun k hk => Kr_in2 (inR_w hk rfl rfl))) (CIn.w (lo := 75) (hi := 96) (fun k hk => hk) rfl rfl)  (LR 0 75 μ μ) (o := (v2, μ2)) hf2) dL_law_581 lkL_70 inX12_served rfl (by decide) rfl ⟨rfl, rfl⟩ ⟨⟨Nat.le_of_ble_eq_true rfl, Nat.le_of_ble_eq_true rfl⟩, hc.1, hc.2⟩ (Nat.le_of_ble_eq_true rfl) ?_
  refine ev_icmp_eq 1463 dL_law_584 (by decide) (fun _ => ?_) (fun h => absurd (by rw [ho]) h)
  exact kk _ hG
def S_judged (G : Mem → Prop) (a0 : Int) (μ : Mem) : Prop := Nz a0 → ∃ (v1 : Int) (μ1 : Mem), (fX11_judged a0 μ = some (v1, μ1)) ∧ ∃ (v2 : Int) (μ2 : Mem), (fX12_judged a0 (LR 0 75 μ μ1) = some (v2, μ2)) ∧ w32 v1 = w32 v2 ∧ G (LR 75 96 (LR 0 75 μ μ1) μ2)
theorem lc_judged {G : Mem → Prop} (hs : ∀ (a0 : Int), S_judged G a0 μ) (hi : i + 7 ≤ L) (hb : L ≤ 3584) (hc : cells ≤ 601024 ∧ slots ≤ 7293034) (kk : ∀ μ2, G μ2 → Ev l D cy g (Kr 0 97) (yl nm) cL_law 7 ret room_1 (QL b L xs g) cells slots 97 false μ2 1463 [(0, Value.ref b), (1, vr g 0), (2, vr g 75), (3, vr g 96), (4, vi (i : Int))] []) : Ev l D cy g (Kr 0 97) (yl nm) cL_law 7 ret room_1 (QL b L xs g) cells slots 97 false μ 589 [(0, Value.ref b), (1, vr g 0), (2, vr g 75), (3, vr g 96), (4, vi (i : Int))] [] := by
  refine ev_aload_n dL_law_589 1 rfl ?_
  refine ev_aload_n dL_law_590 0 rfl ?_
  refine ev_iload dL_law_591 4 rfl ?_
  refine ev_iconst dL_law_593 ?_
  refine ev_iadd dL_law_594 ?_
  refine ev_sld (i + 1) dL_law_595 (xi 1 (by omega) hb) (by omega) ?_
  obtain ⟨v1, μ1, hf1, v2, μ2, hf2, ho, hG⟩ := hs (XI xs (i + 1)) nzX
  refine ev_mem (LR_self (lo := 0) (hi := 75)) ?_
  refine cl_V1 (As := [vi (XI xs (i + 1))]) (st := []) miX11_judged (tX11_judged (sdR (N := μ) (by decide) (fun k hk => Kr_in2 (inR_w hk rfl rfl))) (CIn.w (lo := 0) (hi := 75) (fun k hk => hk) rfl rfl) (XI xs (i + 1)) μ (o := (v1, μ1)) hf1) dL_law_596 lkL_71 inX11_judged rfl (by decide) rfl ⟨rfl, rfl⟩ ⟨⟨Nat.le_of_ble_eq_true rfl, Nat.le_of_ble_eq_true rfl⟩, hc.1, hc.2⟩ (Nat.le_of_ble_eq_true rfl) ?_
  refine ev_aload_n dL_law_599 2 rfl ?_
  refine ev_aload_n dL_law_600 0 rfl ?_
  refine ev_iload dL_law_601 4 rfl ?_
  refine ev_iconst dL_law_603 ?_
  refine ev_iadd dL_law_604 ?_
  refine ev_sld (i + 1) dL_law_605 (xi 1 (by omega) hb) (by omega) ?_
  refine ev_mem (LR_self (lo := 75) (hi := 96)) ?_
  refine cl_V1 (As := [vi (XI xs (i + 1))]) (st := [vi v1]) miX12_judged (tX12_judged (sdR (N := (LR 0 75 μ μ1)) (by decide) (fun k hk => Kr_in2 (inR_w hk rfl rfl))) (CIn.w (lo := 75) (hi := 96) (fun k hk => hk) rfl rfl) (XI xs (i + 1)) (LR 0 75 μ μ1) (o := (v2, μ2)) hf2) dL_law_606 lkL_74 inX12_judged rfl (by decide) rfl ⟨rfl, rfl⟩ ⟨⟨Nat.le_of_ble_eq_true rfl, Nat.le_of_ble_eq_true rfl⟩, hc.1, hc.2⟩ (Nat.le_of_ble_eq_true rfl) ?_
  refine ev_icmp_eq 1463 dL_law_609 (by decide) (fun _ => ?_) (fun h => absurd ho h)
  exact kk _ hG
def S_least (G : Mem → Prop)  (μ : Mem) : Prop := ∃ (v1 : Int) (μ1 : Mem), (fX11_least  μ = some (v1, μ1)) ∧ ∃ (v2 : Int) (μ2 : Mem), (fX12_least  (LR 0 75 μ μ1) = some (v2, μ2)) ∧ w32 v1 = w32 v2 ∧ G (LR 75 96 (LR 0 75 μ μ1) μ2)
theorem lc_least {G : Mem → Prop} (hs : S_least G  μ) (hi : i + 7 ≤ L) (hb : L ≤ 3584) (hc : cells ≤ 601024 ∧ slots ≤ 7293034) (kk : ∀ μ2, G μ2 → Ev l D cy g (Kr 0 97) (yl nm) cL_law 7 ret room_1 (QL b L xs g) cells slots 97 false μ2 1463 [(0, Value.ref b), (1, vr g 0), (2, vr g 75), (3, vr g 96), (4, vi (i : Int))] []) : Ev l D cy g (Kr 0 97) (yl nm) cL_law 7 ret room_1 (QL b L xs g) cells slots 97 false μ 614 [(0, Value.ref b), (1, vr g 0), (2, vr g 75), (3, vr g 96), (4, vi (i : Int))] [] := by
  refine ev_aload_n dL_law_614 1 rfl ?_
  obtain ⟨v1, μ1, hf1, v2, μ2, hf2, ho, hG⟩ := hs
  refine ev_mem (LR_self (lo := 0) (hi := 75)) ?_
  refine cl_V1 (As := []) (st := []) miX11_least (tX11_least (sdR (N := μ) (by decide) (fun k hk => Kr_in2 (inR_w hk rfl rfl))) (CIn.w (lo := 0) (hi := 75) (fun k hk => hk) rfl rfl)  μ (o := (v1, μ1)) hf1) dL_law_615 lkL_75 inX11_least rfl (by decide) rfl ⟨rfl, rfl⟩ ⟨⟨Nat.le_of_ble_eq_true rfl, Nat.le_of_ble_eq_true rfl⟩, hc.1, hc.2⟩ (Nat.le_of_ble_eq_true rfl) ?_
  refine ev_aload_n dL_law_618 2 rfl ?_
  refine ev_mem (LR_self (lo := 75) (hi := 96)) ?_
  refine cl_V1 (As := []) (st := [vi v1]) miX12_least (tX12_least (sdR (N := (LR 0 75 μ μ1)) (by decide) (fun k hk => Kr_in2 (inR_w hk rfl rfl))) (CIn.w (lo := 75) (hi := 96) (fun k hk => hk) rfl rfl)  (LR 0 75 μ μ1) (o := (v2, μ2)) hf2) dL_law_619 lkL_78 inX12_least rfl (by decide) rfl ⟨rfl, rfl⟩ ⟨⟨Nat.le_of_ble_eq_true rfl, Nat.le_of_ble_eq_true rfl⟩, hc.1, hc.2⟩ (Nat.le_of_ble_eq_true rfl) ?_
  refine ev_icmp_eq 1463 dL_law_622 (by decide) (fun _ => ?_) (fun h => absurd ho h)
  exact kk _ hG
def S_row (G : Mem → Prop) (a0 : Int) (μ : Mem) : Prop := Nz a0 → ∃ (v1 : Int) (μ1 : Mem), (fX11_row a0 μ = some (v1, μ1)) ∧ ∃ (v2 : Int) (μ2 : Mem), (fX12_row a0 (LR 0 75 μ μ1) = some (v2, μ2)) ∧ w32 v1 = w32 v2 ∧ G (LR 75 96 (LR 0 75 μ μ1) μ2)
theorem lc_row {G : Mem → Prop} (hs : ∀ (a0 : Int), S_row G a0 μ) (hi : i + 7 ≤ L) (hb : L ≤ 3584) (hc : cells ≤ 601024 ∧ slots ≤ 7293034) (kk : ∀ μ2, G μ2 → Ev l D cy g (Kr 0 97) (yl nm) cL_law 7 ret room_1 (QL b L xs g) cells slots 97 false μ2 1463 [(0, Value.ref b), (1, vr g 0), (2, vr g 75), (3, vr g 96), (4, vi (i : Int))] []) : Ev l D cy g (Kr 0 97) (yl nm) cL_law 7 ret room_1 (QL b L xs g) cells slots 97 false μ 627 [(0, Value.ref b), (1, vr g 0), (2, vr g 75), (3, vr g 96), (4, vi (i : Int))] [] := by
  refine ev_aload_n dL_law_627 1 rfl ?_
  refine ev_aload_n dL_law_628 0 rfl ?_
  refine ev_iload dL_law_629 4 rfl ?_
  refine ev_iconst dL_law_631 ?_
  refine ev_iadd dL_law_632 ?_
  refine ev_sld (i + 1) dL_law_633 (xi 1 (by omega) hb) (by omega) ?_
  obtain ⟨v1, μ1, hf1, v2, μ2, hf2, ho, hG⟩ := hs (XI xs (i + 1)) nzX
  refine ev_mem (LR_self (lo := 0) (hi := 75)) ?_
  refine cl_V1 (As := [vi (XI xs (i + 1))]) (st := []) miX11_row (tX11_row (sdR (N := μ) (by decide) (fun k hk => Kr_in2 (inR_w hk rfl rfl))) (CIn.w (lo := 0) (hi := 75) (fun k hk => hk) rfl rfl) (XI xs (i + 1)) μ (o := (v1, μ1)) hf1) dL_law_634 lkL_79 inX11_row rfl (by decide) rfl ⟨rfl, rfl⟩ ⟨⟨Nat.le_of_ble_eq_true rfl, Nat.le_of_ble_eq_true rfl⟩, hc.1, hc.2⟩ (Nat.le_of_ble_eq_true rfl) ?_
  refine ev_aload_n dL_law_637 2 rfl ?_
  refine ev_aload_n dL_law_638 0 rfl ?_
  refine ev_iload dL_law_639 4 rfl ?_
  refine ev_iconst dL_law_641 ?_
  refine ev_iadd dL_law_642 ?_
  refine ev_sld (i + 1) dL_law_643 (xi 1 (by omega) hb) (by omega) ?_
  refine ev_mem (LR_self (lo := 75) (hi := 96)) ?_
  refine cl_V1 (As := [vi (XI xs (i + 1))]) (st := [vi v1]) miX12_row (tX12_row (sdR (N := (LR 0 75 μ μ1)) (by decide) (fun k hk => Kr_in2 (inR_w hk rfl rfl))) (CIn.w (lo := 75) (hi := 96) (fun k hk => hk) rfl rfl) (XI xs (i + 1)) (LR 0 75 μ μ1) (o := (v2, μ2)) hf2) dL_law_644 lkL_82 inX12_row rfl (by decide) rfl ⟨rfl, rfl⟩ ⟨⟨Nat.le_of_ble_eq_true rfl, Nat.le_of_ble_eq_true rfl⟩, hc.1, hc.2⟩ (Nat.le_of_ble_eq_true rfl) ?_
  refine ev_icmp_eq 1463 dL_law_647 (by decide) (fun _ => ?_) (fun h => absurd ho h)
  exact kk _ hG
def S_ways (G : Mem → Prop)  (μ : Mem) : Prop := ∃ (v1 : Int) (μ1 : Mem), (fX11_ways  μ = some (v1, μ1)) ∧ ∃ (v2 : Int) (μ2 : Mem), (fX12_ways  (LR 0 75 μ μ1) = some (v2, μ2)) ∧ w32 v1 = w32 v2 ∧ G (LR 75 96 (LR 0 75 μ μ1) μ2)
theorem lc_ways {G : Mem → Prop} (hs : S_ways G  μ) (hi : i + 7 ≤ L) (hb : L ≤ 3584) (hc : cells ≤ 601024 ∧ slots ≤ 7293034) (kk : ∀ μ2, G μ2 → Ev l D cy g (Kr 0 97) (yl nm) cL_law 7 ret room_1 (QL b L xs g) cells slots 97 false μ2 1463 [(0, Value.ref b), (1, vr g 0), (2, vr g 75), (3, vr g 96), (4, vi (i : Int))] []) : Ev l D cy g (Kr 0 97) (yl nm) cL_law 7 ret room_1 (QL b L xs g) cells slots 97 false μ 652 [(0, Value.ref b), (1, vr g 0), (2, vr g 75), (3, vr g 96), (4, vi (i : Int))] [] := by
  refine ev_aload_n dL_law_652 1 rfl ?_
  obtain ⟨v1, μ1, hf1, v2, μ2, hf2, ho, hG⟩ := hs
  refine ev_mem (LR_self (lo := 0) (hi := 75)) ?_
  refine cl_V1 (As := []) (st := []) miX11_ways (tX11_ways (sdR (N := μ) (by decide) (fun k hk => Kr_in2 (inR_w hk rfl rfl))) (CIn.w (lo := 0) (hi := 75) (fun k hk => hk) rfl rfl)  μ (o := (v1, μ1)) hf1) dL_law_653 lkL_83 inX11_ways rfl (by decide) rfl ⟨rfl, rfl⟩ ⟨⟨Nat.le_of_ble_eq_true rfl, Nat.le_of_ble_eq_true rfl⟩, hc.1, hc.2⟩ (Nat.le_of_ble_eq_true rfl) ?_
  refine ev_aload_n dL_law_656 2 rfl ?_
  refine ev_mem (LR_self (lo := 75) (hi := 96)) ?_
  refine cl_V1 (As := []) (st := [vi v1]) miX12_ways (tX12_ways (sdR (N := (LR 0 75 μ μ1)) (by decide) (fun k hk => Kr_in2 (inR_w hk rfl rfl))) (CIn.w (lo := 75) (hi := 96) (fun k hk => hk) rfl rfl)  (LR 0 75 μ μ1) (o := (v2, μ2)) hf2) dL_law_657 lkL_86 inX12_ways rfl (by decide) rfl ⟨rfl, rfl⟩ ⟨⟨Nat.le_of_ble_eq_true rfl, Nat.le_of_ble_eq_true rfl⟩, hc.1, hc.2⟩ (Nat.le_of_ble_eq_true rfl) ?_
  refine ev_icmp_eq 1463 dL_law_660 (by decide) (fun _ => ?_) (fun h => absurd ho h)
  exact kk _ hG
def S_cheap (G : Mem → Prop)  (μ : Mem) : Prop := ∃ (v1 : Int) (μ1 : Mem), (fX11_cheap  μ = some (v1, μ1)) ∧ ∃ (v2 : Int) (μ2 : Mem), (fX12_cheap  (LR 0 75 μ μ1) = some (v2, μ2)) ∧ w32 v1 = w32 v2 ∧ G (LR 75 96 (LR 0 75 μ μ1) μ2)
theorem lc_cheap {G : Mem → Prop} (hs : S_cheap G  μ) (hi : i + 7 ≤ L) (hb : L ≤ 3584) (hc : cells ≤ 601024 ∧ slots ≤ 7293034) (kk : ∀ μ2, G μ2 → Ev l D cy g (Kr 0 97) (yl nm) cL_law 7 ret room_1 (QL b L xs g) cells slots 97 false μ2 1463 [(0, Value.ref b), (1, vr g 0), (2, vr g 75), (3, vr g 96), (4, vi (i : Int))] []) : Ev l D cy g (Kr 0 97) (yl nm) cL_law 7 ret room_1 (QL b L xs g) cells slots 97 false μ 665 [(0, Value.ref b), (1, vr g 0), (2, vr g 75), (3, vr g 96), (4, vi (i : Int))] [] := by
  refine ev_aload_n dL_law_665 1 rfl ?_
  obtain ⟨v1, μ1, hf1, v2, μ2, hf2, ho, hG⟩ := hs
  refine ev_mem (LR_self (lo := 0) (hi := 75)) ?_
  refine cl_V1 (As := []) (st := []) miX11_cheap (tX11_cheap (sdR (N := μ) (by decide) (fun k hk => Kr_in2 (inR_w hk rfl rfl))) (CIn.w (lo := 0) (hi := 75) (fun k hk => hk) rfl rfl)  μ (o := (v1, μ1)) hf1) dL_law_666 lkL_87 inX11_cheap rfl (by decide) rfl ⟨rfl, rfl⟩ ⟨⟨Nat.le_of_ble_eq_true rfl, Nat.le_of_ble_eq_true rfl⟩, hc.1, hc.2⟩ (Nat.le_of_ble_eq_true rfl) ?_
  refine ev_aload_n dL_law_669 2 rfl ?_
  refine ev_mem (LR_self (lo := 75) (hi := 96)) ?_
  refine cl_V1 (As := []) (st := [vi v1]) miX12_cheap (tX12_cheap (sdR (N := (LR 0 75 μ μ1)) (by decide) (fun k hk => Kr_in2 (inR_w hk rfl rfl))) (CIn.w (lo := 75) (hi := 96) (fun k hk => hk) rfl rfl)  (LR 0 75 μ μ1) (o := (v2, μ2)) hf2) dL_law_670 lkL_90 inX12_cheap rfl (by decide) rfl ⟨rfl, rfl⟩ ⟨⟨Nat.le_of_ble_eq_true rfl, Nat.le_of_ble_eq_true rfl⟩, hc.1, hc.2⟩ (Nat.le_of_ble_eq_true rfl) ?_
  refine ev_icmp_eq 1463 dL_law_673 (by decide) (fun _ => ?_) (fun h => absurd ho h)
  exact kk _ hG
def S_bill (G : Mem → Prop) (a0 : Int) (μ : Mem) : Prop := Nz a0 → ∃ (v1 : Int) (μ1 : Mem), (fX11_bill a0 μ = some (v1, μ1)) ∧ ∃ (v2 : Int) (μ2 : Mem), (fX12_bill a0 (LR 0 75 μ μ1) = some (v2, μ2)) ∧ w32 v1 = w32 v2 ∧ G (LR 75 96 (LR 0 75 μ μ1) μ2)
theorem lc_bill {G : Mem → Prop} (hs : ∀ (a0 : Int), S_bill G a0 μ) (hi : i + 7 ≤ L) (hb : L ≤ 3584) (hc : cells ≤ 601024 ∧ slots ≤ 7293034) (kk : ∀ μ2, G μ2 → Ev l D cy g (Kr 0 97) (yl nm) cL_law 7 ret room_1 (QL b L xs g) cells slots 97 false μ2 1463 [(0, Value.ref b), (1, vr g 0), (2, vr g 75), (3, vr g 96), (4, vi (i : Int))] []) : Ev l D cy g (Kr 0 97) (yl nm) cL_law 7 ret room_1 (QL b L xs g) cells slots 97 false μ 678 [(0, Value.ref b), (1, vr g 0), (2, vr g 75), (3, vr g 96), (4, vi (i : Int))] [] := by
  refine ev_aload_n dL_law_678 1 rfl ?_
  refine ev_aload_n dL_law_679 0 rfl ?_
  refine ev_iload dL_law_680 4 rfl ?_
  refine ev_iconst dL_law_682 ?_
  refine ev_iadd dL_law_683 ?_
  refine ev_sld (i + 1) dL_law_684 (xi 1 (by omega) hb) (by omega) ?_
  obtain ⟨v1, μ1, hf1, v2, μ2, hf2, ho, hG⟩ := hs (XI xs (i + 1)) nzX
  refine ev_mem (LR_self (lo := 0) (hi := 75)) ?_
  refine cl_V1 (As := [vi (XI xs (i + 1))]) (st := []) miX11_bill (tX11_bill (sdR (N := μ) (by decide) (fun k hk => Kr_in2 (inR_w hk rfl rfl))) (CIn.w (lo := 0) (hi := 75) (fun k hk => hk) rfl rfl) (XI xs (i + 1)) μ (o := (v1, μ1)) hf1) dL_law_685 lkL_91 inX11_bill rfl (by decide) rfl ⟨rfl, rfl⟩ ⟨⟨Nat.le_of_ble_eq_true rfl, Nat.le_of_ble_eq_true rfl⟩, hc.1, hc.2⟩ (Nat.le_of_ble_eq_true rfl) ?_
  refine ev_aload_n dL_law_688 2 rfl ?_
  refine ev_aload_n dL_law_689 0 rfl ?_
  refine ev_iload dL_law_690 4 rfl ?_
  refine ev_iconst dL_law_692 ?_
  refine ev_iadd dL_law_693 ?_
  refine ev_sld (i + 1) dL_law_694 (xi 1 (by omega) hb) (by omega) ?_
  refine ev_mem (LR_self (lo := 75) (hi := 96)) ?_
  refine cl_V1 (As := [vi (XI xs (i + 1))]) (st := [vi v1]) miX12_bill (tX12_bill (sdR (N := (LR 0 75 μ μ1)) (by decide) (fun k hk => Kr_in2 (inR_w hk rfl rfl))) (CIn.w (lo := 75) (hi := 96) (fun k hk => hk) rfl rfl) (XI xs (i + 1)) (LR 0 75 μ μ1) (o := (v2, μ2)) hf2) dL_law_695 lkL_94 inX12_bill rfl (by decide) rfl ⟨rfl, rfl⟩ ⟨⟨Nat.le_of_ble_eq_true rfl, Nat.le_of_ble_eq_true rfl⟩, hc.1, hc.2⟩ (Nat.le_of_ble_eq_true rfl) ?_
  refine ev_icmp_eq 1463 dL_law_698 (by decide) (fun _ => ?_) (fun h => absurd ho h)
  exact kk _ hG
def S_without (G : Mem → Prop) (a0 : Int) (μ : Mem) : Prop := Nz a0 → ∃ (v1 : Int) (μ1 : Mem), (fX11_without a0 μ = some (v1, μ1)) ∧ ∃ (v2 : Int) (μ2 : Mem), (fX12_without a0 (LR 0 75 μ μ1) = some (v2, μ2)) ∧ w32 v1 = w32 v2 ∧ G (LR 75 96 (LR 0 75 μ μ1) μ2)
theorem lc_without {G : Mem → Prop} (hs : ∀ (a0 : Int), S_without G a0 μ) (hi : i + 7 ≤ L) (hb : L ≤ 3584) (hc : cells ≤ 601024 ∧ slots ≤ 7293034) (kk : ∀ μ2, G μ2 → Ev l D cy g (Kr 0 97) (yl nm) cL_law 7 ret room_1 (QL b L xs g) cells slots 97 false μ2 1463 [(0, Value.ref b), (1, vr g 0), (2, vr g 75), (3, vr g 96), (4, vi (i : Int))] []) : Ev l D cy g (Kr 0 97) (yl nm) cL_law 7 ret room_1 (QL b L xs g) cells slots 97 false μ 703 [(0, Value.ref b), (1, vr g 0), (2, vr g 75), (3, vr g 96), (4, vi (i : Int))] [] := by
  refine ev_aload_n dL_law_703 1 rfl ?_
  refine ev_aload_n dL_law_704 0 rfl ?_
  refine ev_iload dL_law_705 4 rfl ?_
  refine ev_iconst dL_law_707 ?_
  refine ev_iadd dL_law_708 ?_
  refine ev_sld (i + 1) dL_law_709 (xi 1 (by omega) hb) (by omega) ?_
  obtain ⟨v1, μ1, hf1, v2, μ2, hf2, ho, hG⟩ := hs (XI xs (i + 1)) nzX
  refine ev_mem (LR_self (lo := 0) (hi := 75)) ?_
  refine cl_V1 (As := [vi (XI xs (i + 1))]) (st := []) miX11_without (tX11_without (sdR (N := μ) (by decide) (fun k hk => Kr_in2 (inR_w hk rfl rfl))) (CIn.w (lo := 0) (hi := 75) (fun k hk => hk) rfl rfl) (XI xs (i + 1)) μ (o := (v1, μ1)) hf1) dL_law_710 lkL_95 inX11_without rfl (by decide) rfl ⟨rfl, rfl⟩ ⟨⟨Nat.le_of_ble_eq_true rfl, Nat.le_of_ble_eq_true rfl⟩, hc.1, hc.2⟩ (Nat.le_of_ble_eq_true rfl) ?_
  refine ev_aload_n dL_law_713 2 rfl ?_
  refine ev_aload_n dL_law_714 0 rfl ?_
  refine ev_iload dL_law_715 4 rfl ?_
  refine ev_iconst dL_law_717 ?_
  refine ev_iadd dL_law_718 ?_
  refine ev_sld (i + 1) dL_law_719 (xi 1 (by omega) hb) (by omega) ?_
  refine ev_mem (LR_self (lo := 75) (hi := 96)) ?_
  refine cl_V1 (As := [vi (XI xs (i + 1))]) (st := [vi v1]) miX12_without (tX12_without (sdR (N := (LR 0 75 μ μ1)) (by decide) (fun k hk => Kr_in2 (inR_w hk rfl rfl))) (CIn.w (lo := 75) (hi := 96) (fun k hk => hk) rfl rfl) (XI xs (i + 1)) (LR 0 75 μ μ1) (o := (v2, μ2)) hf2) dL_law_720 lkL_98 inX12_without rfl (by decide) rfl ⟨rfl, rfl⟩ ⟨⟨Nat.le_of_ble_eq_true rfl, Nat.le_of_ble_eq_true rfl⟩, hc.1, hc.2⟩ (Nat.le_of_ble_eq_true rfl) ?_
  refine ev_icmp_eq 1463 dL_law_723 (by decide) (fun _ => ?_) (fun h => absurd ho h)
  exact kk _ hG
def S_needed (G : Mem → Prop)  (μ : Mem) : Prop := ∃ (v1 : Int) (μ1 : Mem), (fX11_needed  μ = some (v1, μ1)) ∧ ∃ (v2 : Int) (μ2 : Mem), (fX12_needed  (LR 0 75 μ μ1) = some (v2, μ2)) ∧ w32 v1 = w32 v2 ∧ G (LR 75 96 (LR 0 75 μ μ1) μ2)
theorem lc_needed {G : Mem → Prop} (hs : S_needed G  μ) (hi : i + 7 ≤ L) (hb : L ≤ 3584) (hc : cells ≤ 601024 ∧ slots ≤ 7293034) (kk : ∀ μ2, G μ2 → Ev l D cy g (Kr 0 97) (yl nm) cL_law 7 ret room_1 (QL b L xs g) cells slots 97 false μ2 1463 [(0, Value.ref b), (1, vr g 0), (2, vr g 75), (3, vr g 96), (4, vi (i : Int))] []) : Ev l D cy g (Kr 0 97) (yl nm) cL_law 7 ret room_1 (QL b L xs g) cells slots 97 false μ 728 [(0, Value.ref b), (1, vr g 0), (2, vr g 75), (3, vr g 96), (4, vi (i : Int))] [] := by
  refine ev_aload_n dL_law_728 1 rfl ?_
  obtain ⟨v1, μ1, hf1, v2, μ2, hf2, ho, hG⟩ := hs
  refine ev_mem (LR_self (lo := 0) (hi := 75)) ?_
  refine cl_V1 (As := []) (st := []) miX11_needed (tX11_needed (sdR (N := μ) (by decide) (fun k hk => Kr_in2 (inR_w hk rfl rfl))) (CIn.w (lo := 0) (hi := 75) (fun k hk => hk) rfl rfl)  μ (o := (v1, μ1)) hf1) dL_law_729 lkL_99 inX11_needed rfl (by decide) rfl ⟨rfl, rfl⟩ ⟨⟨Nat.le_of_ble_eq_true rfl, Nat.le_of_ble_eq_true rfl⟩, hc.1, hc.2⟩ (Nat.le_of_ble_eq_true rfl) ?_
  refine ev_aload_n dL_law_732 2 rfl ?_
  refine ev_mem (LR_self (lo := 75) (hi := 96)) ?_
  refine cl_V1 (As := []) (st := [vi v1]) miX12_needed (tX12_needed (sdR (N := (LR 0 75 μ μ1)) (by decide) (fun k hk => Kr_in2 (inR_w hk rfl rfl))) (CIn.w (lo := 75) (hi := 96) (fun k hk => hk) rfl rfl)  (LR 0 75 μ μ1) (o := (v2, μ2)) hf2) dL_law_733 lkL_102 inX12_needed rfl (by decide) rfl ⟨rfl, rfl⟩ ⟨⟨Nat.le_of_ble_eq_true rfl, Nat.le_of_ble_eq_true rfl⟩, hc.1, hc.2⟩ (Nat.le_of_ble_eq_true rfl) ?_
  refine ev_icmp_eq 1463 dL_law_736 (by decide) (fun _ => ?_) (fun h => absurd ho h)
  exact kk _ hG
def S_far (G : Mem → Prop)  (μ : Mem) : Prop := ∃ (v1 : Int) (μ1 : Mem), (fX11_far  μ = some (v1, μ1)) ∧ ∃ (v2 : Int) (μ2 : Mem), (fX12_far  (LR 0 75 μ μ1) = some (v2, μ2)) ∧ w32 v1 = w32 v2 ∧ G (LR 75 96 (LR 0 75 μ μ1) μ2)
theorem lc_far {G : Mem → Prop} (hs : S_far G  μ) (hi : i + 7 ≤ L) (hb : L ≤ 3584) (hc : cells ≤ 601024 ∧ slots ≤ 7293034) (kk : ∀ μ2, G μ2 → Ev l D cy g (Kr 0 97) (yl nm) cL_law 7 ret room_1 (QL b L xs g) cells slots 97 false μ2 1463 [(0, Value.ref b), (1, vr g 0), (2, vr g 75), (3, vr g 96), (4, vi (i : Int))] []) : Ev l D cy g (Kr 0 97) (yl nm) cL_law 7 ret room_1 (QL b L xs g) cells slots 97 false μ 741 [(0, Value.ref b), (1, vr g 0), (2, vr g 75), (3, vr g 96), (4, vi (i : Int))] [] := by
  refine ev_aload_n dL_law_741 1 rfl ?_
  obtain ⟨v1, μ1, hf1, v2, μ2, hf2, ho, hG⟩ := hs
  refine ev_mem (LR_self (lo := 0) (hi := 75)) ?_
  refine cl_V1 (As := []) (st := []) miX11_far (tX11_far (sdR (N := μ) (by decide) (fun k hk => Kr_in2 (inR_w hk rfl rfl))) (CIn.w (lo := 0) (hi := 75) (fun k hk => hk) rfl rfl)  μ (o := (v1, μ1)) hf1) dL_law_742 lkL_103 inX11_far rfl (by decide) rfl ⟨rfl, rfl⟩ ⟨⟨Nat.le_of_ble_eq_true rfl, Nat.le_of_ble_eq_true rfl⟩, hc.1, hc.2⟩ (Nat.le_of_ble_eq_true rfl) ?_
  refine ev_aload_n dL_law_745 2 rfl ?_
  refine ev_mem (LR_self (lo := 75) (hi := 96)) ?_
  refine cl_V1 (As := []) (st := [vi v1]) miX12_far (tX12_far (sdR (N := (LR 0 75 μ μ1)) (by decide) (fun k hk => Kr_in2 (inR_w hk rfl rfl))) (CIn.w (lo := 75) (hi := 96) (fun k hk => hk) rfl rfl)  (LR 0 75 μ μ1) (o := (v2, μ2)) hf2) dL_law_746 lkL_106 inX12_far rfl (by decide) rfl ⟨rfl, rfl⟩ ⟨⟨Nat.le_of_ble_eq_true rfl, Nat.le_of_ble_eq_true rfl⟩, hc.1, hc.2⟩ (Nat.le_of_ble_eq_true rfl) ?_
  refine ev_icmp_eq 1463 dL_law_749 (by decide) (fun _ => ?_) (fun h => absurd ho h)
  exact kk _ hG
def S_toward (G : Mem → Prop)  (μ : Mem) : Prop := ∃ (v1 : Int) (μ1 : Mem), (fX11_toward  μ = some (v1, μ1)) ∧ ∃ (v2 : Int) (μ2 : Mem), (fX12_toward  (LR 0 75 μ μ1) = some (v2, μ2)) ∧ w32 v1 = w32 v2 ∧ G (LR 75 96 (LR 0 75 μ μ1) μ2)
theorem lc_toward {G : Mem → Prop} (hs : S_toward G  μ) (hi : i + 7 ≤ L) (hb : L ≤ 3584) (hc : cells ≤ 601024 ∧ slots ≤ 7293034) (kk : ∀ μ2, G μ2 → Ev l D cy g (Kr 0 97) (yl nm) cL_law 7 ret room_1 (QL b L xs g) cells slots 97 false μ2 1463 [(0, Value.ref b), (1, vr g 0), (2, vr g 75), (3, vr g 96), (4, vi (i : Int))] []) : Ev l D cy g (Kr 0 97) (yl nm) cL_law 7 ret room_1 (QL b L xs g) cells slots 97 false μ 754 [(0, Value.ref b), (1, vr g 0), (2, vr g 75), (3, vr g 96), (4, vi (i : Int))] [] := by
  refine ev_aload_n dL_law_754 1 rfl ?_
  obtain ⟨v1, μ1, hf1, v2, μ2, hf2, ho, hG⟩ := hs
  refine ev_mem (LR_self (lo := 0) (hi := 75)) ?_
  refine cl_V1 (As := []) (st := []) miX11_toward (tX11_toward (sdR (N := μ) (by decide) (fun k hk => Kr_in2 (inR_w hk rfl rfl))) (CIn.w (lo := 0) (hi := 75) (fun k hk => hk) rfl rfl)  μ (o := (v1, μ1)) hf1) dL_law_755 lkL_107 inX11_toward rfl (by decide) rfl ⟨rfl, rfl⟩ ⟨⟨Nat.le_of_ble_eq_true rfl, Nat.le_of_ble_eq_true rfl⟩, hc.1, hc.2⟩ (Nat.le_of_ble_eq_true rfl) ?_
  refine ev_aload_n dL_law_758 2 rfl ?_
  refine ev_mem (LR_self (lo := 75) (hi := 96)) ?_
  refine cl_V1 (As := []) (st := [vi v1]) miX12_toward (tX12_toward (sdR (N := (LR 0 75 μ μ1)) (by decide) (fun k hk => Kr_in2 (inR_w hk rfl rfl))) (CIn.w (lo := 75) (hi := 96) (fun k hk => hk) rfl rfl)  (LR 0 75 μ μ1) (o := (v2, μ2)) hf2) dL_law_759 lkL_110 inX12_toward rfl (by decide) rfl ⟨rfl, rfl⟩ ⟨⟨Nat.le_of_ble_eq_true rfl, Nat.le_of_ble_eq_true rfl⟩, hc.1, hc.2⟩ (Nat.le_of_ble_eq_true rfl) ?_
  refine ev_icmp_eq 1463 dL_law_762 (by decide) (fun _ => ?_) (fun h => absurd ho h)
  exact kk _ hG
def S_never (G : Mem → Prop)  (μ : Mem) : Prop := ∃ (v1 : Int) (μ1 : Mem), (fX11_never  μ = some (v1, μ1)) ∧ ∃ (v2 : Int) (μ2 : Mem), (fX12_never  (LR 0 75 μ μ1) = some (v2, μ2)) ∧ w32 v1 = w32 v2 ∧ G (LR 75 96 (LR 0 75 μ μ1) μ2)
theorem lc_never {G : Mem → Prop} (hs : S_never G  μ) (hi : i + 7 ≤ L) (hb : L ≤ 3584) (hc : cells ≤ 601024 ∧ slots ≤ 7293034) (kk : ∀ μ2, G μ2 → Ev l D cy g (Kr 0 97) (yl nm) cL_law 7 ret room_1 (QL b L xs g) cells slots 97 false μ2 1463 [(0, Value.ref b), (1, vr g 0), (2, vr g 75), (3, vr g 96), (4, vi (i : Int))] []) : Ev l D cy g (Kr 0 97) (yl nm) cL_law 7 ret room_1 (QL b L xs g) cells slots 97 false μ 767 [(0, Value.ref b), (1, vr g 0), (2, vr g 75), (3, vr g 96), (4, vi (i : Int))] [] := by
  refine ev_aload_n dL_law_767 1 rfl ?_
  obtain ⟨v1, μ1, hf1, v2, μ2, hf2, ho, hG⟩ := hs
  refine ev_mem (LR_self (lo := 0) (hi := 75)) ?_
  refine cl_V1 (As := []) (st := []) miX11_never (tX11_never (sdR (N := μ) (by decide) (fun k hk => Kr_in2 (inR_w hk rfl rfl))) (CIn.w (lo := 0) (hi := 75) (fun k hk => hk) rfl rfl)  μ (o := (v1, μ1)) hf1) dL_law_768 lkL_111 inX11_never rfl (by decide) rfl ⟨rfl, rfl⟩ ⟨⟨Nat.le_of_ble_eq_true rfl, Nat.le_of_ble_eq_true rfl⟩, hc.1, hc.2⟩ (Nat.le_of_ble_eq_true rfl) ?_
  refine ev_aload_n dL_law_771 2 rfl ?_
  refine ev_mem (LR_self (lo := 75) (hi := 96)) ?_
  refine cl_V1 (As := []) (st := [vi v1]) miX12_never (tX12_never (sdR (N := (LR 0 75 μ μ1)) (by decide) (fun k hk => Kr_in2 (inR_w hk rfl rfl))) (CIn.w (lo := 75) (hi := 96) (fun k hk => hk) rfl rfl)  (LR 0 75 μ μ1) (o := (v2, μ2)) hf2) dL_law_772 lkL_114 inX12_never rfl (by decide) rfl ⟨rfl, rfl⟩ ⟨⟨Nat.le_of_ble_eq_true rfl, Nat.le_of_ble_eq_true rfl⟩, hc.1, hc.2⟩ (Nat.le_of_ble_eq_true rfl) ?_
  refine ev_icmp_eq 1463 dL_law_775 (by decide) (fun _ => ?_) (fun h => absurd ho h)
  exact kk _ hG
def S_hard (G : Mem → Prop) (a0 : Int) (μ : Mem) : Prop := Nz a0 → ∃ (v1 : Int) (μ1 : Mem), (fX11_hard a0 μ = some (v1, μ1)) ∧ ∃ (v2 : Int) (μ2 : Mem), (fX12_hard a0 (LR 0 75 μ μ1) = some (v2, μ2)) ∧ w32 v1 = w32 v2 ∧ G (LR 75 96 (LR 0 75 μ μ1) μ2)
theorem lc_hard {G : Mem → Prop} (hs : ∀ (a0 : Int), S_hard G a0 μ) (hi : i + 7 ≤ L) (hb : L ≤ 3584) (hc : cells ≤ 601024 ∧ slots ≤ 7293034) (kk : ∀ μ2, G μ2 → Ev l D cy g (Kr 0 97) (yl nm) cL_law 7 ret room_1 (QL b L xs g) cells slots 97 false μ2 1463 [(0, Value.ref b), (1, vr g 0), (2, vr g 75), (3, vr g 96), (4, vi (i : Int))] []) : Ev l D cy g (Kr 0 97) (yl nm) cL_law 7 ret room_1 (QL b L xs g) cells slots 97 false μ 780 [(0, Value.ref b), (1, vr g 0), (2, vr g 75), (3, vr g 96), (4, vi (i : Int))] [] := by
  refine ev_aload_n dL_law_780 1 rfl ?_
  refine ev_aload_n dL_law_781 0 rfl ?_
  refine ev_iload dL_law_782 4 rfl ?_
  refine ev_iconst dL_law_784 ?_
  refine ev_iadd dL_law_785 ?_
  refine ev_sld (i + 1) dL_law_786 (xi 1 (by omega) hb) (by omega) ?_
  obtain ⟨v1, μ1, hf1, v2, μ2, hf2, ho, hG⟩ := hs (XI xs (i + 1)) nzX
  refine ev_mem (LR_self (lo := 0) (hi := 75)) ?_
  refine cl_V1 (As := [vi (XI xs (i + 1))]) (st := []) miX11_hard (tX11_hard (sdR (N := μ) (by decide) (fun k hk => Kr_in2 (inR_w hk rfl rfl))) (CIn.w (lo := 0) (hi := 75) (fun k hk => hk) rfl rfl) (XI xs (i + 1)) μ (o := (v1, μ1)) hf1) dL_law_787 lkL_115 inX11_hard rfl (by decide) rfl ⟨rfl, rfl⟩ ⟨⟨Nat.le_of_ble_eq_true rfl, Nat.le_of_ble_eq_true rfl⟩, hc.1, hc.2⟩ (Nat.le_of_ble_eq_true rfl) ?_
  refine ev_aload_n dL_law_790 2 rfl ?_
  refine ev_aload_n dL_law_791 0 rfl ?_
  refine ev_iload dL_law_792 4 rfl ?_
  refine ev_iconst dL_law_794 ?_
  refine ev_iadd dL_law_795 ?_
  refine ev_sld (i + 1) dL_law_796 (xi 1 (by omega) hb) (by omega) ?_
  refine ev_mem (LR_self (lo := 75) (hi := 96)) ?_
  refine cl_V1 (As := [vi (XI xs (i + 1))]) (st := [vi v1]) miX12_hard (tX12_hard (sdR (N := (LR 0 75 μ μ1)) (by decide) (fun k hk => Kr_in2 (inR_w hk rfl rfl))) (CIn.w (lo := 75) (hi := 96) (fun k hk => hk) rfl rfl) (XI xs (i + 1)) (LR 0 75 μ μ1) (o := (v2, μ2)) hf2) dL_law_797 lkL_118 inX12_hard rfl (by decide) rfl ⟨rfl, rfl⟩ ⟨⟨Nat.le_of_ble_eq_true rfl, Nat.le_of_ble_eq_true rfl⟩, hc.1, hc.2⟩ (Nat.le_of_ble_eq_true rfl) ?_
  refine ev_icmp_eq 1463 dL_law_800 (by decide) (fun _ => ?_) (fun h => absurd ho h)
  exact kk _ hG
def S_spread (G : Mem → Prop) (a0 : Int) (μ : Mem) : Prop := Nz a0 → ∃ (v1 : Int) (μ1 : Mem), (fX11_spread a0 μ = some (v1, μ1)) ∧ ∃ (v2 : Int) (μ2 : Mem), (fX12_spread a0 (LR 0 75 μ μ1) = some (v2, μ2)) ∧ w32 v1 = w32 v2 ∧ G (LR 75 96 (LR 0 75 μ μ1) μ2)
theorem lc_spread {G : Mem → Prop} (hs : ∀ (a0 : Int), S_spread G a0 μ) (hi : i + 7 ≤ L) (hb : L ≤ 3584) (hc : cells ≤ 601024 ∧ slots ≤ 7293034) (kk : ∀ μ2, G μ2 → Ev l D cy g (Kr 0 97) (yl nm) cL_law 7 ret room_1 (QL b L xs g) cells slots 97 false μ2 1463 [(0, Value.ref b), (1, vr g 0), (2, vr g 75), (3, vr g 96), (4, vi (i : Int))] []) : Ev l D cy g (Kr 0 97) (yl nm) cL_law 7 ret room_1 (QL b L xs g) cells slots 97 false μ 805 [(0, Value.ref b), (1, vr g 0), (2, vr g 75), (3, vr g 96), (4, vi (i : Int))] [] := by
  refine ev_aload_n dL_law_805 1 rfl ?_
  refine ev_aload_n dL_law_806 0 rfl ?_
  refine ev_iload dL_law_807 4 rfl ?_
  refine ev_iconst dL_law_809 ?_
  refine ev_iadd dL_law_810 ?_
  refine ev_sld (i + 1) dL_law_811 (xi 1 (by omega) hb) (by omega) ?_
  obtain ⟨v1, μ1, hf1, v2, μ2, hf2, ho, hG⟩ := hs (XI xs (i + 1)) nzX
  refine ev_mem (LR_self (lo := 0) (hi := 75)) ?_
  refine cl_V1 (As := [vi (XI xs (i + 1))]) (st := []) miX11_spread (tX11_spread (sdR (N := μ) (by decide) (fun k hk => Kr_in2 (inR_w hk rfl rfl))) (CIn.w (lo := 0) (hi := 75) (fun k hk => hk) rfl rfl) (XI xs (i + 1)) μ (o := (v1, μ1)) hf1) dL_law_812 lkL_119 inX11_spread rfl (by decide) rfl ⟨rfl, rfl⟩ ⟨⟨Nat.le_of_ble_eq_true rfl, Nat.le_of_ble_eq_true rfl⟩, hc.1, hc.2⟩ (Nat.le_of_ble_eq_true rfl) ?_
  refine ev_aload_n dL_law_815 2 rfl ?_
  refine ev_aload_n dL_law_816 0 rfl ?_
  refine ev_iload dL_law_817 4 rfl ?_
  refine ev_iconst dL_law_819 ?_
  refine ev_iadd dL_law_820 ?_
  refine ev_sld (i + 1) dL_law_821 (xi 1 (by omega) hb) (by omega) ?_
  refine ev_mem (LR_self (lo := 75) (hi := 96)) ?_
  refine cl_V1 (As := [vi (XI xs (i + 1))]) (st := [vi v1]) miX12_spread (tX12_spread (sdR (N := (LR 0 75 μ μ1)) (by decide) (fun k hk => Kr_in2 (inR_w hk rfl rfl))) (CIn.w (lo := 75) (hi := 96) (fun k hk => hk) rfl rfl) (XI xs (i + 1)) (LR 0 75 μ μ1) (o := (v2, μ2)) hf2) dL_law_822 lkL_122 inX12_spread rfl (by decide) rfl ⟨rfl, rfl⟩ ⟨⟨Nat.le_of_ble_eq_true rfl, Nat.le_of_ble_eq_true rfl⟩, hc.1, hc.2⟩ (Nat.le_of_ble_eq_true rfl) ?_
  refine ev_icmp_eq 1463 dL_law_825 (by decide) (fun _ => ?_) (fun h => absurd ho h)
  exact kk _ hG
def S_dear (G : Mem → Prop)  (μ : Mem) : Prop := ∃ (v1 : Int) (μ1 : Mem), (fX11_dear  μ = some (v1, μ1)) ∧ ∃ (v2 : Int) (μ2 : Mem), (fX12_dear  (LR 0 75 μ μ1) = some (v2, μ2)) ∧ w32 v1 = w32 v2 ∧ G (LR 75 96 (LR 0 75 μ μ1) μ2)
theorem lc_dear {G : Mem → Prop} (hs : S_dear G  μ) (hi : i + 7 ≤ L) (hb : L ≤ 3584) (hc : cells ≤ 601024 ∧ slots ≤ 7293034) (kk : ∀ μ2, G μ2 → Ev l D cy g (Kr 0 97) (yl nm) cL_law 7 ret room_1 (QL b L xs g) cells slots 97 false μ2 1463 [(0, Value.ref b), (1, vr g 0), (2, vr g 75), (3, vr g 96), (4, vi (i : Int))] []) : Ev l D cy g (Kr 0 97) (yl nm) cL_law 7 ret room_1 (QL b L xs g) cells slots 97 false μ 830 [(0, Value.ref b), (1, vr g 0), (2, vr g 75), (3, vr g 96), (4, vi (i : Int))] [] := by
  refine ev_aload_n dL_law_830 1 rfl ?_
  obtain ⟨v1, μ1, hf1, v2, μ2, hf2, ho, hG⟩ := hs
  refine ev_mem (LR_self (lo := 0) (hi := 75)) ?_
  refine cl_V1 (As := []) (st := []) miX11_dear (tX11_dear (sdR (N := μ) (by decide) (fun k hk => Kr_in2 (inR_w hk rfl rfl))) (CIn.w (lo := 0) (hi := 75) (fun k hk => hk) rfl rfl)  μ (o := (v1, μ1)) hf1) dL_law_831 lkL_123 inX11_dear rfl (by decide) rfl ⟨rfl, rfl⟩ ⟨⟨Nat.le_of_ble_eq_true rfl, Nat.le_of_ble_eq_true rfl⟩, hc.1, hc.2⟩ (Nat.le_of_ble_eq_true rfl) ?_
  refine ev_aload_n dL_law_834 2 rfl ?_
  refine ev_mem (LR_self (lo := 75) (hi := 96)) ?_
  refine cl_V1 (As := []) (st := [vi v1]) miX12_dear (tX12_dear (sdR (N := (LR 0 75 μ μ1)) (by decide) (fun k hk => Kr_in2 (inR_w hk rfl rfl))) (CIn.w (lo := 75) (hi := 96) (fun k hk => hk) rfl rfl)  (LR 0 75 μ μ1) (o := (v2, μ2)) hf2) dL_law_835 lkL_126 inX12_dear rfl (by decide) rfl ⟨rfl, rfl⟩ ⟨⟨Nat.le_of_ble_eq_true rfl, Nat.le_of_ble_eq_true rfl⟩, hc.1, hc.2⟩ (Nat.le_of_ble_eq_true rfl) ?_
  refine ev_icmp_eq 1463 dL_law_838 (by decide) (fun _ => ?_) (fun h => absurd ho h)
  exact kk _ hG
def S_rim (G : Mem → Prop)  (μ : Mem) : Prop := ∃ (v1 : Int) (μ1 : Mem), (fX11_rim  μ = some (v1, μ1)) ∧ ∃ (v2 : Int) (μ2 : Mem), (fX12_rim  (LR 0 75 μ μ1) = some (v2, μ2)) ∧ w32 v1 = w32 v2 ∧ G (LR 75 96 (LR 0 75 μ μ1) μ2)
theorem lc_rim {G : Mem → Prop} (hs : S_rim G  μ) (hi : i + 7 ≤ L) (hb : L ≤ 3584) (hc : cells ≤ 601024 ∧ slots ≤ 7293034) (kk : ∀ μ2, G μ2 → Ev l D cy g (Kr 0 97) (yl nm) cL_law 7 ret room_1 (QL b L xs g) cells slots 97 false μ2 1463 [(0, Value.ref b), (1, vr g 0), (2, vr g 75), (3, vr g 96), (4, vi (i : Int))] []) : Ev l D cy g (Kr 0 97) (yl nm) cL_law 7 ret room_1 (QL b L xs g) cells slots 97 false μ 843 [(0, Value.ref b), (1, vr g 0), (2, vr g 75), (3, vr g 96), (4, vi (i : Int))] [] := by
  refine ev_aload_n dL_law_843 1 rfl ?_
  obtain ⟨v1, μ1, hf1, v2, μ2, hf2, ho, hG⟩ := hs
  refine ev_mem (LR_self (lo := 0) (hi := 75)) ?_
  refine cl_V1 (As := []) (st := []) miX11_rim (tX11_rim (sdR (N := μ) (by decide) (fun k hk => Kr_in2 (inR_w hk rfl rfl))) (CIn.w (lo := 0) (hi := 75) (fun k hk => hk) rfl rfl)  μ (o := (v1, μ1)) hf1) dL_law_844 lkL_127 inX11_rim rfl (by decide) rfl ⟨rfl, rfl⟩ ⟨⟨Nat.le_of_ble_eq_true rfl, Nat.le_of_ble_eq_true rfl⟩, hc.1, hc.2⟩ (Nat.le_of_ble_eq_true rfl) ?_
  refine ev_aload_n dL_law_847 2 rfl ?_
  refine ev_mem (LR_self (lo := 75) (hi := 96)) ?_
  refine cl_V1 (As := []) (st := [vi v1]) miX12_rim (tX12_rim (sdR (N := (LR 0 75 μ μ1)) (by decide) (fun k hk => Kr_in2 (inR_w hk rfl rfl))) (CIn.w (lo := 75) (hi := 96) (fun k hk => hk) rfl rfl)  (LR 0 75 μ μ1) (o := (v2, μ2)) hf2) dL_law_848 lkL_130 inX12_rim rfl (by decide) rfl ⟨rfl, rfl⟩ ⟨⟨Nat.le_of_ble_eq_true rfl, Nat.le_of_ble_eq_true rfl⟩, hc.1, hc.2⟩ (Nat.le_of_ble_eq_true rfl) ?_
  refine ev_icmp_eq 1463 dL_law_851 (by decide) (fun _ => ?_) (fun h => absurd ho h)
  exact kk _ hG
def S_nth (G : Mem → Prop)  (μ : Mem) : Prop := ∃ (v1 : Int) (μ1 : Mem), (fX11_nth  μ = some v1 ∧ μ = μ1) ∧ ∃ (v2 : Int) (μ2 : Mem), (fX12_nth  (LR 0 75 μ μ1) = (v2, μ2)) ∧ w32 v1 = w32 v2 ∧ G (LR 75 96 (LR 0 75 μ μ1) μ2)
theorem lc_nth {G : Mem → Prop} (hs : S_nth G  μ) (hi : i + 7 ≤ L) (hb : L ≤ 3584) (hc : cells ≤ 601024 ∧ slots ≤ 7293034) (kk : ∀ μ2, G μ2 → Ev l D cy g (Kr 0 97) (yl nm) cL_law 7 ret room_1 (QL b L xs g) cells slots 97 false μ2 1463 [(0, Value.ref b), (1, vr g 0), (2, vr g 75), (3, vr g 96), (4, vi (i : Int))] []) : Ev l D cy g (Kr 0 97) (yl nm) cL_law 7 ret room_1 (QL b L xs g) cells slots 97 false μ 856 [(0, Value.ref b), (1, vr g 0), (2, vr g 75), (3, vr g 96), (4, vi (i : Int))] [] := by
  refine ev_aload_n dL_law_856 1 rfl ?_
  obtain ⟨v1, μ1, hf1, v2, μ2, hf2, ho, hG⟩ := hs
  obtain ⟨hf1, rfl⟩ := hf1
  refine ev_mem (LR_self (lo := 0) (hi := 75)) ?_
  refine cl_V1 (As := []) (st := []) miX11_nth (tX11_nth (sdR (N := μ) (by decide) (fun k hk => Kr_in2 (inR_w hk rfl rfl))) (CIn.w (lo := 0) (hi := 75) (fun k hk => hk) rfl rfl)  μ (o := v1) hf1) dL_law_857 lkL_131 inX11_nth rfl (by decide) rfl ⟨rfl, rfl⟩ ⟨⟨Nat.le_of_ble_eq_true rfl, Nat.le_of_ble_eq_true rfl⟩, hc.1, hc.2⟩ (Nat.le_of_ble_eq_true rfl) ?_
  refine ev_aload_n dL_law_860 2 rfl ?_
  refine ev_mem (LR_self (lo := 75) (hi := 96)) ?_
  refine cl_V1 (As := []) (st := [vi v1]) miX12_nth (tX12_nth (sdR (N := (LR 0 75 μ μ)) (by decide) (fun k hk => Kr_in2 (inR_w hk rfl rfl))) (CIn.w (lo := 75) (hi := 96) (fun k hk => hk) rfl rfl)  (LR 0 75 μ μ) (o := (v2, μ2)) hf2) dL_law_861 lkL_134 inX12_nth rfl (by decide) rfl ⟨rfl, rfl⟩ ⟨⟨Nat.le_of_ble_eq_true rfl, Nat.le_of_ble_eq_true rfl⟩, hc.1, hc.2⟩ (Nat.le_of_ble_eq_true rfl) ?_
  refine ev_icmp_eq 1463 dL_law_864 (by decide) (fun _ => ?_) (fun h => absurd ho h)
  exact kk _ hG
def S_ring (G : Mem → Prop) (a0 : Int) (a1 : Int) (μ : Mem) : Prop := Nz a0 → Nz a1 → ∃ (v1 : Int) (μ1 : Mem), (fX11_ring a0 a1 μ = some v1 ∧ μ = μ1) ∧ ∃ (v2 : Int) (μ2 : Mem), (fX12_ring a0 a1 (LR 0 75 μ μ1) = some (v2, μ2)) ∧ w32 v1 = w32 v2 ∧ G (LR 75 96 (LR 0 75 μ μ1) μ2)
theorem lc_ring {G : Mem → Prop} (hs : ∀ (a0 : Int) (a1 : Int), S_ring G a0 a1 μ) (hi : i + 7 ≤ L) (hb : L ≤ 3584) (hc : cells ≤ 601024 ∧ slots ≤ 7293034) (kk : ∀ μ2, G μ2 → Ev l D cy g (Kr 0 97) (yl nm) cL_law 7 ret room_1 (QL b L xs g) cells slots 97 false μ2 1463 [(0, Value.ref b), (1, vr g 0), (2, vr g 75), (3, vr g 96), (4, vi (i : Int))] []) : Ev l D cy g (Kr 0 97) (yl nm) cL_law 7 ret room_1 (QL b L xs g) cells slots 97 false μ 869 [(0, Value.ref b), (1, vr g 0), (2, vr g 75), (3, vr g 96), (4, vi (i : Int))] [] := by
  refine ev_aload_n dL_law_869 1 rfl ?_
  refine ev_aload_n dL_law_870 0 rfl ?_
  refine ev_iload dL_law_871 4 rfl ?_
  refine ev_iconst dL_law_873 ?_
  refine ev_iadd dL_law_874 ?_
  refine ev_sld (i + 1) dL_law_875 (xi 1 (by omega) hb) (by omega) ?_
  refine ev_aload_n dL_law_876 0 rfl ?_
  refine ev_iload dL_law_877 4 rfl ?_
  refine ev_iconst dL_law_879 ?_
  refine ev_iadd dL_law_880 ?_
  refine ev_sld (i + 2) dL_law_881 (xi 2 (by omega) hb) (by omega) ?_
  obtain ⟨v1, μ1, hf1, v2, μ2, hf2, ho, hG⟩ := hs (XI xs (i + 1)) (XI xs (i + 2)) nzX nzX
  obtain ⟨hf1, rfl⟩ := hf1
  refine ev_mem (LR_self (lo := 0) (hi := 75)) ?_
  refine cl_V1 (As := [vi (XI xs (i + 1)), vi (XI xs (i + 2))]) (st := []) miX11_ring (tX11_ring (sdR (N := μ) (by decide) (fun k hk => Kr_in2 (inR_w hk rfl rfl))) (CIn.w (lo := 0) (hi := 75) (fun k hk => hk) rfl rfl) (XI xs (i + 1)) (XI xs (i + 2)) μ (o := v1) hf1) dL_law_882 lkL_135 inX11_ring rfl (by decide) rfl ⟨rfl, rfl⟩ ⟨⟨Nat.le_of_ble_eq_true rfl, Nat.le_of_ble_eq_true rfl⟩, hc.1, hc.2⟩ (Nat.le_of_ble_eq_true rfl) ?_
  refine ev_aload_n dL_law_885 2 rfl ?_
  refine ev_aload_n dL_law_886 0 rfl ?_
  refine ev_iload dL_law_887 4 rfl ?_
  refine ev_iconst dL_law_889 ?_
  refine ev_iadd dL_law_890 ?_
  refine ev_sld (i + 1) dL_law_891 (xi 1 (by omega) hb) (by omega) ?_
  refine ev_aload_n dL_law_892 0 rfl ?_
  refine ev_iload dL_law_893 4 rfl ?_
  refine ev_iconst dL_law_895 ?_
  refine ev_iadd dL_law_896 ?_
  refine ev_sld (i + 2) dL_law_897 (xi 2 (by omega) hb) (by omega) ?_
  refine ev_mem (LR_self (lo := 75) (hi := 96)) ?_
  refine cl_V1 (As := [vi (XI xs (i + 1)), vi (XI xs (i + 2))]) (st := [vi v1]) miX12_ring (tX12_ring (sdR (N := (LR 0 75 μ μ)) (by decide) (fun k hk => Kr_in2 (inR_w hk rfl rfl))) (CIn.w (lo := 75) (hi := 96) (fun k hk => hk) rfl rfl) (XI xs (i + 1)) (XI xs (i + 2)) (LR 0 75 μ μ) (o := (v2, μ2)) hf2) dL_law_898 lkL_138 inX12_ring rfl (by decide) rfl ⟨rfl, rfl⟩ ⟨⟨Nat.le_of_ble_eq_true rfl, Nat.le_of_ble_eq_true rfl⟩, hc.1, hc.2⟩ (Nat.le_of_ble_eq_true rfl) ?_
  refine ev_icmp_eq 1463 dL_law_901 (by decide) (fun _ => ?_) (fun h => absurd ho h)
  exact kk _ hG
def S_pairs (G : Mem → Prop)  (μ : Mem) : Prop := ∃ (v1 : Int) (μ1 : Mem), (fX11_pairs  μ = some v1 ∧ μ = μ1) ∧ ∃ (v2 : Int) (μ2 : Mem), (fX12_pairs  (LR 0 75 μ μ1) = some (v2, μ2)) ∧ w32 v1 = w32 v2 ∧ G (LR 75 96 (LR 0 75 μ μ1) μ2)
theorem lc_pairs {G : Mem → Prop} (hs : S_pairs G  μ) (hi : i + 7 ≤ L) (hb : L ≤ 3584) (hc : cells ≤ 601024 ∧ slots ≤ 7293034) (kk : ∀ μ2, G μ2 → Ev l D cy g (Kr 0 97) (yl nm) cL_law 7 ret room_1 (QL b L xs g) cells slots 97 false μ2 1463 [(0, Value.ref b), (1, vr g 0), (2, vr g 75), (3, vr g 96), (4, vi (i : Int))] []) : Ev l D cy g (Kr 0 97) (yl nm) cL_law 7 ret room_1 (QL b L xs g) cells slots 97 false μ 906 [(0, Value.ref b), (1, vr g 0), (2, vr g 75), (3, vr g 96), (4, vi (i : Int))] [] := by
  refine ev_aload_n dL_law_906 1 rfl ?_
  obtain ⟨v1, μ1, hf1, v2, μ2, hf2, ho, hG⟩ := hs
  obtain ⟨hf1, rfl⟩ := hf1
  refine ev_mem (LR_self (lo := 0) (hi := 75)) ?_
  refine cl_V1 (As := []) (st := []) miX11_pairs (tX11_pairs (sdR (N := μ) (by decide) (fun k hk => Kr_in2 (inR_w hk rfl rfl))) (CIn.w (lo := 0) (hi := 75) (fun k hk => hk) rfl rfl)  μ (o := v1) hf1) dL_law_907 lkL_139 inX11_pairs rfl (by decide) rfl ⟨rfl, rfl⟩ ⟨⟨Nat.le_of_ble_eq_true rfl, Nat.le_of_ble_eq_true rfl⟩, hc.1, hc.2⟩ (Nat.le_of_ble_eq_true rfl) ?_
  refine ev_aload_n dL_law_910 2 rfl ?_
  refine ev_mem (LR_self (lo := 75) (hi := 96)) ?_
  refine cl_V1 (As := []) (st := [vi v1]) miX12_pairs (tX12_pairs (sdR (N := (LR 0 75 μ μ)) (by decide) (fun k hk => Kr_in2 (inR_w hk rfl rfl))) (CIn.w (lo := 75) (hi := 96) (fun k hk => hk) rfl rfl)  (LR 0 75 μ μ) (o := (v2, μ2)) hf2) dL_law_911 lkL_142 inX12_pairs rfl (by decide) rfl ⟨rfl, rfl⟩ ⟨⟨Nat.le_of_ble_eq_true rfl, Nat.le_of_ble_eq_true rfl⟩, hc.1, hc.2⟩ (Nat.le_of_ble_eq_true rfl) ?_
  refine ev_icmp_eq 1463 dL_law_914 (by decide) (fun _ => ?_) (fun h => absurd ho h)
  exact kk _ hG
def S_reached (G : Mem → Prop) (a0 : Int) (μ : Mem) : Prop := Nz a0 → ∃ (v1 : Int) (μ1 : Mem), (fX11_reached a0 μ = some (v1, μ1)) ∧ ∃ (v2 : Int) (μ2 : Mem), (fX12_reached a0 (LR 0 75 μ μ1) = some (v2, μ2)) ∧ w32 v1 = w32 v2 ∧ G (LR 75 96 (LR 0 75 μ μ1) μ2)
theorem lc_reached {G : Mem → Prop} (hs : ∀ (a0 : Int), S_reached G a0 μ) (hi : i + 7 ≤ L) (hb : L ≤ 3584) (hc : cells ≤ 601024 ∧ slots ≤ 7293034) (kk : ∀ μ2, G μ2 → Ev l D cy g (Kr 0 97) (yl nm) cL_law 7 ret room_1 (QL b L xs g) cells slots 97 false μ2 1463 [(0, Value.ref b), (1, vr g 0), (2, vr g 75), (3, vr g 96), (4, vi (i : Int))] []) : Ev l D cy g (Kr 0 97) (yl nm) cL_law 7 ret room_1 (QL b L xs g) cells slots 97 false μ 919 [(0, Value.ref b), (1, vr g 0), (2, vr g 75), (3, vr g 96), (4, vi (i : Int))] [] := by
  refine ev_aload_n dL_law_919 1 rfl ?_
  refine ev_aload_n dL_law_920 0 rfl ?_
  refine ev_iload dL_law_921 4 rfl ?_
  refine ev_iconst dL_law_923 ?_
  refine ev_iadd dL_law_924 ?_
  refine ev_sld (i + 1) dL_law_925 (xi 1 (by omega) hb) (by omega) ?_
  obtain ⟨v1, μ1, hf1, v2, μ2, hf2, ho, hG⟩ := hs (XI xs (i + 1)) nzX
  refine ev_mem (LR_self (lo := 0) (hi := 75)) ?_
  refine cl_V1 (As := [vi (XI xs (i + 1))]) (st := []) miX11_reached (tX11_reached (sdR (N := μ) (by decide) (fun k hk => Kr_in2 (inR_w hk rfl rfl))) (CIn.w (lo := 0) (hi := 75) (fun k hk => hk) rfl rfl) (XI xs (i + 1)) μ (o := (v1, μ1)) hf1) dL_law_926 lkL_143 inX11_reached rfl (by decide) rfl ⟨rfl, rfl⟩ ⟨⟨Nat.le_of_ble_eq_true rfl, Nat.le_of_ble_eq_true rfl⟩, hc.1, hc.2⟩ (Nat.le_of_ble_eq_true rfl) ?_
  refine ev_aload_n dL_law_929 2 rfl ?_
  refine ev_aload_n dL_law_930 0 rfl ?_
  refine ev_iload dL_law_931 4 rfl ?_
  refine ev_iconst dL_law_933 ?_
  refine ev_iadd dL_law_934 ?_
  refine ev_sld (i + 1) dL_law_935 (xi 1 (by omega) hb) (by omega) ?_
  refine ev_mem (LR_self (lo := 75) (hi := 96)) ?_
  refine cl_V1 (As := [vi (XI xs (i + 1))]) (st := [vi v1]) miX12_reached (tX12_reached (sdR (N := (LR 0 75 μ μ1)) (by decide) (fun k hk => Kr_in2 (inR_w hk rfl rfl))) (CIn.w (lo := 75) (hi := 96) (fun k hk => hk) rfl rfl) (XI xs (i + 1)) (LR 0 75 μ μ1) (o := (v2, μ2)) hf2) dL_law_936 lkL_146 inX12_reached rfl (by decide) rfl ⟨rfl, rfl⟩ ⟨⟨Nat.le_of_ble_eq_true rfl, Nat.le_of_ble_eq_true rfl⟩, hc.1, hc.2⟩ (Nat.le_of_ble_eq_true rfl) ?_
  refine ev_icmp_eq 1463 dL_law_939 (by decide) (fun _ => ?_) (fun h => absurd ho h)
  exact kk _ hG
def S_gaps (G : Mem → Prop)  (μ : Mem) : Prop := ∃ (v1 : Int) (μ1 : Mem), (fX11_gaps  μ = some v1 ∧ μ = μ1) ∧ ∃ (v2 : Int) (μ2 : Mem), (fX12_gaps  (LR 0 75 μ μ1) = some (v2, μ2)) ∧ w32 v1 = w32 v2 ∧ G (LR 75 96 (LR 0 75 μ μ1) μ2)
theorem lc_gaps {G : Mem → Prop} (hs : S_gaps G  μ) (hi : i + 7 ≤ L) (hb : L ≤ 3584) (hc : cells ≤ 601024 ∧ slots ≤ 7293034) (kk : ∀ μ2, G μ2 → Ev l D cy g (Kr 0 97) (yl nm) cL_law 7 ret room_1 (QL b L xs g) cells slots 97 false μ2 1463 [(0, Value.ref b), (1, vr g 0), (2, vr g 75), (3, vr g 96), (4, vi (i : Int))] []) : Ev l D cy g (Kr 0 97) (yl nm) cL_law 7 ret room_1 (QL b L xs g) cells slots 97 false μ 944 [(0, Value.ref b), (1, vr g 0), (2, vr g 75), (3, vr g 96), (4, vi (i : Int))] [] := by
  refine ev_aload_n dL_law_944 1 rfl ?_
  obtain ⟨v1, μ1, hf1, v2, μ2, hf2, ho, hG⟩ := hs
  obtain ⟨hf1, rfl⟩ := hf1
  refine ev_mem (LR_self (lo := 0) (hi := 75)) ?_
  refine cl_V1 (As := []) (st := []) miX11_gaps (tX11_gaps (sdR (N := μ) (by decide) (fun k hk => Kr_in2 (inR_w hk rfl rfl))) (CIn.w (lo := 0) (hi := 75) (fun k hk => hk) rfl rfl)  μ (o := v1) hf1) dL_law_945 lkL_147 inX11_gaps rfl (by decide) rfl ⟨rfl, rfl⟩ ⟨⟨Nat.le_of_ble_eq_true rfl, Nat.le_of_ble_eq_true rfl⟩, hc.1, hc.2⟩ (Nat.le_of_ble_eq_true rfl) ?_
  refine ev_aload_n dL_law_948 2 rfl ?_
  refine ev_mem (LR_self (lo := 75) (hi := 96)) ?_
  refine cl_V1 (As := []) (st := [vi v1]) miX12_gaps (tX12_gaps (sdR (N := (LR 0 75 μ μ)) (by decide) (fun k hk => Kr_in2 (inR_w hk rfl rfl))) (CIn.w (lo := 75) (hi := 96) (fun k hk => hk) rfl rfl)  (LR 0 75 μ μ) (o := (v2, μ2)) hf2) dL_law_949 lkL_150 inX12_gaps rfl (by decide) rfl ⟨rfl, rfl⟩ ⟨⟨Nat.le_of_ble_eq_true rfl, Nat.le_of_ble_eq_true rfl⟩, hc.1, hc.2⟩ (Nat.le_of_ble_eq_true rfl) ?_
  refine ev_icmp_eq 1463 dL_law_952 (by decide) (fun _ => ?_) (fun h => absurd ho h)
  exact kk _ hG
def S_sharp (G : Mem → Prop)  (μ : Mem) : Prop := ∃ (v1 : Bool) (μ1 : Mem), (fX11_sharp  μ = some (v1, μ1)) ∧ ∃ (v2 : Bool) (μ2 : Mem), (fX12_sharp  (LR 0 75 μ μ1) = some (v2, μ2)) ∧ v1 = v2 ∧ G (LR 75 96 (LR 0 75 μ μ1) μ2)
theorem lc_sharp {G : Mem → Prop} (hs : S_sharp G  μ) (hi : i + 7 ≤ L) (hb : L ≤ 3584) (hc : cells ≤ 601024 ∧ slots ≤ 7293034) (kk : ∀ μ2, G μ2 → Ev l D cy g (Kr 0 97) (yl nm) cL_law 7 ret room_1 (QL b L xs g) cells slots 97 false μ2 1463 [(0, Value.ref b), (1, vr g 0), (2, vr g 75), (3, vr g 96), (4, vi (i : Int))] []) : Ev l D cy g (Kr 0 97) (yl nm) cL_law 7 ret room_1 (QL b L xs g) cells slots 97 false μ 957 [(0, Value.ref b), (1, vr g 0), (2, vr g 75), (3, vr g 96), (4, vi (i : Int))] [] := by
  refine ev_aload_n dL_law_957 1 rfl ?_
  obtain ⟨v1, μ1, hf1, v2, μ2, hf2, ho, hG⟩ := hs
  refine ev_mem (LR_self (lo := 0) (hi := 75)) ?_
  refine cl_V1 (As := []) (st := []) miX11_sharp (tX11_sharp (sdR (N := μ) (by decide) (fun k hk => Kr_in2 (inR_w hk rfl rfl))) (CIn.w (lo := 0) (hi := 75) (fun k hk => hk) rfl rfl)  μ (o := (v1, μ1)) hf1) dL_law_958 lkL_151 inX11_sharp rfl (by decide) rfl ⟨rfl, rfl⟩ ⟨⟨Nat.le_of_ble_eq_true rfl, Nat.le_of_ble_eq_true rfl⟩, hc.1, hc.2⟩ (Nat.le_of_ble_eq_true rfl) ?_
  refine ev_aload_n dL_law_961 2 rfl ?_
  refine ev_mem (LR_self (lo := 75) (hi := 96)) ?_
  refine cl_V1 (As := []) (st := [vb v1]) miX12_sharp (tX12_sharp (sdR (N := (LR 0 75 μ μ1)) (by decide) (fun k hk => Kr_in2 (inR_w hk rfl rfl))) (CIn.w (lo := 75) (hi := 96) (fun k hk => hk) rfl rfl)  (LR 0 75 μ μ1) (o := (v2, μ2)) hf2) dL_law_962 lkL_154 inX12_sharp rfl (by decide) rfl ⟨rfl, rfl⟩ ⟨⟨Nat.le_of_ble_eq_true rfl, Nat.le_of_ble_eq_true rfl⟩, hc.1, hc.2⟩ (Nat.le_of_ble_eq_true rfl) ?_
  refine ev_icmp_eq 1463 dL_law_965 (by decide) (fun _ => ?_) (fun h => absurd (by rw [ho]) h)
  exact kk _ hG
def S_again (G : Mem → Prop)  (μ : Mem) : Prop := ∃ (v1 : Int) (μ1 : Mem), (fX11_again  μ = some v1 ∧ μ = μ1) ∧ ∃ (v2 : Int) (μ2 : Mem), (fX12_again  (LR 0 75 μ μ1) = some (v2, μ2)) ∧ w32 v1 = w32 v2 ∧ G (LR 75 96 (LR 0 75 μ μ1) μ2)
theorem lc_again {G : Mem → Prop} (hs : S_again G  μ) (hi : i + 7 ≤ L) (hb : L ≤ 3584) (hc : cells ≤ 601024 ∧ slots ≤ 7293034) (kk : ∀ μ2, G μ2 → Ev l D cy g (Kr 0 97) (yl nm) cL_law 7 ret room_1 (QL b L xs g) cells slots 97 false μ2 1463 [(0, Value.ref b), (1, vr g 0), (2, vr g 75), (3, vr g 96), (4, vi (i : Int))] []) : Ev l D cy g (Kr 0 97) (yl nm) cL_law 7 ret room_1 (QL b L xs g) cells slots 97 false μ 970 [(0, Value.ref b), (1, vr g 0), (2, vr g 75), (3, vr g 96), (4, vi (i : Int))] [] := by
  refine ev_aload_n dL_law_970 1 rfl ?_
  obtain ⟨v1, μ1, hf1, v2, μ2, hf2, ho, hG⟩ := hs
  obtain ⟨hf1, rfl⟩ := hf1
  refine ev_mem (LR_self (lo := 0) (hi := 75)) ?_
  refine cl_V1 (As := []) (st := []) miX11_again (tX11_again (sdR (N := μ) (by decide) (fun k hk => Kr_in2 (inR_w hk rfl rfl))) (CIn.w (lo := 0) (hi := 75) (fun k hk => hk) rfl rfl)  μ (o := v1) hf1) dL_law_971 lkL_155 inX11_again rfl (by decide) rfl ⟨rfl, rfl⟩ ⟨⟨Nat.le_of_ble_eq_true rfl, Nat.le_of_ble_eq_true rfl⟩, hc.1, hc.2⟩ (Nat.le_of_ble_eq_true rfl) ?_
  refine ev_aload_n dL_law_974 2 rfl ?_
  refine ev_mem (LR_self (lo := 75) (hi := 96)) ?_
  refine cl_V1 (As := []) (st := [vi v1]) miX12_again (tX12_again (sdR (N := (LR 0 75 μ μ)) (by decide) (fun k hk => Kr_in2 (inR_w hk rfl rfl))) (CIn.w (lo := 75) (hi := 96) (fun k hk => hk) rfl rfl)  (LR 0 75 μ μ) (o := (v2, μ2)) hf2) dL_law_975 lkL_158 inX12_again rfl (by decide) rfl ⟨rfl, rfl⟩ ⟨⟨Nat.le_of_ble_eq_true rfl, Nat.le_of_ble_eq_true rfl⟩, hc.1, hc.2⟩ (Nat.le_of_ble_eq_true rfl) ?_
  refine ev_icmp_eq 1463 dL_law_978 (by decide) (fun _ => ?_) (fun h => absurd ho h)
  exact kk _ hG
def S_spare (G : Mem → Prop)  (μ : Mem) : Prop := ∃ (v1 : Int) (μ1 : Mem), (fX11_spare  μ = some (v1, μ1)) ∧ ∃ (v2 : Int) (μ2 : Mem), (fX12_spare  (LR 0 75 μ μ1) = some (v2, μ2)) ∧ w32 v1 = w32 v2 ∧ G (LR 75 96 (LR 0 75 μ μ1) μ2)
theorem lc_spare {G : Mem → Prop} (hs : S_spare G  μ) (hi : i + 7 ≤ L) (hb : L ≤ 3584) (hc : cells ≤ 601024 ∧ slots ≤ 7293034) (kk : ∀ μ2, G μ2 → Ev l D cy g (Kr 0 97) (yl nm) cL_law 7 ret room_1 (QL b L xs g) cells slots 97 false μ2 1463 [(0, Value.ref b), (1, vr g 0), (2, vr g 75), (3, vr g 96), (4, vi (i : Int))] []) : Ev l D cy g (Kr 0 97) (yl nm) cL_law 7 ret room_1 (QL b L xs g) cells slots 97 false μ 983 [(0, Value.ref b), (1, vr g 0), (2, vr g 75), (3, vr g 96), (4, vi (i : Int))] [] := by
  refine ev_aload_n dL_law_983 1 rfl ?_
  obtain ⟨v1, μ1, hf1, v2, μ2, hf2, ho, hG⟩ := hs
  refine ev_mem (LR_self (lo := 0) (hi := 75)) ?_
  refine cl_V1 (As := []) (st := []) miX11_spare (tX11_spare (sdR (N := μ) (by decide) (fun k hk => Kr_in2 (inR_w hk rfl rfl))) (CIn.w (lo := 0) (hi := 75) (fun k hk => hk) rfl rfl)  μ (o := (v1, μ1)) hf1) dL_law_984 lkL_159 inX11_spare rfl (by decide) rfl ⟨rfl, rfl⟩ ⟨⟨Nat.le_of_ble_eq_true rfl, Nat.le_of_ble_eq_true rfl⟩, hc.1, hc.2⟩ (Nat.le_of_ble_eq_true rfl) ?_
  refine ev_aload_n dL_law_987 2 rfl ?_
  refine ev_mem (LR_self (lo := 75) (hi := 96)) ?_
  refine cl_V1 (As := []) (st := [vi v1]) miX12_spare (tX12_spare (sdR (N := (LR 0 75 μ μ1)) (by decide) (fun k hk => Kr_in2 (inR_w hk rfl rfl))) (CIn.w (lo := 75) (hi := 96) (fun k hk => hk) rfl rfl)  (LR 0 75 μ μ1) (o := (v2, μ2)) hf2) dL_law_988 lkL_162 inX12_spare rfl (by decide) rfl ⟨rfl, rfl⟩ ⟨⟨Nat.le_of_ble_eq_true rfl, Nat.le_of_ble_eq_true rfl⟩, hc.1, hc.2⟩ (Nat.le_of_ble_eq_true rfl) ?_
  refine ev_icmp_eq 1463 dL_law_991 (by decide) (fun _ => ?_) (fun h => absurd ho h)
  exact kk _ hG
def S_ends (G : Mem → Prop)  (μ : Mem) : Prop := ∃ (v1 : Bool) (μ1 : Mem), (fX11_ends  μ = some v1 ∧ μ = μ1) ∧ ∃ (v2 : Bool) (μ2 : Mem), (fX12_ends  (LR 0 75 μ μ1) = some (v2, μ2)) ∧ v1 = v2 ∧ G (LR 75 96 (LR 0 75 μ μ1) μ2)
theorem lc_ends {G : Mem → Prop} (hs : S_ends G  μ) (hi : i + 7 ≤ L) (hb : L ≤ 3584) (hc : cells ≤ 601024 ∧ slots ≤ 7293034) (kk : ∀ μ2, G μ2 → Ev l D cy g (Kr 0 97) (yl nm) cL_law 7 ret room_1 (QL b L xs g) cells slots 97 false μ2 1463 [(0, Value.ref b), (1, vr g 0), (2, vr g 75), (3, vr g 96), (4, vi (i : Int))] []) : Ev l D cy g (Kr 0 97) (yl nm) cL_law 7 ret room_1 (QL b L xs g) cells slots 97 false μ 996 [(0, Value.ref b), (1, vr g 0), (2, vr g 75), (3, vr g 96), (4, vi (i : Int))] [] := by
  refine ev_aload_n dL_law_996 1 rfl ?_
  obtain ⟨v1, μ1, hf1, v2, μ2, hf2, ho, hG⟩ := hs
  obtain ⟨hf1, rfl⟩ := hf1
  refine ev_mem (LR_self (lo := 0) (hi := 75)) ?_
  refine cl_V1 (As := []) (st := []) miX11_ends (tX11_ends (sdR (N := μ) (by decide) (fun k hk => Kr_in2 (inR_w hk rfl rfl))) (CIn.w (lo := 0) (hi := 75) (fun k hk => hk) rfl rfl)  μ (o := v1) hf1) dL_law_997 lkL_163 inX11_ends rfl (by decide) rfl ⟨rfl, rfl⟩ ⟨⟨Nat.le_of_ble_eq_true rfl, Nat.le_of_ble_eq_true rfl⟩, hc.1, hc.2⟩ (Nat.le_of_ble_eq_true rfl) ?_
  refine ev_aload_n dL_law_1000 2 rfl ?_
  refine ev_mem (LR_self (lo := 75) (hi := 96)) ?_
  refine cl_V1 (As := []) (st := [vb v1]) miX12_ends (tX12_ends (sdR (N := (LR 0 75 μ μ)) (by decide) (fun k hk => Kr_in2 (inR_w hk rfl rfl))) (CIn.w (lo := 75) (hi := 96) (fun k hk => hk) rfl rfl)  (LR 0 75 μ μ) (o := (v2, μ2)) hf2) dL_law_1001 lkL_166 inX12_ends rfl (by decide) rfl ⟨rfl, rfl⟩ ⟨⟨Nat.le_of_ble_eq_true rfl, Nat.le_of_ble_eq_true rfl⟩, hc.1, hc.2⟩ (Nat.le_of_ble_eq_true rfl) ?_
  refine ev_icmp_eq 1463 dL_law_1004 (by decide) (fun _ => ?_) (fun h => absurd (by rw [ho]) h)
  exact kk _ hG
def S_wins (G : Mem → Prop) (a0 : Int) (μ : Mem) : Prop := Nz a0 → ∃ (v1 : Int) (μ1 : Mem), (fX11_wins a0 μ = some (v1, μ1)) ∧ ∃ (v2 : Int) (μ2 : Mem), (fX12_wins a0 (LR 0 75 μ μ1) = some (v2, μ2)) ∧ w32 v1 = w32 v2 ∧ G (LR 75 96 (LR 0 75 μ μ1) μ2)
theorem lc_wins {G : Mem → Prop} (hs : ∀ (a0 : Int), S_wins G a0 μ) (hi : i + 7 ≤ L) (hb : L ≤ 3584) (hc : cells ≤ 601024 ∧ slots ≤ 7293034) (kk : ∀ μ2, G μ2 → Ev l D cy g (Kr 0 97) (yl nm) cL_law 7 ret room_1 (QL b L xs g) cells slots 97 false μ2 1463 [(0, Value.ref b), (1, vr g 0), (2, vr g 75), (3, vr g 96), (4, vi (i : Int))] []) : Ev l D cy g (Kr 0 97) (yl nm) cL_law 7 ret room_1 (QL b L xs g) cells slots 97 false μ 1009 [(0, Value.ref b), (1, vr g 0), (2, vr g 75), (3, vr g 96), (4, vi (i : Int))] [] := by
  refine ev_aload_n dL_law_1009 1 rfl ?_
  refine ev_aload_n dL_law_1010 0 rfl ?_
  refine ev_iload dL_law_1011 4 rfl ?_
  refine ev_iconst dL_law_1013 ?_
  refine ev_iadd dL_law_1014 ?_
  refine ev_sld (i + 1) dL_law_1015 (xi 1 (by omega) hb) (by omega) ?_
  obtain ⟨v1, μ1, hf1, v2, μ2, hf2, ho, hG⟩ := hs (XI xs (i + 1)) nzX
  refine ev_mem (LR_self (lo := 0) (hi := 75)) ?_
  refine cl_V1 (As := [vi (XI xs (i + 1))]) (st := []) miX11_wins (tX11_wins (sdR (N := μ) (by decide) (fun k hk => Kr_in2 (inR_w hk rfl rfl))) (CIn.w (lo := 0) (hi := 75) (fun k hk => hk) rfl rfl) (XI xs (i + 1)) μ (o := (v1, μ1)) hf1) dL_law_1016 lkL_167 inX11_wins rfl (by decide) rfl ⟨rfl, rfl⟩ ⟨⟨Nat.le_of_ble_eq_true rfl, Nat.le_of_ble_eq_true rfl⟩, hc.1, hc.2⟩ (Nat.le_of_ble_eq_true rfl) ?_
  refine ev_aload_n dL_law_1019 2 rfl ?_
  refine ev_aload_n dL_law_1020 0 rfl ?_
  refine ev_iload dL_law_1021 4 rfl ?_
  refine ev_iconst dL_law_1023 ?_
  refine ev_iadd dL_law_1024 ?_
  refine ev_sld (i + 1) dL_law_1025 (xi 1 (by omega) hb) (by omega) ?_
  refine ev_mem (LR_self (lo := 75) (hi := 96)) ?_
  refine cl_V1 (As := [vi (XI xs (i + 1))]) (st := [vi v1]) miX12_wins (tX12_wins (sdR (N := (LR 0 75 μ μ1)) (by decide) (fun k hk => Kr_in2 (inR_w hk rfl rfl))) (CIn.w (lo := 75) (hi := 96) (fun k hk => hk) rfl rfl) (XI xs (i + 1)) (LR 0 75 μ μ1) (o := (v2, μ2)) hf2) dL_law_1026 lkL_170 inX12_wins rfl (by decide) rfl ⟨rfl, rfl⟩ ⟨⟨Nat.le_of_ble_eq_true rfl, Nat.le_of_ble_eq_true rfl⟩, hc.1, hc.2⟩ (Nat.le_of_ble_eq_true rfl) ?_
  refine ev_icmp_eq 1463 dL_law_1029 (by decide) (fun _ => ?_) (fun h => absurd ho h)
  exact kk _ hG
def S_his (G : Mem → Prop)  (μ : Mem) : Prop := ∃ (v1 : Int) (μ1 : Mem), (fX11_his  μ = some (v1, μ1)) ∧ ∃ (v2 : Int) (μ2 : Mem), (fX12_his  (LR 0 75 μ μ1) = some (v2, μ2)) ∧ w32 v1 = w32 v2 ∧ G (LR 75 96 (LR 0 75 μ μ1) μ2)
theorem lc_his {G : Mem → Prop} (hs : S_his G  μ) (hi : i + 7 ≤ L) (hb : L ≤ 3584) (hc : cells ≤ 601024 ∧ slots ≤ 7293034) (kk : ∀ μ2, G μ2 → Ev l D cy g (Kr 0 97) (yl nm) cL_law 7 ret room_1 (QL b L xs g) cells slots 97 false μ2 1463 [(0, Value.ref b), (1, vr g 0), (2, vr g 75), (3, vr g 96), (4, vi (i : Int))] []) : Ev l D cy g (Kr 0 97) (yl nm) cL_law 7 ret room_1 (QL b L xs g) cells slots 97 false μ 1034 [(0, Value.ref b), (1, vr g 0), (2, vr g 75), (3, vr g 96), (4, vi (i : Int))] [] := by
  refine ev_aload_n dL_law_1034 1 rfl ?_
  obtain ⟨v1, μ1, hf1, v2, μ2, hf2, ho, hG⟩ := hs
  refine ev_mem (LR_self (lo := 0) (hi := 75)) ?_
  refine cl_V1 (As := []) (st := []) miX11_his (tX11_his (sdR (N := μ) (by decide) (fun k hk => Kr_in2 (inR_w hk rfl rfl))) (CIn.w (lo := 0) (hi := 75) (fun k hk => hk) rfl rfl)  μ (o := (v1, μ1)) hf1) dL_law_1035 lkL_171 inX11_his rfl (by decide) rfl ⟨rfl, rfl⟩ ⟨⟨Nat.le_of_ble_eq_true rfl, Nat.le_of_ble_eq_true rfl⟩, hc.1, hc.2⟩ (Nat.le_of_ble_eq_true rfl) ?_
  refine ev_aload_n dL_law_1038 2 rfl ?_
  refine ev_mem (LR_self (lo := 75) (hi := 96)) ?_
  refine cl_V1 (As := []) (st := [vi v1]) miX12_his (tX12_his (sdR (N := (LR 0 75 μ μ1)) (by decide) (fun k hk => Kr_in2 (inR_w hk rfl rfl))) (CIn.w (lo := 75) (hi := 96) (fun k hk => hk) rfl rfl)  (LR 0 75 μ μ1) (o := (v2, μ2)) hf2) dL_law_1039 lkL_174 inX12_his rfl (by decide) rfl ⟨rfl, rfl⟩ ⟨⟨Nat.le_of_ble_eq_true rfl, Nat.le_of_ble_eq_true rfl⟩, hc.1, hc.2⟩ (Nat.le_of_ble_eq_true rfl) ?_
  refine ev_icmp_eq 1463 dL_law_1042 (by decide) (fun _ => ?_) (fun h => absurd ho h)
  exact kk _ hG
def S_see (G : Mem → Prop) (a0 : Int) (a1 : Int) (a2 : Bool) (μ : Mem) : Prop := Nz a0 → Nz a1 → ∃ (v1 : Bool) (μ1 : Mem), (fX11_see a0 a1 a2 μ = (v1, μ1)) ∧ ∃ (v2 : Bool) (μ2 : Mem), (fX12_see a0 a1 a2 (LR 0 75 μ μ1) = some (v2, μ2)) ∧ v1 = v2 ∧ G (LR 75 96 (LR 0 75 μ μ1) μ2)
theorem lc_see {G : Mem → Prop} (hs : ∀ (a0 : Int) (a1 : Int) (a2 : Bool), S_see G a0 a1 a2 μ) (hi : i + 7 ≤ L) (hb : L ≤ 3584) (hc : cells ≤ 601024 ∧ slots ≤ 7293034) (kk : ∀ μ2, G μ2 → Ev l D cy g (Kr 0 97) (yl nm) cL_law 7 ret room_1 (QL b L xs g) cells slots 97 false μ2 1463 [(0, Value.ref b), (1, vr g 0), (2, vr g 75), (3, vr g 96), (4, vi (i : Int))] []) : Ev l D cy g (Kr 0 97) (yl nm) cL_law 7 ret room_1 (QL b L xs g) cells slots 97 false μ 1047 [(0, Value.ref b), (1, vr g 0), (2, vr g 75), (3, vr g 96), (4, vi (i : Int))] [] := by
  refine ev_aload_n dL_law_1047 1 rfl ?_
  refine ev_aload_n dL_law_1048 0 rfl ?_
  refine ev_iload dL_law_1049 4 rfl ?_
  refine ev_iconst dL_law_1051 ?_
  refine ev_iadd dL_law_1052 ?_
  refine ev_sld (i + 1) dL_law_1053 (xi 1 (by omega) hb) (by omega) ?_
  refine ev_aload_n dL_law_1054 0 rfl ?_
  refine ev_iload dL_law_1055 4 rfl ?_
  refine ev_iconst dL_law_1057 ?_
  refine ev_iadd dL_law_1058 ?_
  refine ev_sld (i + 2) dL_law_1059 (xi 2 (by omega) hb) (by omega) ?_
  refine ev_aload_n dL_law_1060 0 rfl ?_
  refine ev_iload dL_law_1061 4 rfl ?_
  refine ev_iconst dL_law_1063 ?_
  refine ev_iadd dL_law_1064 ?_
  refine ev_sld (i + 3) dL_law_1065 (xi 3 (by omega) hb) (by omega) ?_
  refine ev_if_eq 1073 dL_law_1066 (by decide) (fun hb3 => ?_) (fun hb3 => ?_)
  · refine ev_iconst dL_law_1073 ?_
    obtain ⟨v1, μ1, hf1, v2, μ2, hf2, ho, hG⟩ := hs (XI xs (i + 1)) (XI xs (i + 2)) false nzX nzX
    refine ev_mem (LR_self (lo := 0) (hi := 75)) ?_
    refine cl_V1 (As := [vi (XI xs (i + 1)), vi (XI xs (i + 2)), vb false]) (st := []) miX11_see (tX11_see (sdR (N := μ) (by decide) (fun k hk => Kr_in2 (inR_w hk rfl rfl))) (CIn.w (lo := 0) (hi := 75) (fun k hk => hk) rfl rfl) (XI xs (i + 1)) (XI xs (i + 2)) false μ (o := (v1, μ1)) hf1) dL_law_1074 lkL_175 inX11_see rfl (by decide) rfl ⟨rfl, rfl⟩ ⟨⟨Nat.le_of_ble_eq_true rfl, Nat.le_of_ble_eq_true rfl⟩, hc.1, hc.2⟩ (Nat.le_of_ble_eq_true rfl) ?_
    refine ev_aload_n dL_law_1077 2 rfl ?_
    refine ev_aload_n dL_law_1078 0 rfl ?_
    refine ev_iload dL_law_1079 4 rfl ?_
    refine ev_iconst dL_law_1081 ?_
    refine ev_iadd dL_law_1082 ?_
    refine ev_sld (i + 1) dL_law_1083 (xi 1 (by omega) hb) (by omega) ?_
    refine ev_aload_n dL_law_1084 0 rfl ?_
    refine ev_iload dL_law_1085 4 rfl ?_
    refine ev_iconst dL_law_1087 ?_
    refine ev_iadd dL_law_1088 ?_
    refine ev_sld (i + 2) dL_law_1089 (xi 2 (by omega) hb) (by omega) ?_
    refine ev_aload_n dL_law_1090 0 rfl ?_
    refine ev_iload dL_law_1091 4 rfl ?_
    refine ev_iconst dL_law_1093 ?_
    refine ev_iadd dL_law_1094 ?_
    refine ev_sld (i + 3) dL_law_1095 (xi 3 (by omega) hb) (by omega) ?_
    refine ev_if_eq 1103 dL_law_1096 (by decide) (fun _ => ?_) (fun h => absurd hb3 h)
    refine ev_iconst dL_law_1103 ?_
    refine ev_mem (LR_self (lo := 75) (hi := 96)) ?_
    refine cl_V1 (As := [vi (XI xs (i + 1)), vi (XI xs (i + 2)), vb false]) (st := [vb v1]) miX12_see (tX12_see (sdR (N := (LR 0 75 μ μ1)) (by decide) (fun k hk => Kr_in2 (inR_w hk rfl rfl))) (CIn.w (lo := 75) (hi := 96) (fun k hk => hk) rfl rfl) (XI xs (i + 1)) (XI xs (i + 2)) false (LR 0 75 μ μ1) (o := (v2, μ2)) hf2) dL_law_1104 lkL_179 inX12_see rfl (by decide) rfl ⟨rfl, rfl⟩ ⟨⟨Nat.le_of_ble_eq_true rfl, Nat.le_of_ble_eq_true rfl⟩, hc.1, hc.2⟩ (Nat.le_of_ble_eq_true rfl) ?_
    refine ev_icmp_eq 1463 dL_law_1107 (by decide) (fun _ => ?_) (fun h => absurd (by rw [ho]) h)
    exact kk _ hG
  · refine ev_iconst dL_law_1069 ?_
    refine ev_goto 1074 dL_law_1070 (by decide) ?_
    obtain ⟨v1, μ1, hf1, v2, μ2, hf2, ho, hG⟩ := hs (XI xs (i + 1)) (XI xs (i + 2)) true nzX nzX
    refine ev_mem (LR_self (lo := 0) (hi := 75)) ?_
    refine cl_V1 (As := [vi (XI xs (i + 1)), vi (XI xs (i + 2)), vb true]) (st := []) miX11_see (tX11_see (sdR (N := μ) (by decide) (fun k hk => Kr_in2 (inR_w hk rfl rfl))) (CIn.w (lo := 0) (hi := 75) (fun k hk => hk) rfl rfl) (XI xs (i + 1)) (XI xs (i + 2)) true μ (o := (v1, μ1)) hf1) dL_law_1074 lkL_175 inX11_see rfl (by decide) rfl ⟨rfl, rfl⟩ ⟨⟨Nat.le_of_ble_eq_true rfl, Nat.le_of_ble_eq_true rfl⟩, hc.1, hc.2⟩ (Nat.le_of_ble_eq_true rfl) ?_
    refine ev_aload_n dL_law_1077 2 rfl ?_
    refine ev_aload_n dL_law_1078 0 rfl ?_
    refine ev_iload dL_law_1079 4 rfl ?_
    refine ev_iconst dL_law_1081 ?_
    refine ev_iadd dL_law_1082 ?_
    refine ev_sld (i + 1) dL_law_1083 (xi 1 (by omega) hb) (by omega) ?_
    refine ev_aload_n dL_law_1084 0 rfl ?_
    refine ev_iload dL_law_1085 4 rfl ?_
    refine ev_iconst dL_law_1087 ?_
    refine ev_iadd dL_law_1088 ?_
    refine ev_sld (i + 2) dL_law_1089 (xi 2 (by omega) hb) (by omega) ?_
    refine ev_aload_n dL_law_1090 0 rfl ?_
    refine ev_iload dL_law_1091 4 rfl ?_
    refine ev_iconst dL_law_1093 ?_
    refine ev_iadd dL_law_1094 ?_
    refine ev_sld (i + 3) dL_law_1095 (xi 3 (by omega) hb) (by omega) ?_
    refine ev_if_eq 1103 dL_law_1096 (by decide) (fun h => absurd h hb3) (fun _ => ?_)
    refine ev_iconst dL_law_1099 ?_
    refine ev_goto 1104 dL_law_1100 (by decide) ?_
    refine ev_mem (LR_self (lo := 75) (hi := 96)) ?_
    refine cl_V1 (As := [vi (XI xs (i + 1)), vi (XI xs (i + 2)), vb true]) (st := [vb v1]) miX12_see (tX12_see (sdR (N := (LR 0 75 μ μ1)) (by decide) (fun k hk => Kr_in2 (inR_w hk rfl rfl))) (CIn.w (lo := 75) (hi := 96) (fun k hk => hk) rfl rfl) (XI xs (i + 1)) (XI xs (i + 2)) true (LR 0 75 μ μ1) (o := (v2, μ2)) hf2) dL_law_1104 lkL_179 inX12_see rfl (by decide) rfl ⟨rfl, rfl⟩ ⟨⟨Nat.le_of_ble_eq_true rfl, Nat.le_of_ble_eq_true rfl⟩, hc.1, hc.2⟩ (Nat.le_of_ble_eq_true rfl) ?_
    refine ev_icmp_eq 1463 dL_law_1107 (by decide) (fun _ => ?_) (fun h => absurd (by rw [ho]) h)
    exact kk _ hG
def S_lies (G : Mem → Prop) (a0 : Int) (a1 : Bool) (μ : Mem) : Prop := Nz a0 → ∃ (v1 : Bool) (μ1 : Mem), (fX11_lies a0 a1 μ = (v1, μ1)) ∧ ∃ (v2 : Bool) (μ2 : Mem), (fX12_lies a0 a1 (LR 0 75 μ μ1) = some (v2, μ2)) ∧ v1 = v2 ∧ G (LR 75 96 (LR 0 75 μ μ1) μ2)
theorem lc_lies {G : Mem → Prop} (hs : ∀ (a0 : Int) (a1 : Bool), S_lies G a0 a1 μ) (hi : i + 7 ≤ L) (hb : L ≤ 3584) (hc : cells ≤ 601024 ∧ slots ≤ 7293034) (kk : ∀ μ2, G μ2 → Ev l D cy g (Kr 0 97) (yl nm) cL_law 7 ret room_1 (QL b L xs g) cells slots 97 false μ2 1463 [(0, Value.ref b), (1, vr g 0), (2, vr g 75), (3, vr g 96), (4, vi (i : Int))] []) : Ev l D cy g (Kr 0 97) (yl nm) cL_law 7 ret room_1 (QL b L xs g) cells slots 97 false μ 1112 [(0, Value.ref b), (1, vr g 0), (2, vr g 75), (3, vr g 96), (4, vi (i : Int))] [] := by
  refine ev_aload_n dL_law_1112 1 rfl ?_
  refine ev_aload_n dL_law_1113 0 rfl ?_
  refine ev_iload dL_law_1114 4 rfl ?_
  refine ev_iconst dL_law_1116 ?_
  refine ev_iadd dL_law_1117 ?_
  refine ev_sld (i + 1) dL_law_1118 (xi 1 (by omega) hb) (by omega) ?_
  refine ev_aload_n dL_law_1119 0 rfl ?_
  refine ev_iload dL_law_1120 4 rfl ?_
  refine ev_iconst dL_law_1122 ?_
  refine ev_iadd dL_law_1123 ?_
  refine ev_sld (i + 2) dL_law_1124 (xi 2 (by omega) hb) (by omega) ?_
  refine ev_if_eq 1132 dL_law_1125 (by decide) (fun hb2 => ?_) (fun hb2 => ?_)
  · refine ev_iconst dL_law_1132 ?_
    obtain ⟨v1, μ1, hf1, v2, μ2, hf2, ho, hG⟩ := hs (XI xs (i + 1)) false nzX
    refine ev_mem (LR_self (lo := 0) (hi := 75)) ?_
    refine cl_V1 (As := [vi (XI xs (i + 1)), vb false]) (st := []) miX11_lies (tX11_lies (sdR (N := μ) (by decide) (fun k hk => Kr_in2 (inR_w hk rfl rfl))) (CIn.w (lo := 0) (hi := 75) (fun k hk => hk) rfl rfl) (XI xs (i + 1)) false μ (o := (v1, μ1)) hf1) dL_law_1133 lkL_180 inX11_lies rfl (by decide) rfl ⟨rfl, rfl⟩ ⟨⟨Nat.le_of_ble_eq_true rfl, Nat.le_of_ble_eq_true rfl⟩, hc.1, hc.2⟩ (Nat.le_of_ble_eq_true rfl) ?_
    refine ev_aload_n dL_law_1136 2 rfl ?_
    refine ev_aload_n dL_law_1137 0 rfl ?_
    refine ev_iload dL_law_1138 4 rfl ?_
    refine ev_iconst dL_law_1140 ?_
    refine ev_iadd dL_law_1141 ?_
    refine ev_sld (i + 1) dL_law_1142 (xi 1 (by omega) hb) (by omega) ?_
    refine ev_aload_n dL_law_1143 0 rfl ?_
    refine ev_iload dL_law_1144 4 rfl ?_
    refine ev_iconst dL_law_1146 ?_
    refine ev_iadd dL_law_1147 ?_
    refine ev_sld (i + 2) dL_law_1148 (xi 2 (by omega) hb) (by omega) ?_
    refine ev_if_eq 1156 dL_law_1149 (by decide) (fun _ => ?_) (fun h => absurd hb2 h)
    refine ev_iconst dL_law_1156 ?_
    refine ev_mem (LR_self (lo := 75) (hi := 96)) ?_
    refine cl_V1 (As := [vi (XI xs (i + 1)), vb false]) (st := [vb v1]) miX12_lies (tX12_lies (sdR (N := (LR 0 75 μ μ1)) (by decide) (fun k hk => Kr_in2 (inR_w hk rfl rfl))) (CIn.w (lo := 75) (hi := 96) (fun k hk => hk) rfl rfl) (XI xs (i + 1)) false (LR 0 75 μ μ1) (o := (v2, μ2)) hf2) dL_law_1157 lkL_184 inX12_lies rfl (by decide) rfl ⟨rfl, rfl⟩ ⟨⟨Nat.le_of_ble_eq_true rfl, Nat.le_of_ble_eq_true rfl⟩, hc.1, hc.2⟩ (Nat.le_of_ble_eq_true rfl) ?_
    refine ev_icmp_eq 1463 dL_law_1160 (by decide) (fun _ => ?_) (fun h => absurd (by rw [ho]) h)
    exact kk _ hG
  · refine ev_iconst dL_law_1128 ?_
    refine ev_goto 1133 dL_law_1129 (by decide) ?_
    obtain ⟨v1, μ1, hf1, v2, μ2, hf2, ho, hG⟩ := hs (XI xs (i + 1)) true nzX
    refine ev_mem (LR_self (lo := 0) (hi := 75)) ?_
    refine cl_V1 (As := [vi (XI xs (i + 1)), vb true]) (st := []) miX11_lies (tX11_lies (sdR (N := μ) (by decide) (fun k hk => Kr_in2 (inR_w hk rfl rfl))) (CIn.w (lo := 0) (hi := 75) (fun k hk => hk) rfl rfl) (XI xs (i + 1)) true μ (o := (v1, μ1)) hf1) dL_law_1133 lkL_180 inX11_lies rfl (by decide) rfl ⟨rfl, rfl⟩ ⟨⟨Nat.le_of_ble_eq_true rfl, Nat.le_of_ble_eq_true rfl⟩, hc.1, hc.2⟩ (Nat.le_of_ble_eq_true rfl) ?_
    refine ev_aload_n dL_law_1136 2 rfl ?_
    refine ev_aload_n dL_law_1137 0 rfl ?_
    refine ev_iload dL_law_1138 4 rfl ?_
    refine ev_iconst dL_law_1140 ?_
    refine ev_iadd dL_law_1141 ?_
    refine ev_sld (i + 1) dL_law_1142 (xi 1 (by omega) hb) (by omega) ?_
    refine ev_aload_n dL_law_1143 0 rfl ?_
    refine ev_iload dL_law_1144 4 rfl ?_
    refine ev_iconst dL_law_1146 ?_
    refine ev_iadd dL_law_1147 ?_
    refine ev_sld (i + 2) dL_law_1148 (xi 2 (by omega) hb) (by omega) ?_
    refine ev_if_eq 1156 dL_law_1149 (by decide) (fun h => absurd h hb2) (fun _ => ?_)
    refine ev_iconst dL_law_1152 ?_
    refine ev_goto 1157 dL_law_1153 (by decide) ?_
    refine ev_mem (LR_self (lo := 75) (hi := 96)) ?_
    refine cl_V1 (As := [vi (XI xs (i + 1)), vb true]) (st := [vb v1]) miX12_lies (tX12_lies (sdR (N := (LR 0 75 μ μ1)) (by decide) (fun k hk => Kr_in2 (inR_w hk rfl rfl))) (CIn.w (lo := 75) (hi := 96) (fun k hk => hk) rfl rfl) (XI xs (i + 1)) true (LR 0 75 μ μ1) (o := (v2, μ2)) hf2) dL_law_1157 lkL_184 inX12_lies rfl (by decide) rfl ⟨rfl, rfl⟩ ⟨⟨Nat.le_of_ble_eq_true rfl, Nat.le_of_ble_eq_true rfl⟩, hc.1, hc.2⟩ (Nat.le_of_ble_eq_true rfl) ?_
    refine ev_icmp_eq 1463 dL_law_1160 (by decide) (fun _ => ?_) (fun h => absurd (by rw [ho]) h)
    exact kk _ hG
def S_fit (G : Mem → Prop)  (μ : Mem) : Prop := ∃ (v1 : Int) (μ1 : Mem), (fX11_fit  μ = some v1 ∧ μ = μ1) ∧ ∃ (v2 : Int) (μ2 : Mem), (fX12_fit  (LR 0 75 μ μ1) = some (v2, μ2)) ∧ w32 v1 = w32 v2 ∧ G (LR 75 96 (LR 0 75 μ μ1) μ2)
theorem lc_fit {G : Mem → Prop} (hs : S_fit G  μ) (hi : i + 7 ≤ L) (hb : L ≤ 3584) (hc : cells ≤ 601024 ∧ slots ≤ 7293034) (kk : ∀ μ2, G μ2 → Ev l D cy g (Kr 0 97) (yl nm) cL_law 7 ret room_1 (QL b L xs g) cells slots 97 false μ2 1463 [(0, Value.ref b), (1, vr g 0), (2, vr g 75), (3, vr g 96), (4, vi (i : Int))] []) : Ev l D cy g (Kr 0 97) (yl nm) cL_law 7 ret room_1 (QL b L xs g) cells slots 97 false μ 1165 [(0, Value.ref b), (1, vr g 0), (2, vr g 75), (3, vr g 96), (4, vi (i : Int))] [] := by
  refine ev_aload_n dL_law_1165 1 rfl ?_
  obtain ⟨v1, μ1, hf1, v2, μ2, hf2, ho, hG⟩ := hs
  obtain ⟨hf1, rfl⟩ := hf1
  refine ev_mem (LR_self (lo := 0) (hi := 75)) ?_
  refine cl_V1 (As := []) (st := []) miX11_fit (tX11_fit (sdR (N := μ) (by decide) (fun k hk => Kr_in2 (inR_w hk rfl rfl))) (CIn.w (lo := 0) (hi := 75) (fun k hk => hk) rfl rfl)  μ (o := v1) hf1) dL_law_1166 lkL_185 inX11_fit rfl (by decide) rfl ⟨rfl, rfl⟩ ⟨⟨Nat.le_of_ble_eq_true rfl, Nat.le_of_ble_eq_true rfl⟩, hc.1, hc.2⟩ (Nat.le_of_ble_eq_true rfl) ?_
  refine ev_aload_n dL_law_1169 2 rfl ?_
  refine ev_mem (LR_self (lo := 75) (hi := 96)) ?_
  refine cl_V1 (As := []) (st := [vi v1]) miX12_fit (tX12_fit (sdR (N := (LR 0 75 μ μ)) (by decide) (fun k hk => Kr_in2 (inR_w hk rfl rfl))) (CIn.w (lo := 75) (hi := 96) (fun k hk => hk) rfl rfl)  (LR 0 75 μ μ) (o := (v2, μ2)) hf2) dL_law_1170 lkL_188 inX12_fit rfl (by decide) rfl ⟨rfl, rfl⟩ ⟨⟨Nat.le_of_ble_eq_true rfl, Nat.le_of_ble_eq_true rfl⟩, hc.1, hc.2⟩ (Nat.le_of_ble_eq_true rfl) ?_
  refine ev_icmp_eq 1463 dL_law_1173 (by decide) (fun _ => ?_) (fun h => absurd ho h)
  exact kk _ hG
def S_look (G : Mem → Prop)  (μ : Mem) : Prop := ∃ (v1 : Int) (μ1 : Mem), (fX11_look  μ = some (v1, μ1)) ∧ ∃ (v2 : Int) (μ2 : Mem), (fX12_look  (LR 0 75 μ μ1) = some (v2, μ2)) ∧ w32 v1 = w32 v2 ∧ G (LR 75 96 (LR 0 75 μ μ1) μ2)
theorem lc_look {G : Mem → Prop} (hs : S_look G  μ) (hi : i + 7 ≤ L) (hb : L ≤ 3584) (hc : cells ≤ 601024 ∧ slots ≤ 7293034) (kk : ∀ μ2, G μ2 → Ev l D cy g (Kr 0 97) (yl nm) cL_law 7 ret room_1 (QL b L xs g) cells slots 97 false μ2 1463 [(0, Value.ref b), (1, vr g 0), (2, vr g 75), (3, vr g 96), (4, vi (i : Int))] []) : Ev l D cy g (Kr 0 97) (yl nm) cL_law 7 ret room_1 (QL b L xs g) cells slots 97 false μ 1178 [(0, Value.ref b), (1, vr g 0), (2, vr g 75), (3, vr g 96), (4, vi (i : Int))] [] := by
  refine ev_aload_n dL_law_1178 1 rfl ?_
  obtain ⟨v1, μ1, hf1, v2, μ2, hf2, ho, hG⟩ := hs
  refine ev_mem (LR_self (lo := 0) (hi := 75)) ?_
  refine cl_V1 (As := []) (st := []) miX11_look (tX11_look (sdR (N := μ) (by decide) (fun k hk => Kr_in2 (inR_w hk rfl rfl))) (CIn.w (lo := 0) (hi := 75) (fun k hk => hk) rfl rfl)  μ (o := (v1, μ1)) hf1) dL_law_1179 lkL_189 inX11_look rfl (by decide) rfl ⟨rfl, rfl⟩ ⟨⟨Nat.le_of_ble_eq_true rfl, Nat.le_of_ble_eq_true rfl⟩, hc.1, hc.2⟩ (Nat.le_of_ble_eq_true rfl) ?_
  refine ev_aload_n dL_law_1182 2 rfl ?_
  refine ev_mem (LR_self (lo := 75) (hi := 96)) ?_
  refine cl_V1 (As := []) (st := [vi v1]) miX12_look (tX12_look (sdR (N := (LR 0 75 μ μ1)) (by decide) (fun k hk => Kr_in2 (inR_w hk rfl rfl))) (CIn.w (lo := 75) (hi := 96) (fun k hk => hk) rfl rfl)  (LR 0 75 μ μ1) (o := (v2, μ2)) hf2) dL_law_1183 lkL_192 inX12_look rfl (by decide) rfl ⟨rfl, rfl⟩ ⟨⟨Nat.le_of_ble_eq_true rfl, Nat.le_of_ble_eq_true rfl⟩, hc.1, hc.2⟩ (Nat.le_of_ble_eq_true rfl) ?_
  refine ev_icmp_eq 1463 dL_law_1186 (by decide) (fun _ => ?_) (fun h => absurd ho h)
  exact kk _ hG
def S_chance (G : Mem → Prop) (a0 : Int) (a1 : Bool) (μ : Mem) : Prop := Nz a0 → ∃ (v1 : Int) (μ1 : Mem), (fX11_chance a0 a1 μ = some (v1, μ1)) ∧ ∃ (v2 : Int) (μ2 : Mem), (fX12_chance a0 a1 (LR 0 75 μ μ1) = some (v2, μ2)) ∧ w32 v1 = w32 v2 ∧ G (LR 75 96 (LR 0 75 μ μ1) μ2)
theorem lc_chance {G : Mem → Prop} (hs : ∀ (a0 : Int) (a1 : Bool), S_chance G a0 a1 μ) (hi : i + 7 ≤ L) (hb : L ≤ 3584) (hc : cells ≤ 601024 ∧ slots ≤ 7293034) (kk : ∀ μ2, G μ2 → Ev l D cy g (Kr 0 97) (yl nm) cL_law 7 ret room_1 (QL b L xs g) cells slots 97 false μ2 1463 [(0, Value.ref b), (1, vr g 0), (2, vr g 75), (3, vr g 96), (4, vi (i : Int))] []) : Ev l D cy g (Kr 0 97) (yl nm) cL_law 7 ret room_1 (QL b L xs g) cells slots 97 false μ 1191 [(0, Value.ref b), (1, vr g 0), (2, vr g 75), (3, vr g 96), (4, vi (i : Int))] [] := by
  refine ev_aload_n dL_law_1191 1 rfl ?_
  refine ev_aload_n dL_law_1192 0 rfl ?_
  refine ev_iload dL_law_1193 4 rfl ?_
  refine ev_iconst dL_law_1195 ?_
  refine ev_iadd dL_law_1196 ?_
  refine ev_sld (i + 1) dL_law_1197 (xi 1 (by omega) hb) (by omega) ?_
  refine ev_aload_n dL_law_1198 0 rfl ?_
  refine ev_iload dL_law_1199 4 rfl ?_
  refine ev_iconst dL_law_1201 ?_
  refine ev_iadd dL_law_1202 ?_
  refine ev_sld (i + 2) dL_law_1203 (xi 2 (by omega) hb) (by omega) ?_
  refine ev_if_eq 1211 dL_law_1204 (by decide) (fun hb2 => ?_) (fun hb2 => ?_)
  · refine ev_iconst dL_law_1211 ?_
    obtain ⟨v1, μ1, hf1, v2, μ2, hf2, ho, hG⟩ := hs (XI xs (i + 1)) false nzX
    refine ev_mem (LR_self (lo := 0) (hi := 75)) ?_
    refine cl_V1 (As := [vi (XI xs (i + 1)), vb false]) (st := []) miX11_chance (tX11_chance (sdR (N := μ) (by decide) (fun k hk => Kr_in2 (inR_w hk rfl rfl))) (CIn.w (lo := 0) (hi := 75) (fun k hk => hk) rfl rfl) (XI xs (i + 1)) false μ (o := (v1, μ1)) hf1) dL_law_1212 lkL_193 inX11_chance rfl (by decide) rfl ⟨rfl, rfl⟩ ⟨⟨Nat.le_of_ble_eq_true rfl, Nat.le_of_ble_eq_true rfl⟩, hc.1, hc.2⟩ (Nat.le_of_ble_eq_true rfl) ?_
    refine ev_aload_n dL_law_1215 2 rfl ?_
    refine ev_aload_n dL_law_1216 0 rfl ?_
    refine ev_iload dL_law_1217 4 rfl ?_
    refine ev_iconst dL_law_1219 ?_
    refine ev_iadd dL_law_1220 ?_
    refine ev_sld (i + 1) dL_law_1221 (xi 1 (by omega) hb) (by omega) ?_
    refine ev_aload_n dL_law_1222 0 rfl ?_
    refine ev_iload dL_law_1223 4 rfl ?_
    refine ev_iconst dL_law_1225 ?_
    refine ev_iadd dL_law_1226 ?_
    refine ev_sld (i + 2) dL_law_1227 (xi 2 (by omega) hb) (by omega) ?_
    refine ev_if_eq 1235 dL_law_1228 (by decide) (fun _ => ?_) (fun h => absurd hb2 h)
    refine ev_iconst dL_law_1235 ?_
    refine ev_mem (LR_self (lo := 75) (hi := 96)) ?_
    refine cl_V1 (As := [vi (XI xs (i + 1)), vb false]) (st := [vi v1]) miX12_chance (tX12_chance (sdR (N := (LR 0 75 μ μ1)) (by decide) (fun k hk => Kr_in2 (inR_w hk rfl rfl))) (CIn.w (lo := 75) (hi := 96) (fun k hk => hk) rfl rfl) (XI xs (i + 1)) false (LR 0 75 μ μ1) (o := (v2, μ2)) hf2) dL_law_1236 lkL_197 inX12_chance rfl (by decide) rfl ⟨rfl, rfl⟩ ⟨⟨Nat.le_of_ble_eq_true rfl, Nat.le_of_ble_eq_true rfl⟩, hc.1, hc.2⟩ (Nat.le_of_ble_eq_true rfl) ?_
    refine ev_icmp_eq 1463 dL_law_1239 (by decide) (fun _ => ?_) (fun h => absurd ho h)
    exact kk _ hG
  · refine ev_iconst dL_law_1207 ?_
    refine ev_goto 1212 dL_law_1208 (by decide) ?_
    obtain ⟨v1, μ1, hf1, v2, μ2, hf2, ho, hG⟩ := hs (XI xs (i + 1)) true nzX
    refine ev_mem (LR_self (lo := 0) (hi := 75)) ?_
    refine cl_V1 (As := [vi (XI xs (i + 1)), vb true]) (st := []) miX11_chance (tX11_chance (sdR (N := μ) (by decide) (fun k hk => Kr_in2 (inR_w hk rfl rfl))) (CIn.w (lo := 0) (hi := 75) (fun k hk => hk) rfl rfl) (XI xs (i + 1)) true μ (o := (v1, μ1)) hf1) dL_law_1212 lkL_193 inX11_chance rfl (by decide) rfl ⟨rfl, rfl⟩ ⟨⟨Nat.le_of_ble_eq_true rfl, Nat.le_of_ble_eq_true rfl⟩, hc.1, hc.2⟩ (Nat.le_of_ble_eq_true rfl) ?_
    refine ev_aload_n dL_law_1215 2 rfl ?_
    refine ev_aload_n dL_law_1216 0 rfl ?_
    refine ev_iload dL_law_1217 4 rfl ?_
    refine ev_iconst dL_law_1219 ?_
    refine ev_iadd dL_law_1220 ?_
    refine ev_sld (i + 1) dL_law_1221 (xi 1 (by omega) hb) (by omega) ?_
    refine ev_aload_n dL_law_1222 0 rfl ?_
    refine ev_iload dL_law_1223 4 rfl ?_
    refine ev_iconst dL_law_1225 ?_
    refine ev_iadd dL_law_1226 ?_
    refine ev_sld (i + 2) dL_law_1227 (xi 2 (by omega) hb) (by omega) ?_
    refine ev_if_eq 1235 dL_law_1228 (by decide) (fun h => absurd h hb2) (fun _ => ?_)
    refine ev_iconst dL_law_1231 ?_
    refine ev_goto 1236 dL_law_1232 (by decide) ?_
    refine ev_mem (LR_self (lo := 75) (hi := 96)) ?_
    refine cl_V1 (As := [vi (XI xs (i + 1)), vb true]) (st := [vi v1]) miX12_chance (tX12_chance (sdR (N := (LR 0 75 μ μ1)) (by decide) (fun k hk => Kr_in2 (inR_w hk rfl rfl))) (CIn.w (lo := 75) (hi := 96) (fun k hk => hk) rfl rfl) (XI xs (i + 1)) true (LR 0 75 μ μ1) (o := (v2, μ2)) hf2) dL_law_1236 lkL_197 inX12_chance rfl (by decide) rfl ⟨rfl, rfl⟩ ⟨⟨Nat.le_of_ble_eq_true rfl, Nat.le_of_ble_eq_true rfl⟩, hc.1, hc.2⟩ (Nat.le_of_ble_eq_true rfl) ?_
    refine ev_icmp_eq 1463 dL_law_1239 (by decide) (fun _ => ?_) (fun h => absurd ho h)
    exact kk _ hG
def S_mornings (G : Mem → Prop) (a0 : Int) (a1 : Int) (a2 : Int) (μ : Mem) : Prop := Nz a0 → Nz a1 → Nz a2 → ∃ (v1 : Int) (μ1 : Mem), (fX11_mornings a0 a1 a2 μ = some v1 ∧ μ = μ1) ∧ ∃ (v2 : Int) (μ2 : Mem), (fX12_mornings a0 a1 a2 (LR 0 75 μ μ1) = some (v2, μ2)) ∧ w32 v1 = w32 v2 ∧ G (LR 75 96 (LR 0 75 μ μ1) μ2)
theorem lc_mornings {G : Mem → Prop} (hs : ∀ (a0 : Int) (a1 : Int) (a2 : Int), S_mornings G a0 a1 a2 μ) (hi : i + 7 ≤ L) (hb : L ≤ 3584) (hc : cells ≤ 601024 ∧ slots ≤ 7293034) (kk : ∀ μ2, G μ2 → Ev l D cy g (Kr 0 97) (yl nm) cL_law 7 ret room_1 (QL b L xs g) cells slots 97 false μ2 1463 [(0, Value.ref b), (1, vr g 0), (2, vr g 75), (3, vr g 96), (4, vi (i : Int))] []) : Ev l D cy g (Kr 0 97) (yl nm) cL_law 7 ret room_1 (QL b L xs g) cells slots 97 false μ 1336 [(0, Value.ref b), (1, vr g 0), (2, vr g 75), (3, vr g 96), (4, vi (i : Int))] [] := by
  refine ev_aload_n dL_law_1336 1 rfl ?_
  refine ev_aload_n dL_law_1337 0 rfl ?_
  refine ev_iload dL_law_1338 4 rfl ?_
  refine ev_iconst dL_law_1340 ?_
  refine ev_iadd dL_law_1341 ?_
  refine ev_sld (i + 1) dL_law_1342 (xi 1 (by omega) hb) (by omega) ?_
  refine ev_aload_n dL_law_1343 0 rfl ?_
  refine ev_iload dL_law_1344 4 rfl ?_
  refine ev_iconst dL_law_1346 ?_
  refine ev_iadd dL_law_1347 ?_
  refine ev_sld (i + 2) dL_law_1348 (xi 2 (by omega) hb) (by omega) ?_
  refine ev_aload_n dL_law_1349 0 rfl ?_
  refine ev_iload dL_law_1350 4 rfl ?_
  refine ev_iconst dL_law_1352 ?_
  refine ev_iadd dL_law_1353 ?_
  refine ev_sld (i + 3) dL_law_1354 (xi 3 (by omega) hb) (by omega) ?_
  obtain ⟨v1, μ1, hf1, v2, μ2, hf2, ho, hG⟩ := hs (XI xs (i + 1)) (XI xs (i + 2)) (XI xs (i + 3)) nzX nzX nzX
  obtain ⟨hf1, rfl⟩ := hf1
  refine ev_mem (LR_self (lo := 0) (hi := 75)) ?_
  refine cl_V1 (As := [vi (XI xs (i + 1)), vi (XI xs (i + 2)), vi (XI xs (i + 3))]) (st := []) miX11_mornings (tX11_mornings (sdR (N := μ) (by decide) (fun k hk => Kr_in2 (inR_w hk rfl rfl))) (CIn.w (lo := 0) (hi := 75) (fun k hk => hk) rfl rfl) (XI xs (i + 1)) (XI xs (i + 2)) (XI xs (i + 3)) μ (o := v1) hf1) dL_law_1355 lkL_207 inX11_mornings rfl (by decide) rfl ⟨rfl, rfl⟩ ⟨⟨Nat.le_of_ble_eq_true rfl, Nat.le_of_ble_eq_true rfl⟩, hc.1, hc.2⟩ (Nat.le_of_ble_eq_true rfl) ?_
  refine ev_aload_n dL_law_1358 2 rfl ?_
  refine ev_aload_n dL_law_1359 0 rfl ?_
  refine ev_iload dL_law_1360 4 rfl ?_
  refine ev_iconst dL_law_1362 ?_
  refine ev_iadd dL_law_1363 ?_
  refine ev_sld (i + 1) dL_law_1364 (xi 1 (by omega) hb) (by omega) ?_
  refine ev_aload_n dL_law_1365 0 rfl ?_
  refine ev_iload dL_law_1366 4 rfl ?_
  refine ev_iconst dL_law_1368 ?_
  refine ev_iadd dL_law_1369 ?_
  refine ev_sld (i + 2) dL_law_1370 (xi 2 (by omega) hb) (by omega) ?_
  refine ev_aload_n dL_law_1371 0 rfl ?_
  refine ev_iload dL_law_1372 4 rfl ?_
  refine ev_iconst dL_law_1374 ?_
  refine ev_iadd dL_law_1375 ?_
  refine ev_sld (i + 3) dL_law_1376 (xi 3 (by omega) hb) (by omega) ?_
  refine ev_mem (LR_self (lo := 75) (hi := 96)) ?_
  refine cl_V1 (As := [vi (XI xs (i + 1)), vi (XI xs (i + 2)), vi (XI xs (i + 3))]) (st := [vi v1]) miX12_mornings (tX12_mornings (sdR (N := (LR 0 75 μ μ)) (by decide) (fun k hk => Kr_in2 (inR_w hk rfl rfl))) (CIn.w (lo := 75) (hi := 96) (fun k hk => hk) rfl rfl) (XI xs (i + 1)) (XI xs (i + 2)) (XI xs (i + 3)) (LR 0 75 μ μ) (o := (v2, μ2)) hf2) dL_law_1377 lkL_211 inX12_mornings rfl (by decide) rfl ⟨rfl, rfl⟩ ⟨⟨Nat.le_of_ble_eq_true rfl, Nat.le_of_ble_eq_true rfl⟩, hc.1, hc.2⟩ (Nat.le_of_ble_eq_true rfl) ?_
  refine ev_icmp_eq 1463 dL_law_1380 (by decide) (fun _ => ?_) (fun h => absurd ho h)
  exact kk _ hG
def S_mark (G : Mem → Prop) (a0 : Int) (a1 : Bool) (μ : Mem) : Prop := Nz a0 → ∃ (v1 : Bool) (μ1 : Mem), (fX11_mark a0 a1 μ = some (v1, μ1)) ∧ ∃ (v2 : Bool) (μ2 : Mem), (fX12_mark a0 a1 (LR 0 75 μ μ1) = some (v2, μ2)) ∧ v1 = v2 ∧ G (LR 75 96 (LR 0 75 μ μ1) μ2)
theorem lc_mark {G : Mem → Prop} (hs : ∀ (a0 : Int) (a1 : Bool), S_mark G a0 a1 μ) (hi : i + 7 ≤ L) (hb : L ≤ 3584) (hc : cells ≤ 601024 ∧ slots ≤ 7293034) (kk : ∀ μ2, G μ2 → Ev l D cy g (Kr 0 97) (yl nm) cL_law 7 ret room_1 (QL b L xs g) cells slots 97 false μ2 1463 [(0, Value.ref b), (1, vr g 0), (2, vr g 75), (3, vr g 96), (4, vi (i : Int))] []) : Ev l D cy g (Kr 0 97) (yl nm) cL_law 7 ret room_1 (QL b L xs g) cells slots 97 false μ 1385 [(0, Value.ref b), (1, vr g 0), (2, vr g 75), (3, vr g 96), (4, vi (i : Int))] [] := by
  refine ev_aload_n dL_law_1385 1 rfl ?_
  refine ev_aload_n dL_law_1386 0 rfl ?_
  refine ev_iload dL_law_1387 4 rfl ?_
  refine ev_iconst dL_law_1389 ?_
  refine ev_iadd dL_law_1390 ?_
  refine ev_sld (i + 1) dL_law_1391 (xi 1 (by omega) hb) (by omega) ?_
  refine ev_aload_n dL_law_1392 0 rfl ?_
  refine ev_iload dL_law_1393 4 rfl ?_
  refine ev_iconst dL_law_1395 ?_
  refine ev_iadd dL_law_1396 ?_
  refine ev_sld (i + 2) dL_law_1397 (xi 2 (by omega) hb) (by omega) ?_
  refine ev_if_eq 1405 dL_law_1398 (by decide) (fun hb2 => ?_) (fun hb2 => ?_)
  · refine ev_iconst dL_law_1405 ?_
    obtain ⟨v1, μ1, hf1, v2, μ2, hf2, ho, hG⟩ := hs (XI xs (i + 1)) false nzX
    refine ev_mem (LR_self (lo := 0) (hi := 75)) ?_
    refine cl_V1 (As := [vi (XI xs (i + 1)), vb false]) (st := []) miX11_mark (tX11_mark (sdR (N := μ) (by decide) (fun k hk => Kr_in2 (inR_w hk rfl rfl))) (CIn.w (lo := 0) (hi := 75) (fun k hk => hk) rfl rfl) (XI xs (i + 1)) false μ (o := (v1, μ1)) hf1) dL_law_1406 lkL_212 inX11_mark rfl (by decide) rfl ⟨rfl, rfl⟩ ⟨⟨Nat.le_of_ble_eq_true rfl, Nat.le_of_ble_eq_true rfl⟩, hc.1, hc.2⟩ (Nat.le_of_ble_eq_true rfl) ?_
    refine ev_aload_n dL_law_1409 2 rfl ?_
    refine ev_aload_n dL_law_1410 0 rfl ?_
    refine ev_iload dL_law_1411 4 rfl ?_
    refine ev_iconst dL_law_1413 ?_
    refine ev_iadd dL_law_1414 ?_
    refine ev_sld (i + 1) dL_law_1415 (xi 1 (by omega) hb) (by omega) ?_
    refine ev_aload_n dL_law_1416 0 rfl ?_
    refine ev_iload dL_law_1417 4 rfl ?_
    refine ev_iconst dL_law_1419 ?_
    refine ev_iadd dL_law_1420 ?_
    refine ev_sld (i + 2) dL_law_1421 (xi 2 (by omega) hb) (by omega) ?_
    refine ev_if_eq 1429 dL_law_1422 (by decide) (fun _ => ?_) (fun h => absurd hb2 h)
    refine ev_iconst dL_law_1429 ?_
    refine ev_mem (LR_self (lo := 75) (hi := 96)) ?_
    refine cl_V1 (As := [vi (XI xs (i + 1)), vb false]) (st := [vb v1]) miX12_mark (tX12_mark (sdR (N := (LR 0 75 μ μ1)) (by decide) (fun k hk => Kr_in2 (inR_w hk rfl rfl))) (CIn.w (lo := 75) (hi := 96) (fun k hk => hk) rfl rfl) (XI xs (i + 1)) false (LR 0 75 μ μ1) (o := (v2, μ2)) hf2) dL_law_1430 lkL_215 inX12_mark rfl (by decide) rfl ⟨rfl, rfl⟩ ⟨⟨Nat.le_of_ble_eq_true rfl, Nat.le_of_ble_eq_true rfl⟩, hc.1, hc.2⟩ (Nat.le_of_ble_eq_true rfl) ?_
    refine ev_icmp_eq 1463 dL_law_1433 (by decide) (fun _ => ?_) (fun h => absurd (by rw [ho]) h)
    exact kk _ hG
  · refine ev_iconst dL_law_1401 ?_
    refine ev_goto 1406 dL_law_1402 (by decide) ?_
    obtain ⟨v1, μ1, hf1, v2, μ2, hf2, ho, hG⟩ := hs (XI xs (i + 1)) true nzX
    refine ev_mem (LR_self (lo := 0) (hi := 75)) ?_
    refine cl_V1 (As := [vi (XI xs (i + 1)), vb true]) (st := []) miX11_mark (tX11_mark (sdR (N := μ) (by decide) (fun k hk => Kr_in2 (inR_w hk rfl rfl))) (CIn.w (lo := 0) (hi := 75) (fun k hk => hk) rfl rfl) (XI xs (i + 1)) true μ (o := (v1, μ1)) hf1) dL_law_1406 lkL_212 inX11_mark rfl (by decide) rfl ⟨rfl, rfl⟩ ⟨⟨Nat.le_of_ble_eq_true rfl, Nat.le_of_ble_eq_true rfl⟩, hc.1, hc.2⟩ (Nat.le_of_ble_eq_true rfl) ?_
    refine ev_aload_n dL_law_1409 2 rfl ?_
    refine ev_aload_n dL_law_1410 0 rfl ?_
    refine ev_iload dL_law_1411 4 rfl ?_
    refine ev_iconst dL_law_1413 ?_
    refine ev_iadd dL_law_1414 ?_
    refine ev_sld (i + 1) dL_law_1415 (xi 1 (by omega) hb) (by omega) ?_
    refine ev_aload_n dL_law_1416 0 rfl ?_
    refine ev_iload dL_law_1417 4 rfl ?_
    refine ev_iconst dL_law_1419 ?_
    refine ev_iadd dL_law_1420 ?_
    refine ev_sld (i + 2) dL_law_1421 (xi 2 (by omega) hb) (by omega) ?_
    refine ev_if_eq 1429 dL_law_1422 (by decide) (fun h => absurd h hb2) (fun _ => ?_)
    refine ev_iconst dL_law_1425 ?_
    refine ev_goto 1430 dL_law_1426 (by decide) ?_
    refine ev_mem (LR_self (lo := 75) (hi := 96)) ?_
    refine cl_V1 (As := [vi (XI xs (i + 1)), vb true]) (st := [vb v1]) miX12_mark (tX12_mark (sdR (N := (LR 0 75 μ μ1)) (by decide) (fun k hk => Kr_in2 (inR_w hk rfl rfl))) (CIn.w (lo := 75) (hi := 96) (fun k hk => hk) rfl rfl) (XI xs (i + 1)) true (LR 0 75 μ μ1) (o := (v2, μ2)) hf2) dL_law_1430 lkL_215 inX12_mark rfl (by decide) rfl ⟨rfl, rfl⟩ ⟨⟨Nat.le_of_ble_eq_true rfl, Nat.le_of_ble_eq_true rfl⟩, hc.1, hc.2⟩ (Nat.le_of_ble_eq_true rfl) ?_
    refine ev_icmp_eq 1463 dL_law_1433 (by decide) (fun _ => ?_) (fun h => absurd (by rw [ho]) h)
    exact kk _ hG
def S_count (G : Mem → Prop) (a0 : Int) (μ : Mem) : Prop := Nz a0 → ∃ (v1 : Int) (μ1 : Mem), (fX11_count a0 μ = some v1 ∧ μ = μ1) ∧ ∃ (v2 : Int) (μ2 : Mem), (fX12_count a0 (LR 0 75 μ μ1) = some (v2, μ2)) ∧ w32 v1 = w32 v2 ∧ G (LR 75 96 (LR 0 75 μ μ1) μ2)
theorem lc_count {G : Mem → Prop} (hs : ∀ (a0 : Int), S_count G a0 μ) (hi : i + 7 ≤ L) (hb : L ≤ 3584) (hc : cells ≤ 601024 ∧ slots ≤ 7293034) (kk : ∀ μ2, G μ2 → Ev l D cy g (Kr 0 97) (yl nm) cL_law 7 ret room_1 (QL b L xs g) cells slots 97 false μ2 1463 [(0, Value.ref b), (1, vr g 0), (2, vr g 75), (3, vr g 96), (4, vi (i : Int))] []) : Ev l D cy g (Kr 0 97) (yl nm) cL_law 7 ret room_1 (QL b L xs g) cells slots 97 false μ 1438 [(0, Value.ref b), (1, vr g 0), (2, vr g 75), (3, vr g 96), (4, vi (i : Int))] [] := by
  refine ev_aload_n dL_law_1438 1 rfl ?_
  refine ev_aload_n dL_law_1439 0 rfl ?_
  refine ev_iload dL_law_1440 4 rfl ?_
  refine ev_iconst dL_law_1442 ?_
  refine ev_iadd dL_law_1443 ?_
  refine ev_sld (i + 1) dL_law_1444 (xi 1 (by omega) hb) (by omega) ?_
  obtain ⟨v1, μ1, hf1, v2, μ2, hf2, ho, hG⟩ := hs (XI xs (i + 1)) nzX
  obtain ⟨hf1, rfl⟩ := hf1
  refine ev_mem (LR_self (lo := 0) (hi := 75)) ?_
  refine cl_V1 (As := [vi (XI xs (i + 1))]) (st := []) miX11_count (tX11_count (sdR (N := μ) (by decide) (fun k hk => Kr_in2 (inR_w hk rfl rfl))) (CIn.w (lo := 0) (hi := 75) (fun k hk => hk) rfl rfl) (XI xs (i + 1)) μ (o := v1) hf1) dL_law_1445 lkL_216 inX11_count rfl (by decide) rfl ⟨rfl, rfl⟩ ⟨⟨Nat.le_of_ble_eq_true rfl, Nat.le_of_ble_eq_true rfl⟩, hc.1, hc.2⟩ (Nat.le_of_ble_eq_true rfl) ?_
  refine ev_aload_n dL_law_1448 2 rfl ?_
  refine ev_aload_n dL_law_1449 0 rfl ?_
  refine ev_iload dL_law_1450 4 rfl ?_
  refine ev_iconst dL_law_1452 ?_
  refine ev_iadd dL_law_1453 ?_
  refine ev_sld (i + 1) dL_law_1454 (xi 1 (by omega) hb) (by omega) ?_
  refine ev_mem (LR_self (lo := 75) (hi := 96)) ?_
  refine cl_V1 (As := [vi (XI xs (i + 1))]) (st := [vi v1]) miX12_count (tX12_count (sdR (N := (LR 0 75 μ μ)) (by decide) (fun k hk => Kr_in2 (inR_w hk rfl rfl))) (CIn.w (lo := 75) (hi := 96) (fun k hk => hk) rfl rfl) (XI xs (i + 1)) (LR 0 75 μ μ) (o := (v2, μ2)) hf2) dL_law_1455 lkL_219 inX12_count rfl (by decide) rfl ⟨rfl, rfl⟩ ⟨⟨Nat.le_of_ble_eq_true rfl, Nat.le_of_ble_eq_true rfl⟩, hc.1, hc.2⟩ (Nat.le_of_ble_eq_true rfl) ?_
  refine ev_icmp_eq 1463 dL_law_1458 (by decide) (fun _ => ?_) (fun h => absurd ho h)
  exact kk _ hG
end LAWC
