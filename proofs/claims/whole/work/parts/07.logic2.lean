section EVR2
variable {l : Launch} {D : va_G} {cy : Nat → ClassId} {g : Nat → Nat} {K : KT} {y : MethodName} {cc : ByteArray} {nL : Nat} {rt : Option FieldType} {rm : Room} {Q : Qty} {cells slots M : Nat} {x : Bool} {N : Mem} {pc : Nat} {al : List (Nat × Value)} {st : List Value}
theorem not_lt32 {a b : Int} (h : Int32.ofInt b ≤ Int32.ofInt a) : ¬ w32 a < w32 b := by
  have := ofInt_le32.mp h; omega
theorem lt32_not {a b : Int} (h : ¬ Int32.ofInt b ≤ Int32.ofInt a) : w32 a < w32 b := by
  have h2 : ¬ w32 b ≤ w32 a := fun q => h (ofInt_le32.mpr q)
  omega
theorem not_le32 {a b : Int} (h : Int32.ofInt b < Int32.ofInt a) : ¬ w32 a ≤ w32 b := by
  have := ofInt_lt32.mp h; omega
theorem le32_not {a b : Int} (h : ¬ Int32.ofInt b < Int32.ofInt a) : w32 a ≤ w32 b := by
  have h2 : ¬ w32 b < w32 a := fun q => h (ofInt_lt32.mpr q)
  omega
theorem o0 : (0 : Int32) = Int32.ofInt 0 := rfl
theorem w32_0 : w32 0 = 0 := rfl
theorem ev_if_ne {a : Int} {off : Int} (tgt : Nat) (hd : decode cc pc = .ok (.ifCond .ne off, 3)) (ht : (pc : Int) + off = (tgt : Int)) (kt : ¬ w32 a = 0 → Ev l D cy g K y cc nL rt rm Q cells slots M x N tgt al st) (kf : w32 a = 0 → Ev l D cy g K y cc nL rt rm Q cells slots M x N (pc + 3) al st) : Ev l D cy g K y cc nL rt rm Q cells slots M x N pc al (vi a :: st) := by
  intro p e s m args below meth c H locs ls C hR hS hl
  exact lv_if_ne C.1 C.2.1 hd ht (fun h => kt (fun q => h (i0_eq.mpr q)) p e s m args below meth c H locs ls C hR hS hl) (fun h => kf (i0_eq.mp h) p e s m args below meth c H locs ls C hR hS hl)
theorem ev_if_ge {a : Int} {off : Int} (tgt : Nat) (hd : decode cc pc = .ok (.ifCond .ge off, 3)) (ht : (pc : Int) + off = (tgt : Int)) (kt : ¬ w32 a < 0 → Ev l D cy g K y cc nL rt rm Q cells slots M x N tgt al st) (kf : w32 a < 0 → Ev l D cy g K y cc nL rt rm Q cells slots M x N (pc + 3) al st) : Ev l D cy g K y cc nL rt rm Q cells slots M x N pc al (vi a :: st) := by
  intro p e s m args below meth c H locs ls C hR hS hl
  exact lv_if_ge C.1 C.2.1 hd ht (fun h => kt (not_lt32 (b := 0) h) p e s m args below meth c H locs ls C hR hS hl) (fun h => kf (lt32_not (b := 0) h) p e s m args below meth c H locs ls C hR hS hl)
theorem ev_if_gt {a : Int} {off : Int} (tgt : Nat) (hd : decode cc pc = .ok (.ifCond .gt off, 3)) (ht : (pc : Int) + off = (tgt : Int)) (kt : ¬ w32 a ≤ 0 → Ev l D cy g K y cc nL rt rm Q cells slots M x N tgt al st) (kf : w32 a ≤ 0 → Ev l D cy g K y cc nL rt rm Q cells slots M x N (pc + 3) al st) : Ev l D cy g K y cc nL rt rm Q cells slots M x N pc al (vi a :: st) := by
  intro p e s m args below meth c H locs ls C hR hS hl
  exact lv_if_gt C.1 C.2.1 hd ht (fun h => kt (not_le32 (b := 0) h) p e s m args below meth c H locs ls C hR hS hl) (fun h => kf (le32_not (b := 0) h) p e s m args below meth c H locs ls C hR hS hl)
theorem ev_icmp_ne {a b : Int} {off : Int} (tgt : Nat) (hd : decode cc pc = .ok (.if_icmp .ne off, 3)) (ht : (pc : Int) + off = (tgt : Int)) (kt : ¬ w32 a = w32 b → Ev l D cy g K y cc nL rt rm Q cells slots M x N tgt al st) (kf : w32 a = w32 b → Ev l D cy g K y cc nL rt rm Q cells slots M x N (pc + 3) al st) : Ev l D cy g K y cc nL rt rm Q cells slots M x N pc al (vi b :: vi a :: st) := by
  intro p e s m args below meth c H locs ls C hR hS hl
  exact lv_icmp_ne C.1 C.2.1 hd ht (fun h => kt (fun q => h (ofInt_inj32.mpr q)) p e s m args below meth c H locs ls C hR hS hl) (fun h => kf (ofInt_inj32.mp h) p e s m args below meth c H locs ls C hR hS hl)
theorem ev_icmp_ge {a b : Int} {off : Int} (tgt : Nat) (hd : decode cc pc = .ok (.if_icmp .ge off, 3)) (ht : (pc : Int) + off = (tgt : Int)) (kt : ¬ w32 a < w32 b → Ev l D cy g K y cc nL rt rm Q cells slots M x N tgt al st) (kf : w32 a < w32 b → Ev l D cy g K y cc nL rt rm Q cells slots M x N (pc + 3) al st) : Ev l D cy g K y cc nL rt rm Q cells slots M x N pc al (vi b :: vi a :: st) := by
  intro p e s m args below meth c H locs ls C hR hS hl
  exact lv_icmp_ge C.1 C.2.1 hd ht (fun h => kt (not_lt32 h) p e s m args below meth c H locs ls C hR hS hl) (fun h => kf (lt32_not h) p e s m args below meth c H locs ls C hR hS hl)
theorem ev_icmp_gt {a b : Int} {off : Int} (tgt : Nat) (hd : decode cc pc = .ok (.if_icmp .gt off, 3)) (ht : (pc : Int) + off = (tgt : Int)) (kt : ¬ w32 a ≤ w32 b → Ev l D cy g K y cc nL rt rm Q cells slots M x N tgt al st) (kf : w32 a ≤ w32 b → Ev l D cy g K y cc nL rt rm Q cells slots M x N (pc + 3) al st) : Ev l D cy g K y cc nL rt rm Q cells slots M x N pc al (vi b :: vi a :: st) := by
  intro p e s m args below meth c H locs ls C hR hS hl
  exact lv_icmp_gt C.1 C.2.1 hd ht (fun h => kt (not_le32 h) p e s m args below meth c H locs ls C hR hS hl) (fun h => kf (le32_not h) p e s m args below meth c H locs ls C hR hS hl)
theorem b2i_0 {b : Bool} : w32 (b2i b) = 0 ↔ ¬ b = true := by cases b <;> decide
theorem ev_ifb_eq {b : Bool} {off : Int} (tgt : Nat) (hd : decode cc pc = .ok (.ifCond .eq off, 3)) (ht : (pc : Int) + off = (tgt : Int)) (kt : ¬ b = true → Ev l D cy g K y cc nL rt rm Q cells slots M x N tgt al st) (kf : b = true → Ev l D cy g K y cc nL rt rm Q cells slots M x N (pc + 3) al st) : Ev l D cy g K y cc nL rt rm Q cells slots M x N pc al (vb b :: st) :=
  ev_if_eq tgt hd ht (fun h => kt (b2i_0.mp h)) (fun h => kf (by cases b <;> first | rfl | exact absurd rfl h))
theorem ev_ifb_ne {b : Bool} {off : Int} (tgt : Nat) (hd : decode cc pc = .ok (.ifCond .ne off, 3)) (ht : (pc : Int) + off = (tgt : Int)) (kt : b = true → Ev l D cy g K y cc nL rt rm Q cells slots M x N tgt al st) (kf : ¬ b = true → Ev l D cy g K y cc nL rt rm Q cells slots M x N (pc + 3) al st) : Ev l D cy g K y cc nL rt rm Q cells slots M x N pc al (vb b :: st) :=
  ev_if_ne tgt hd ht (fun h => kt (by cases b <;> first | rfl | exact absurd rfl h)) (fun h => kf (b2i_0.mp h))
theorem lg_lt {a b : Int} : w32 (lg_cmp (Int64.ofInt a) (Int64.ofInt b)).toInt < 0 ↔ w64 a < w64 b := by
  have h1 : (Int64.ofInt a > Int64.ofInt b) ↔ w64 b < w64 a := Int64.lt_iff_toInt_lt
  have h2 : (Int64.ofInt a = Int64.ofInt b) ↔ w64 a = w64 b := ofInt_inj64
  unfold lg_cmp
  by_cases h3 : Int64.ofInt a > Int64.ofInt b
  · rw [if_pos h3]; have := h1.mp h3; constructor
    · intro h; exact absurd h (by decide)
    · intro h; omega
  · rw [if_neg h3]
    by_cases h4 : Int64.ofInt a = Int64.ofInt b
    · rw [if_pos h4]; have := h2.mp h4; constructor
      · intro h; exact absurd h (by decide)
      · intro h; omega
    · rw [if_neg h4]; constructor
      · intro _
        have a1 : ¬ w64 b < w64 a := fun q => h3 (h1.mpr q)
        have a2 : ¬ w64 a = w64 b := fun q => h4 (h2.mpr q)
        omega
      · intro _; decide
theorem lg_eq {a b : Int} : w32 (lg_cmp (Int64.ofInt a) (Int64.ofInt b)).toInt = 0 ↔ w64 a = w64 b := by
  have h1 : (Int64.ofInt a > Int64.ofInt b) ↔ w64 b < w64 a := Int64.lt_iff_toInt_lt
  have h2 : (Int64.ofInt a = Int64.ofInt b) ↔ w64 a = w64 b := ofInt_inj64
  unfold lg_cmp
  by_cases h3 : Int64.ofInt a > Int64.ofInt b
  · rw [if_pos h3]; have := h1.mp h3; constructor
    · intro h; exact absurd h (by decide)
    · intro h; omega
  · rw [if_neg h3]
    by_cases h4 : Int64.ofInt a = Int64.ofInt b
    · rw [if_pos h4]; have := h2.mp h4; exact ⟨fun _ => this, fun _ => by decide⟩
    · rw [if_neg h4]; constructor
      · intro h; exact absurd h (by decide)
      · intro h; exact absurd (h2.mpr h) h4
theorem lg_le {a b : Int} : w32 (lg_cmp (Int64.ofInt a) (Int64.ofInt b)).toInt ≤ 0 ↔ w64 a ≤ w64 b := by
  have h1 := @lg_lt a b
  have h2 := @lg_eq a b
  omega
theorem ev_lcmp {a b : Int} (hd : decode cc pc = .ok (.lcmp, 1)) (kk : Ev l D cy g K y cc nL rt rm Q cells slots M x N (pc + 1) al (vi (lg_cmp (Int64.ofInt a) (Int64.ofInt b)).toInt :: st)) : Ev l D cy g K y cc nL rt rm Q cells slots M x N pc al (vl b :: vl a :: st) := by
  intro p e s m args below meth c H locs ls C hR hS hl
  have k2 := kk p e s m args below meth c H locs ls C hR hS hl
  unfold vi at k2
  rw [ii] at k2
  exact W.lcmp C.1 C.2.1 hd k2
theorem ev_lcmp_eq {a b : Int} {off : Int} (tgt : Nat) (hd0 : decode cc pc = .ok (.lcmp, 1)) (hd : decode cc (pc + 1) = .ok (.ifCond .eq off, 3)) (ht : ((pc + 1 : Nat) : Int) + off = (tgt : Int)) (kt : w64 a = w64 b → Ev l D cy g K y cc nL rt rm Q cells slots M x N tgt al st) (kf : ¬ w64 a = w64 b → Ev l D cy g K y cc nL rt rm Q cells slots M x N (pc + 1 + 3) al st) : Ev l D cy g K y cc nL rt rm Q cells slots M x N pc al (vl b :: vl a :: st) :=
  ev_lcmp hd0 (ev_if_eq tgt hd ht (fun h => kt (lg_eq.mp h)) (fun h => kf (fun q => h (lg_eq.mpr q))))
theorem ev_lcmp_ne {a b : Int} {off : Int} (tgt : Nat) (hd0 : decode cc pc = .ok (.lcmp, 1)) (hd : decode cc (pc + 1) = .ok (.ifCond .ne off, 3)) (ht : ((pc + 1 : Nat) : Int) + off = (tgt : Int)) (kt : ¬ w64 a = w64 b → Ev l D cy g K y cc nL rt rm Q cells slots M x N tgt al st) (kf : w64 a = w64 b → Ev l D cy g K y cc nL rt rm Q cells slots M x N (pc + 1 + 3) al st) : Ev l D cy g K y cc nL rt rm Q cells slots M x N pc al (vl b :: vl a :: st) :=
  ev_lcmp hd0 (ev_if_ne tgt hd ht (fun h => kt (fun q => h (lg_eq.mpr q))) (fun h => kf (lg_eq.mp h)))
theorem ev_lcmp_lt {a b : Int} {off : Int} (tgt : Nat) (hd0 : decode cc pc = .ok (.lcmp, 1)) (hd : decode cc (pc + 1) = .ok (.ifCond .lt off, 3)) (ht : ((pc + 1 : Nat) : Int) + off = (tgt : Int)) (kt : w64 a < w64 b → Ev l D cy g K y cc nL rt rm Q cells slots M x N tgt al st) (kf : ¬ w64 a < w64 b → Ev l D cy g K y cc nL rt rm Q cells slots M x N (pc + 1 + 3) al st) : Ev l D cy g K y cc nL rt rm Q cells slots M x N pc al (vl b :: vl a :: st) :=
  ev_lcmp hd0 (ev_if_lt tgt hd ht (fun h => kt (lg_lt.mp h)) (fun h => kf (fun q => h (lg_lt.mpr q))))
theorem ev_lcmp_ge {a b : Int} {off : Int} (tgt : Nat) (hd0 : decode cc pc = .ok (.lcmp, 1)) (hd : decode cc (pc + 1) = .ok (.ifCond .ge off, 3)) (ht : ((pc + 1 : Nat) : Int) + off = (tgt : Int)) (kt : ¬ w64 a < w64 b → Ev l D cy g K y cc nL rt rm Q cells slots M x N tgt al st) (kf : w64 a < w64 b → Ev l D cy g K y cc nL rt rm Q cells slots M x N (pc + 1 + 3) al st) : Ev l D cy g K y cc nL rt rm Q cells slots M x N pc al (vl b :: vl a :: st) :=
  ev_lcmp hd0 (ev_if_ge tgt hd ht (fun h => kt (fun q => h (lg_lt.mpr q))) (fun h => kf (lg_lt.mp h)))
theorem ev_lcmp_le {a b : Int} {off : Int} (tgt : Nat) (hd0 : decode cc pc = .ok (.lcmp, 1)) (hd : decode cc (pc + 1) = .ok (.ifCond .le off, 3)) (ht : ((pc + 1 : Nat) : Int) + off = (tgt : Int)) (kt : w64 a ≤ w64 b → Ev l D cy g K y cc nL rt rm Q cells slots M x N tgt al st) (kf : ¬ w64 a ≤ w64 b → Ev l D cy g K y cc nL rt rm Q cells slots M x N (pc + 1 + 3) al st) : Ev l D cy g K y cc nL rt rm Q cells slots M x N pc al (vl b :: vl a :: st) :=
  ev_lcmp hd0 (ev_if_le tgt hd ht (fun h => kt (lg_le.mp h)) (fun h => kf (fun q => h (lg_le.mpr q))))
theorem ev_lcmp_gt {a b : Int} {off : Int} (tgt : Nat) (hd0 : decode cc pc = .ok (.lcmp, 1)) (hd : decode cc (pc + 1) = .ok (.ifCond .gt off, 3)) (ht : ((pc + 1 : Nat) : Int) + off = (tgt : Int)) (kt : ¬ w64 a ≤ w64 b → Ev l D cy g K y cc nL rt rm Q cells slots M x N tgt al st) (kf : w64 a ≤ w64 b → Ev l D cy g K y cc nL rt rm Q cells slots M x N (pc + 1 + 3) al st) : Ev l D cy g K y cc nL rt rm Q cells slots M x N pc al (vl b :: vl a :: st) :=
  ev_lcmp hd0 (ev_if_gt tgt hd ht (fun h => kt (fun q => h (lg_le.mpr q))) (fun h => kf (lg_le.mp h)))
theorem ev_goto {off : Int} (tgt : Nat) (hd : decode cc pc = .ok (.goto off, 3)) (ht : (pc : Int) + off = (tgt : Int)) (kk : Ev l D cy g K y cc nL rt rm Q cells slots M x N tgt al st) : Ev l D cy g K y cc nL rt rm Q cells slots M x N pc al st := by
  intro p e s m args below meth c H locs ls C hR hS hl
  exact lv_goto C.1 C.2.1 hd ht (kk p e s m args below meth c H locs ls C hR hS hl)
theorem ev_tableOut {dflt lo hi : Int} {offs : Array Int} {len : Nat} {a : Int} (tgt : Nat) (hd : decode cc pc = .ok (.tableswitch dflt lo hi offs, len)) (h : w32 a < lo ∨ hi < w32 a) (ht : (pc : Int) + dflt = (tgt : Int)) (kk : Ev l D cy g K y cc nL rt rm Q cells slots M x N tgt al st) : Ev l D cy g K y cc nL rt rm Q cells slots M x N pc al (vi a :: st) := by
  intro p e s m args below meth c H locs ls C hR hS hl
  exact lv_tableOut C.1 C.2.1 hd h ht (kk p e s m args below meth c H locs ls C hR hS hl)
theorem ev_tableIn {dflt lo hi : Int} {offs : Array Int} {len : Nat} {a : Int} {off : Int} (tgt : Nat) (v : Int) (hd : decode cc pc = .ok (.tableswitch dflt lo hi offs, len)) (h : w32 a = v) (h1 : ¬ v < lo) (h2 : ¬ hi < v) (ho : offs[(v - lo).toNat]? = some off) (ht : (pc : Int) + off = (tgt : Int)) (kk : Ev l D cy g K y cc nL rt rm Q cells slots M x N tgt al st) : Ev l D cy g K y cc nL rt rm Q cells slots M x N pc al (vi a :: st) := by
  intro p e s m args below meth c H locs ls C hR hS hl
  subst h
  exact lv_tableIn C.1 C.2.1 hd h1 h2 ho ht (kk p e s m args below meth c H locs ls C hR hS hl)
theorem ev_lookup {dflt : Int} {ps : Array (Int × Int)} {len : Nat} {a : Int} {off : Int} (tgt : Nat) (hd : decode cc pc = .ok (.lookupswitch dflt ps, len)) (hp : (ps.toList.zip (ps.toList.drop 1)).all (fun (a, next) => a.1 < next.1) = true) (ho : Op.lookupswitch.offset ps.toList dflt (w32 a) = off) (ht : (pc : Int) + off = (tgt : Int)) (kk : Ev l D cy g K y cc nL rt rm Q cells slots M x N tgt al st) : Ev l D cy g K y cc nL rt rm Q cells slots M x N pc al (vi a :: st) := by
  intro p e s m args below meth c H locs ls C hR hS hl
  exact lv_lookup C.1 C.2.1 hd hp ho ht (kk p e s m args below meth c H locs ls C hR hS hl)
theorem ev_iald {i : Int} {k n : Nat} {mm : Nat → Int} (hd : decode cc pc = .ok (.iaload, 1)) (hM : k < M) (hs : sh k = (1, n)) (hm : N k = mm) (hi : 0 ≤ w32 i ∧ w32 i < n) (kk : Ev l D cy g K y cc nL rt rm Q cells slots M x N (pc + 1) al (vi (mm (w32 i).toNat) :: st)) : Ev l D cy g K y cc nL rt rm Q cells slots M x N pc al (vi i :: vr g k :: st) := by
  intro p e s m args below meth c H locs ls C hR hS hl
  subst hm
  have ha : (wl cy g K M N)[k]? = some (ad g k, .inl (cy 0, n, .inl (fun j => Int32.ofInt (N k j)))) := by rw [wl_get hM, hs]; rfl
  exact va_iald C.1 C.2.1 C.2.2.2.2.2.2.2.2.1 hR.1.2 k 0 ha rfl (inb_vp hi) hd (kk p e s m args below meth c H locs ls C hR hS hl)
theorem ev_lald {i : Int} {k n : Nat} {mm : Nat → Int} (hd : decode cc pc = .ok (.laload, 1)) (hM : k < M) (hs : sh k = (2, n)) (hm : N k = mm) (hi : 0 ≤ w32 i ∧ w32 i < n) (kk : Ev l D cy g K y cc nL rt rm Q cells slots M x N (pc + 1) al (vl (mm (w32 i).toNat) :: st)) : Ev l D cy g K y cc nL rt rm Q cells slots M x N pc al (vi i :: vr g k :: st) := by
  intro p e s m args below meth c H locs ls C hR hS hl
  subst hm
  have ha : (wl cy g K M N)[k]? = some (ad g k, .inl (cy 1, n, .inr (.inl (fun j => Int64.ofInt (N k j))))) := by rw [wl_get hM, hs]; rfl
  exact va_lald C.1 C.2.1 C.2.2.2.2.2.2.2.2.1 hR.1.2 k 1 ha rfl (inb_vp hi) hd (kk p e s m args below meth c H locs ls C hR hS hl)
theorem ev_cald {i : Int} {k n : Nat} {mm : Nat → Int} (hd : decode cc pc = .ok (.caload, 1)) (hM : k < M) (hs : sh k = (3, n)) (hm : N k = mm) (hi : 0 ≤ w32 i ∧ w32 i < n) (kk : Ev l D cy g K y cc nL rt rm Q cells slots M x N (pc + 1) al (vi (mm (w32 i).toNat % 65536) :: st)) : Ev l D cy g K y cc nL rt rm Q cells slots M x N pc al (vi i :: vr g k :: st) := by
  intro p e s m args below meth c H locs ls C hR hS hl
  subst hm
  have ha : (wl cy g K M N)[k]? = some (ad g k, .inl (cy 2, n, .inl (fun j => Int32.ofInt (N k j % 65536)))) := by rw [wl_get hM, hs]; rfl
  exact va_cald C.1 C.2.1 C.2.2.2.2.2.2.2.2.1 hR.1.2 k 2 ha rfl (inb_vp hi) hd (kk p e s m args below meth c H locs ls C hR hS hl)
theorem ev_zald {i : Int} {k n : Nat} {mm : Nat → Int} (hd : decode cc pc = .ok (.baload, 1)) (hM : k < M) (hs : sh k = (4, n)) (hm : N k = mm) (hi : 0 ≤ w32 i ∧ w32 i < n) (kk : Ev l D cy g K y cc nL rt rm Q cells slots M x N (pc + 1) al (vb (mm (w32 i).toNat != 0) :: st)) : Ev l D cy g K y cc nL rt rm Q cells slots M x N pc al (vi i :: vr g k :: st) := by
  intro p e s m args below meth c H locs ls C hR hS hl
  subst hm
  have ha : (wl cy g K M N)[k]? = some (ad g k, .inl (cy 3, n, .inl (fun j => Int32.ofInt (b2i (N k j != 0))))) := by rw [wl_get hM, hs]; rfl
  exact va_zald C.1 C.2.1 C.2.2.2.2.2.2.2.2.1 hR.1.2 k 3 ha rfl (inb_vp hi) hd (kk p e s m args below meth c H locs ls C hR hS hl)
theorem ev_alen {k n t : Nat} (hd : decode cc pc = .ok (.arraylength, 1)) (hM : k < M) (hs : sh k = (t, n)) (ht : 1 ≤ t ∧ t ≤ 4) (kk : Ev l D cy g K y cc nL rt rm Q cells slots M x N (pc + 1) al (vi (n : Int) :: st)) : Ev l D cy g K y cc nL rt rm Q cells slots M x N pc al (vr g k :: st) := by
  intro p e s m args below meth c H locs ls C hR hS hl
  have hv : Int32.ofNat n = Int32.ofInt (n : Int) := Int32.ofInt_eq_ofNat.symm
  rcases (show t = 1 ∨ t = 2 ∨ t = 3 ∨ t = 4 by omega) with rfl | rfl | rfl | rfl
  · exact va_alen C.1 C.2.1 C.2.2.2.2.2.2.2.2.1 hR.1.2 k 0 (x := (n, .inl (fun j => Int32.ofInt (N k j)))) (by rw [wl_get hM, hs]; rfl) rfl hv hd (kk p e s m args below meth c H locs ls C hR hS hl)
  · exact va_alen C.1 C.2.1 C.2.2.2.2.2.2.2.2.1 hR.1.2 k 1 (x := (n, .inr (.inl (fun j => Int64.ofInt (N k j))))) (by rw [wl_get hM, hs]; rfl) rfl hv hd (kk p e s m args below meth c H locs ls C hR hS hl)
  · exact va_alen C.1 C.2.1 C.2.2.2.2.2.2.2.2.1 hR.1.2 k 2 (x := (n, .inl (fun j => Int32.ofInt (N k j % 65536)))) (by rw [wl_get hM, hs]; rfl) rfl hv hd (kk p e s m args below meth c H locs ls C hR hS hl)
  · exact va_alen C.1 C.2.1 C.2.2.2.2.2.2.2.2.1 hR.1.2 k 3 (x := (n, .inl (fun j => Int32.ofInt (b2i (N k j != 0))))) (by rw [wl_get hM, hs]; rfl) rfl hv hd (kk p e s m args below meth c H locs ls C hR hS hl)
theorem ev_aaldM {i : Int} {k n r : Nat} (hd : decode cc pc = .ok (.aaload, 1)) (hM : k < M) (hs : sh k = (5, n)) (hi : 0 ≤ w32 i ∧ w32 i < n) (hK : K k (w32 i).toNat = some r) (kk : Ev l D cy g K y cc nL rt rm Q cells slots M x N (pc + 1) al (vr g r :: st)) : Ev l D cy g K y cc nL rt rm Q cells slots M x N pc al (vi i :: vr g k :: st) := by
  intro p e s m args below meth c H locs ls C hR hS hl
  have ha : (wl cy g K M N)[k]? = some (ad g k, .inl (cy 4, n, .inr (.inr (.inr (.inr (fun j => qv g (K k j) (N k j))))))) := by rw [wl_get hM, hs]; rfl
  refine va_aldq C.1 C.2.1 C.2.2.2.2.2.2.2.2.1 hR.1.2 k 4 ha (C := RX5) rfl (inb_vp hi) hd ?_
  have e1 : qv g (K k (Int32.ofInt i).toNatClampNeg) (N k (Int32.ofInt i).toNatClampNeg) = some (ad g r) := by
    have e2 : K k (Int32.ofInt i).toNatClampNeg = some r := hK
    rw [e2]; rfl
  rw [e1]
  exact kk p e s m args below meth c H locs ls C hR hS hl
theorem ev_alenM {k n : Nat} (hd : decode cc pc = .ok (.arraylength, 1)) (hM : k < M) (hs : sh k = (5, n)) (kk : Ev l D cy g K y cc nL rt rm Q cells slots M x N (pc + 1) al (vi (n : Int) :: st)) : Ev l D cy g K y cc nL rt rm Q cells slots M x N pc al (vr g k :: st) := by
  intro p e s m args below meth c H locs ls C hR hS hl
  exact va_alen C.1 C.2.1 C.2.2.2.2.2.2.2.2.1 hR.1.2 k 4 (x := (n, .inr (.inr (.inr (.inr (fun j => qv g (K k j) (N k j))))))) (by rw [wl_get hM, hs]; rfl) (ty := .object RX5) rfl Int32.ofInt_eq_ofNat.symm hd (kk p e s m args below meth c H locs ls C hR hS hl)
theorem ev_aaldS {i : Int} {k n r : Nat} (hd : decode cc pc = .ok (.aaload, 1)) (hM : k < M) (hs : sh k = (6, n)) (hi : 0 ≤ w32 i ∧ w32 i < n) (hK : K k (w32 i).toNat = some r) (kk : Ev l D cy g K y cc nL rt rm Q cells slots M x N (pc + 1) al (vr g r :: st)) : Ev l D cy g K y cc nL rt rm Q cells slots M x N pc al (vi i :: vr g k :: st) := by
  intro p e s m args below meth c H locs ls C hR hS hl
  have ha : (wl cy g K M N)[k]? = some (ad g k, .inl (cy 5, n, .inr (.inr (.inr (.inr (fun j => qv g (K k j) (N k j))))))) := by rw [wl_get hM, hs]; rfl
  refine va_aldq C.1 C.2.1 C.2.2.2.2.2.2.2.2.1 hR.1.2 k 5 ha (C := RX8) rfl (inb_vp hi) hd ?_
  have e1 : qv g (K k (Int32.ofInt i).toNatClampNeg) (N k (Int32.ofInt i).toNatClampNeg) = some (ad g r) := by
    have e2 : K k (Int32.ofInt i).toNatClampNeg = some r := hK
    rw [e2]; rfl
  rw [e1]
  exact kk p e s m args below meth c H locs ls C hR hS hl
theorem ev_alenS {k n : Nat} (hd : decode cc pc = .ok (.arraylength, 1)) (hM : k < M) (hs : sh k = (6, n)) (kk : Ev l D cy g K y cc nL rt rm Q cells slots M x N (pc + 1) al (vi (n : Int) :: st)) : Ev l D cy g K y cc nL rt rm Q cells slots M x N pc al (vr g k :: st) := by
  intro p e s m args below meth c H locs ls C hR hS hl
  exact va_alen C.1 C.2.1 C.2.2.2.2.2.2.2.2.1 hR.1.2 k 5 (x := (n, .inr (.inr (.inr (.inr (fun j => qv g (K k j) (N k j))))))) (by rw [wl_get hM, hs]; rfl) (ty := .object RX8) rfl Int32.ofInt_eq_ofNat.symm hd (kk p e s m args below meth c H locs ls C hR hS hl)
theorem i2c_eq (a : Int) : i_2c a = a % 65536 := by
  unfold i_2c
  have h1 : ((Int32.ofInt a).toUInt32 % 65536).toNat = (a % 65536).toNat := by
    rw [UInt32.toNat_mod]
    have e : (Int32.ofInt a).toUInt32.toNat = (a % 4294967296).toNat := by
      show (BitVec.ofInt 32 a).toNat = _
      rw [BitVec.toNat_ofInt]
      rfl
    rw [e]
    show (a % 4294967296).toNat % 65536 = _
    omega
  have h2 : ((Int32.ofInt a).toUInt32 % 65536).toInt32.toInt = (((Int32.ofInt a).toUInt32 % 65536).toNat : Int) := by
    show BitVec.toInt (((Int32.ofInt a).toUInt32 % 65536).toBitVec) = _
    rw [BitVec.toInt_eq_toNat_of_lt]
    · rfl
    · show 2 * ((Int32.ofInt a).toUInt32 % 65536).toNat < _
      rw [h1]; omega
  rw [h2, h1]; omega
theorem nar_c (a : Int) : vp_nar .char (Int32.ofInt a) = Int32.ofInt (a % 65536) := by
  have h : vp_nar .char (Int32.ofInt a) = ((Int32.ofInt a).toUInt32 % 65536).toInt32 := by
    first | rfl | (unfold vp_nar; simp [narrow])
  rw [h, ← i2c_eq]; unfold i_2c; rw [ii]
theorem nar_cv (a : Int) : narrow .char (.int (Int32.ofInt (a % 65536))) = .int (Int32.ofInt (a % 65536)) := by
  have h := nar_c (a % 65536)
  rw [Int.emod_emod_of_dvd a (by decide)] at h
  exact congrArg Value.int h
theorem nar_zv (b : Bool) : narrow .boolean (.int (Int32.ofInt (b2i b))) = .int (Int32.ofInt (b2i (b2i b != 0))) := by cases b <;> rfl
theorem nar_z (b : Bool) : vp_nar .boolean (Int32.ofInt (b2i b)) = Int32.ofInt (b2i b) := by cases b <;> rfl
/-- behind a write of one slot -/
theorem wrote {H H1 : Heap} {k i : Nat} {v : Int} {N2 : Mem} {Ev : va_E} (hM : k < M) (hR : Rq D cy g K M x N H) (hN : N2 = upd2 N k i v)
    (hE : Ev = cellE cy g (K k) (sh k).1 (sh k).2 (N2 k)) (hat : va_at D vwCl (ad g k, Ev) H1) (z : H1.size = H.size) (oq : ∀ q : Nat, q ≠ ad g k → H1[q]? = H[q]?) : Rq D cy g K M x N2 H1 := by
  have hD := wl_D (cy := cy) (K := K) (μ := N) hR.1.1 (g := g)
  have h1 := va_P.set hR.1.2 hD (wl_get hM) hat oq
  rw [wl_set hM hE (fun a ha => by rw [hN]; exact upd2_ne ha)] at h1
  exact ⟨⟨hR.1.1, h1⟩, fun h => z.trans (hR.2 h)⟩
theorem AA_ad {g : Nat → Nat} {k : Nat} (h : k < 1000) : AA g (ad g k) := by
  show g 0 ≤ ad g k
  rw [ad_lt h]; omega
theorem ev_iast {i : Int} {k n : Nat} {v : Int} {N2 : Mem} (hd : decode cc pc = .ok (.iastore, 1)) (hM : k < M) (hs : sh k = (1, n)) (hi : 0 ≤ w32 i ∧ w32 i < n) (hN : N2 = upd2 N k (w32 i).toNat v) (kk : Ev l D cy g K y cc nL rt rm Q cells slots M x N2 (pc + 1) al st) : Ev l D cy g K y cc nL rt rm Q cells slots M x N pc al (vi v :: vi i :: vr g k :: st) := by
  intro p e s m args below meth c H locs ls C hR hS hl
  have ha : (wl cy g K M N)[k]? = some (ad g k, .inl (cy 0, n, .inl (fun j => Int32.ofInt (N k j)))) := by rw [wl_get hM, hs]; rfl
  refine W.iast C.1 C.2.1 (hR.1.2 k _ ha) ((C.2.2.2.2.2.2.2.2.1.2 0 _ rfl).1 n (fun j => .int (Int32.ofInt (N k j)))) (fun q => by cases q) (by show ¬ (_ ∨ (arrV _ _ _).slots.size ≤ _); rw [arrV_size]; exact inb_vp hi) rfl rfl hd fun H1 e1 z oq => ?_
  refine kk p e s m args below meth c H1 _ ls C (wrote hM hR hN rfl ?_ z oq) (hS.put z oq (AA_ad (Nat.lt_of_lt_of_le hM hR.1.1))) hl
  show va_at D vwCl (ad g k, cellE cy g (K k) (sh k).1 (sh k).2 (N2 k)) H1
  rw [hs]
  show H1[ad g k]? = some (vp_cell (cy 0) (n, _))
  rw [e1]
  rw [vp_cell_i, vp_cell_i, arrV_store]
  congr 2
  funext q
  rw [hN, upd2_self]
  by_cases hq : q = (w32 i).toNat
  · subst hq
    rw [if_pos rfl]
    first | rfl | simp [updV, w32, Int32.toNatClampNeg]
  · have hq2 : ¬ q = (Int32.ofInt i).toNatClampNeg := hq
    simp [updV, hq, hq2]
theorem ev_last {i : Int} {k n : Nat} {v : Int} {N2 : Mem} (hd : decode cc pc = .ok (.lastore, 1)) (hM : k < M) (hs : sh k = (2, n)) (hi : 0 ≤ w32 i ∧ w32 i < n) (hN : N2 = upd2 N k (w32 i).toNat v) (kk : Ev l D cy g K y cc nL rt rm Q cells slots M x N2 (pc + 1) al st) : Ev l D cy g K y cc nL rt rm Q cells slots M x N pc al (vl v :: vi i :: vr g k :: st) := by
  intro p e s m args below meth c H locs ls C hR hS hl
  have ha : (wl cy g K M N)[k]? = some (ad g k, .inl (cy 1, n, .inr (.inl (fun j => Int64.ofInt (N k j))))) := by rw [wl_get hM, hs]; rfl
  refine W.last C.1 C.2.1 (hR.1.2 k _ ha) ((C.2.2.2.2.2.2.2.2.1.2 1 _ rfl).1 n (fun j => .long (Int64.ofInt (N k j)))) (fun q => by cases q) (by show ¬ (_ ∨ (arrV _ _ _).slots.size ≤ _); rw [arrV_size]; exact inb_vp hi) rfl rfl hd fun H1 e1 z oq => ?_
  refine kk p e s m args below meth c H1 _ ls C (wrote hM hR hN rfl ?_ z oq) (hS.put z oq (AA_ad (Nat.lt_of_lt_of_le hM hR.1.1))) hl
  show va_at D vwCl (ad g k, cellE cy g (K k) (sh k).1 (sh k).2 (N2 k)) H1
  rw [hs]
  show H1[ad g k]? = some (vp_cell (cy 1) (n, _))
  rw [e1]
  rw [vp_cell_l, vp_cell_l, arrV_store]
  congr 2
  funext q
  rw [hN, upd2_self]
  by_cases hq : q = (w32 i).toNat
  · subst hq
    rw [if_pos rfl]
    first | rfl | simp [updV, w32, Int32.toNatClampNeg]
  · have hq2 : ¬ q = (Int32.ofInt i).toNatClampNeg := hq
    simp [updV, hq, hq2]
theorem ev_cast {i : Int} {k n : Nat} {v : Int} {N2 : Mem} (hd : decode cc pc = .ok (.castore, 1)) (hM : k < M) (hs : sh k = (3, n)) (hi : 0 ≤ w32 i ∧ w32 i < n) (hN : N2 = upd2 N k (w32 i).toNat v) (kk : Ev l D cy g K y cc nL rt rm Q cells slots M x N2 (pc + 1) al st) : Ev l D cy g K y cc nL rt rm Q cells slots M x N pc al (vi (v % 65536) :: vi i :: vr g k :: st) := by
  intro p e s m args below meth c H locs ls C hR hS hl
  have ha : (wl cy g K M N)[k]? = some (ad g k, .inl (cy 2, n, .inl (fun j => Int32.ofInt (N k j % 65536)))) := by rw [wl_get hM, hs]; rfl
  refine W.cast C.1 C.2.1 (hR.1.2 k _ ha) ((C.2.2.2.2.2.2.2.2.1.2 2 _ rfl).1 n (fun j => .int (Int32.ofInt (N k j % 65536)))) (fun q => by cases q) (by show ¬ (_ ∨ (arrV _ _ _).slots.size ≤ _); rw [arrV_size]; exact inb_vp hi) rfl rfl hd fun H1 e1 z oq => ?_
  refine kk p e s m args below meth c H1 _ ls C (wrote hM hR hN rfl ?_ z oq) (hS.put z oq (AA_ad (Nat.lt_of_lt_of_le hM hR.1.1))) hl
  show va_at D vwCl (ad g k, cellE cy g (K k) (sh k).1 (sh k).2 (N2 k)) H1
  rw [hs]
  show H1[ad g k]? = some (vp_cell (cy 2) (n, _))
  rw [e1]
  rw [vp_cell_i, vp_cell_i, arrV_store]
  congr 2
  funext q
  rw [hN, upd2_self]
  by_cases hq : q = (w32 i).toNat
  · subst hq
    rw [if_pos rfl]
    simp [updV, w32, Int32.toNatClampNeg, nar_cv]
  · have hq2 : ¬ q = (Int32.ofInt i).toNatClampNeg := hq
    simp [updV, hq, hq2]
theorem ev_zast {i : Int} {k n : Nat} {b : Bool} {N2 : Mem} (hd : decode cc pc = .ok (.bastore, 1)) (hM : k < M) (hs : sh k = (4, n)) (hi : 0 ≤ w32 i ∧ w32 i < n) (hN : N2 = upd2 N k (w32 i).toNat (b2i b)) (kk : Ev l D cy g K y cc nL rt rm Q cells slots M x N2 (pc + 1) al st) : Ev l D cy g K y cc nL rt rm Q cells slots M x N pc al (vb b :: vi i :: vr g k :: st) := by
  intro p e s m args below meth c H locs ls C hR hS hl
  have ha : (wl cy g K M N)[k]? = some (ad g k, .inl (cy 3, n, .inl (fun j => Int32.ofInt (b2i (N k j != 0))))) := by rw [wl_get hM, hs]; rfl
  refine W.zast C.1 C.2.1 (hR.1.2 k _ ha) ((C.2.2.2.2.2.2.2.2.1.2 3 _ rfl).1 n (fun j => .int (Int32.ofInt (b2i (N k j != 0))))) (fun q => by cases q) (by show ¬ (_ ∨ (arrV _ _ _).slots.size ≤ _); rw [arrV_size]; exact inb_vp hi) rfl rfl hd fun H1 e1 z oq => ?_
  refine kk p e s m args below meth c H1 _ ls C (wrote hM hR hN rfl ?_ z oq) (hS.put z oq (AA_ad (Nat.lt_of_lt_of_le hM hR.1.1))) hl
  show va_at D vwCl (ad g k, cellE cy g (K k) (sh k).1 (sh k).2 (N2 k)) H1
  rw [hs]
  show H1[ad g k]? = some (vp_cell (cy 3) (n, _))
  rw [e1]
  rw [vp_cell_i, vp_cell_i, arrV_store]
  congr 2
  funext q
  rw [hN, upd2_self]
  by_cases hq : q = (w32 i).toNat
  · subst hq
    rw [if_pos rfl]
    simp [updV, w32, Int32.toNatClampNeg, nar_zv]
  · have hq2 : ¬ q = (Int32.ofInt i).toNatClampNeg := hq
    simp [updV, hq, hq2]
end EVR2
