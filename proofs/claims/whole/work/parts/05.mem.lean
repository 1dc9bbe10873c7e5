/-! ===== the plain memory: cells by number, slots by number, all contents whole numbers ===== -/
abbrev Mem : Type := Nat → Nat → Int
def w32 (x : Int) : Int := (Int32.ofInt x).toInt
def w64 (x : Int) : Int := (Int64.ofInt x).toInt
def b2i (b : Bool) : Int := if b = true then 1 else 0
def upd2 (μ : Mem) (k i : Nat) (v : Int) : Mem := fun a j => if a = k ∧ j = i then v else μ a j
def fil2 (μ : Mem) (k : Nat) (v : Int) : Mem := fun a j => if a = k then v else μ a j
abbrev vi (x : Int) : Value := .int (Int32.ofInt x)
abbrev vl (x : Int) : Value := .long (Int64.ofInt x)
abbrev vb (b : Bool) : Value := vi (b2i b)
/-- where a cell lies: those that are made by the law in a row, the old ones as they lie -/
def ad (g : Nat → Nat) (k : Nat) : Nat := if k < 1000 then g 0 + k else g (k - 999)
abbrev vr (g : Nat → Nat) (k : Nat) : Value := .ref (ad g k)
/-- a reference that may be null (less than 0) -/
def vq (g : Nat → Nat) (x : Int) : Value := if x < 0 then .null else vr g x.toNat
theorem w32_eq {x : Int} (h1 : -2147483648 ≤ x) (h2 : x < 2147483648) : w32 x = x := Int32.toInt_ofInt_of_le h1 h2
theorem w64_eq {x : Int} (h1 : -9223372036854775808 ≤ x) (h2 : x < 9223372036854775808) : w64 x = x := Int64.toInt_ofInt_of_le h1 h2
theorem w32_lo (x : Int) : -2147483648 ≤ w32 x := Int32.le_toInt _
theorem w32_hi (x : Int) : w32 x < 2147483648 := Int32.toInt_lt _
theorem w64_lo (x : Int) : -9223372036854775808 ≤ w64 x := Int64.le_toInt _
theorem w64_hi (x : Int) : w64 x < 9223372036854775808 := Int64.toInt_lt _
theorem vi_w32 (x : Int) : vi (w32 x) = vi x := congrArg Value.int (Int32.ofInt_toInt _)
theorem w32_w32 (x : Int) : w32 (w32 x) = w32 x := w32_eq (w32_lo x) (w32_hi x)
theorem w64_w64 (x : Int) : w64 (w64 x) = w64 x := w64_eq (w64_lo x) (w64_hi x)
theorem ofInt_inj32 {x y : Int} : Int32.ofInt x = Int32.ofInt y ↔ w32 x = w32 y := Int32.toInt_inj.symm
theorem ofInt_inj64 {x y : Int} : Int64.ofInt x = Int64.ofInt y ↔ w64 x = w64 y := Int64.toInt_inj.symm
theorem ofInt_lt32 {x y : Int} : Int32.ofInt x < Int32.ofInt y ↔ w32 x < w32 y := Int32.lt_iff_toInt_lt
theorem ofInt_le32 {x y : Int} : Int32.ofInt x ≤ Int32.ofInt y ↔ w32 x ≤ w32 y := Int32.le_iff_toInt_le
/-! what the machine's other steps do to whole numbers -/
def i_and (x y : Int) : Int := (Int32.ofInt x &&& Int32.ofInt y).toInt
def i_or (x y : Int) : Int := (Int32.ofInt x ||| Int32.ofInt y).toInt
def i_xor (x y : Int) : Int := (Int32.ofInt x ^^^ Int32.ofInt y).toInt
def i_shl (x y : Int) : Int := (Int32.ofInt x <<< (Int32.ofInt y &&& 31)).toInt
def i_shr (x y : Int) : Int := (Int32.ofInt x >>> (Int32.ofInt y &&& 31)).toInt
def i_ushr (x y : Int) : Int := ((Int32.ofInt x).toUInt32 >>> ((Int32.ofInt y).toUInt32 &&& 31)).toInt32.toInt
def i_div (x y : Int) : Int := (Int32.ofInt x / Int32.ofInt y).toInt
def i_rem (x y : Int) : Int := (Int32.ofInt x - Int32.ofInt x / Int32.ofInt y * Int32.ofInt y).toInt
def l_and (x y : Int) : Int := (Int64.ofInt x &&& Int64.ofInt y).toInt
def l_or (x y : Int) : Int := (Int64.ofInt x ||| Int64.ofInt y).toInt
def l_div (x y : Int) : Int := (Int64.ofInt x / Int64.ofInt y).toInt
def l_rem (x y : Int) : Int := (Int64.ofInt x - Int64.ofInt x / Int64.ofInt y * Int64.ofInt y).toInt
def l_shl (x y : Int) : Int := (Int64.ofInt x <<< ((Int32.ofInt y).toInt64 &&& 63)).toInt
def l_shr (x y : Int) : Int := (Int64.ofInt x >>> ((Int32.ofInt y).toInt64 &&& 63)).toInt
def l_ushr (x y : Int) : Int := ((Int64.ofInt x).toUInt64 >>> ((Int32.ofInt y).toInt64.toUInt64 &&& Int64.toUInt64 63)).toInt64.toInt
def i_2c (x : Int) : Int := ((Int32.ofInt x).toUInt32 % 65536).toInt32.toInt
def l_2i (x : Int) : Int := (Int64.ofInt x).toInt32.toInt
theorem ii (x : Int32) : Int32.ofInt x.toInt = x := Int32.ofInt_toInt x
theorem ll (x : Int64) : Int64.ofInt x.toInt = x := Int64.ofInt_toInt x
theorem i2l_v (x : Int) : (Int32.ofInt x).toInt64 = Int64.ofInt (w32 x) := (Int64.ofInt_int32ToInt (Int32.ofInt x)).symm
/-! ===== what the heap is, of a plain memory ===== -/
def sh (k : Nat) : Nat × Nat := shL.getD k (9, 0)
def ftyL (ci : Nat) : List Nat := ftL.getD ci []
def fty (ci j : Nat) : Nat := (ftyL ci).getD j 0
def Kf (k j : Nat) : Option Nat := (KL.getD k []).getD j none
def qv (g : Nat → Nat) (kk : Option Nat) (x : Int) : Option Nat := match kk with
  | some r => some (ad g r)
  | none => if x < 0 then none else some (ad g x.toNat)
def fval (g : Nat → Nat) (kk : Option Nat) (t : Nat) (x : Int) : Value :=
  if t = 0 then vi x else if t = 1 then vl x else if t = 2 then va_rf (qv g kk x) else if t = 3 then vb (x != 0) else vi (x % 65536)
def objE (g : Nat → Nat) (Kk : Nat → Option Nat) (ci : Nat) (m : Nat → Int) : List Value := (List.range (ftyL ci).length).map (fun j => fval g (Kk j) (fty ci j) (m j))
def cellE (cy : Nat → ClassId) (g : Nat → Nat) (Kk : Nat → Option Nat) (t n : Nat) (m : Nat → Int) : va_E :=
  if t = 0 then .inr (n, objE g Kk n m)
  else if t = 1 then .inl (cy 0, n, .inl (fun j => Int32.ofInt (m j)))
  else if t = 2 then .inl (cy 1, n, .inr (.inl (fun j => Int64.ofInt (m j))))
  else if t = 3 then .inl (cy 2, n, .inl (fun j => Int32.ofInt (m j % 65536)))
  else if t = 4 then .inl (cy 3, n, .inl (fun j => Int32.ofInt (b2i (m j != 0))))
  else if t = 5 then .inl (cy 4, n, .inr (.inr (.inr (.inr (fun j => qv g (Kk j) (m j))))))
  else .inl (cy 5, n, .inr (.inr (.inr (.inr (fun j => qv g (Kk j) (m j))))))
abbrev KT : Type := Nat → Nat → Option Nat
def wl (cy : Nat → ClassId) (g : Nat → Nat) (K : KT) (M : Nat) (μ : Mem) : va_W := (List.range M).map (fun k => (ad g k, cellE cy g (K k) (sh k).1 (sh k).2 (μ k)))
def AA (g : Nat → Nat) : Nat → Prop := fun q => g 0 ≤ q
def Rp (D : va_G) (cy : Nat → ClassId) (g : Nat → Nat) (K : KT) (M : Nat) (μ : Mem) (H : Heap) : Prop := M ≤ 1000 ∧ va_P D vwCl (wl cy g K M μ) H
def tysOf (cy : Nat → ClassId) : List (ClassId × FieldType) := [(cy 0, .int), (cy 1, .long), (cy 2, .char), (cy 3, .boolean), (cy 4, .object RX5), (cy 5, .object RX8)]
theorem ad_lt {g : Nat → Nat} {k : Nat} (h : k < 1000) : ad g k = g 0 + k := if_pos h
theorem wl_get {cy : Nat → ClassId} {g : Nat → Nat} {K : KT} {M : Nat} {μ : Mem} {k : Nat} (h : k < M) : (wl cy g K M μ)[k]? = some (ad g k, cellE cy g (K k) (sh k).1 (sh k).2 (μ k)) := by
  simp [wl, h]
theorem wl_D {cy : Nat → ClassId} {g : Nat → Nat} {K : KT} {M : Nat} {μ : Mem} (hM : M ≤ 1000) : va_D (AA g) (wl cy g K M μ) := by
  have key : ∀ (k : Nat) (q : Nat × va_E), (wl cy g K M μ)[k]? = some q → k < M ∧ q.1 = g 0 + k := by
    intro k q h
    have hk : k < M := by
      have := (List.getElem?_eq_some_iff.mp h).1
      simpa [wl] using this
    rw [wl_get hk] at h
    cases h
    exact ⟨hk, ad_lt (by omega)⟩
  refine ⟨fun i j p q hi hj e => ?_, fun k q h => ?_⟩
  · have h1 := (key i p hi).2
    have h2 := (key j q hj).2
    omega
  · show g 0 ≤ q.1
    have := (key k q h).2
    omega
theorem upd2_ne {μ : Mem} {k i a : Nat} {v : Int} (h : a ≠ k) : upd2 μ k i v a = μ a := by
  funext j
  simp [upd2, h]
theorem upd2_self {μ : Mem} {k i : Nat} {v : Int} (j : Nat) : upd2 μ k i v k j = if j = i then v else μ k j := by
  simp [upd2]
theorem fil2_ne {μ : Mem} {k a : Nat} {v : Int} (h : a ≠ k) : fil2 μ k v a = μ a := by
  funext j
  simp [fil2, h]
/-- a write of one slot: the list of cells behind it -/
theorem wl_set {cy : Nat → ClassId} {g : Nat → Nat} {K : KT} {M : Nat} {μ μ' : Mem} {k : Nat} {E : va_E} (hk : k < M) (hE : E = cellE cy g (K k) (sh k).1 (sh k).2 (μ' k)) (ho : ∀ a, a ≠ k → μ' a = μ a) : (wl cy g K M μ).set k (ad g k, E) = wl cy g K M μ' := by
  apply List.ext_getElem?
  intro j
  rw [List.getElem?_set]
  by_cases hj : k = j
  · subst hj
    rw [if_pos rfl, wl_get hk, hE]
    simp [wl, hk]
  · rw [if_neg hj]
    by_cases hjM : j < M
    · rw [wl_get hjM, wl_get hjM, ho j (fun e => hj e.symm)]
    · rw [List.getElem?_eq_none (by simp [wl]; omega), List.getElem?_eq_none (by simp [wl]; omega)]
theorem objE_get {g : Nat → Nat} {Kk : Nat → Option Nat} {ci : Nat} {m : Nat → Int} {j : Nat} (h : j < (ftyL ci).length) : (objE g Kk ci m)[j]? = some (fval g (Kk j) (fty ci j) (m j)) := by
  simp [objE, h]
theorem objE_set {g : Nat → Nat} {Kk : Nat → Option Nat} {ci : Nat} {m m' : Nat → Int} {j : Nat} {V : Value} (hV : V = fval g (Kk j) (fty ci j) (m' j)) (ho : ∀ a, a ≠ j → m' a = m a) : (objE g Kk ci m).set j V = objE g Kk ci m' := by
  apply List.ext_getElem?
  intro a
  rw [List.getElem?_set]
  by_cases ha : j = a
  · subst ha
    rw [if_pos rfl, hV]
    by_cases h : j < (ftyL ci).length
    · rw [objE_get h]; simp [objE, h]
    · rw [List.getElem?_eq_none (by simp [objE]; omega), if_neg (by simp [objE]; omega)]
  · rw [if_neg ha]
    by_cases h : a < (ftyL ci).length
    · rw [objE_get h, objE_get h, ho a (fun e => ha e.symm)]
    · rw [List.getElem?_eq_none (by simp [objE]; omega), List.getElem?_eq_none (by simp [objE]; omega)]
/-! ===== what is old, and never written ===== -/
abbrev dW : String := "LHotCakes$Word;"
def OldF (g : Nat → Nat) (U : State) (H : Heap) : Prop :=
  va_En RX10 dW wnm [] (fun i => ad g (1000 + i)) (AA g) U H ∧
  va_Ef 19 RX10 "letters" "J" (fun i => vl (wlet.getD i 0)) (fun i => ad g (1000 + i)) (AA g) U H ∧
  va_Ef 19 RX10 "mayName" "Z" (fun i => vi (wmay.getD i 0)) (fun i => ad g (1000 + i)) (AA g) U H ∧
  va_Ef 19 RX10 "sense" "I" (fun i => vi (wsen.getD i 0)) (fun i => ad g (1000 + i)) (AA g) U H ∧
  va_Z RX11 "FACTORIALS" "[I" (vr g 1020) (AA g) U H ∧ va_T .int (ad g 1020) 6 (fun i => vi (factL.getD i 0)) (AA g) U H ∧
  va_Z RX11 "WORDS" "[LHotCakes$Word;" (vr g 1021) (AA g) U H ∧ va_T (.object RX10) (ad g 1021) 19 (fun i => vr g (1000 + i)) (AA g) U H ∧
  vk_S 1 [8] [[40, 41, 60, 61, 43, 45, 42, 59]] (fun _ => ad g 1022) (fun _ => ad g 1023) (AA g) U H ∧
  va_Z "java/lang/String" "COMPACT_STRINGS" "Z" (vi 1) (AA g) U H ∧
  va_Zq "java/lang/Throwable" "UNASSIGNED_STACK" "[Ljava/lang/StackTraceElement;" (AA g) U H ∧
  va_Zq "java/lang/Throwable" "SUPPRESSED_SENTINEL" "Ljava/util/List;" (AA g) U H
theorem OldF.moved {g : Nat → Nat} {u U : State} {H : Heap} (hvm : u.vm.Alike U.vm) (h : OldF g u H) : OldF g U H := by
  obtain ⟨h1, h2, h3, h4, h5, h6, h7, h8, h9, h10, h11, h12⟩ := h
  exact ⟨h1.moved hvm, h2.moved hvm, h3.moved hvm, h4.moved hvm, h5.moved hvm, h6.moved hvm, h7.moved hvm, h8.moved hvm, h9.moved hvm, h10.moved hvm, h11.moved hvm, h12.moved hvm⟩
theorem OldF.kept {g : Nat → Nat} {U : State} {H H1 : Heap} (h : OldF g U H) (hq : ∀ a : Nat, a < H.size → ¬ AA g a → H1[a]? = H[a]?) : OldF g U H1 := by
  obtain ⟨h1, h2, h3, h4, h5, h6, h7, h8, h9, h10, h11, h12⟩ := h
  exact ⟨h1.kept hq, h2.kept hq, h3.kept hq, h4.kept hq, h5.kept hq, h6.kept hq, h7.kept hq, h8.kept hq, h9.kept hq, h10.kept hq, h11.kept hq, h12.kept hq⟩
/-! ===== what holds at each method's start, of tables and old things ===== -/
def Bs (D : va_G) (cy : Nat → ClassId) (g : Nat → Nat) (U : State) : Prop :=
  va_K D vwCl (tysOf cy) U ∧ (∀ q ∈ nestM, va_Nw (.methodLinkNest q.1 q.2.1 q.2.2.1 q.2.2.2) U) ∧ (∀ q ∈ nestF, va_Nw (.fieldLinkNest q.1 q.2.1 q.2.2.1 q.2.2.2.1 q.2.2.2.2.1 q.2.2.2.2.2) U) ∧
  va_AO RX5 U ∧ va_AO RX8 U ∧ vk_R RX9 67 "()<=+-*;" (ad g 1022) U ∧ OldF g U U.heap
theorem Bs.call {D : va_G} {cy : Nat → ClassId} {g : Nat → Nat} {s U : State} (h : Bs D cy g s) (hW : s.WarmedH U.vm) (hq : ∀ a : Nat, a < s.heap.size → ¬ AA g a → U.heap[a]? = s.heap[a]?) : Bs D cy g U := by
  obtain ⟨h1, h2, h3, h4, h5, h6, h7⟩ := h
  exact ⟨h1.moved hW.alike, fun q hq => va_Nw.warmM hW (h2 q hq), fun q hq => va_Nw.warmF hW (h3 q hq), h4.moved hW.alike, h5.moved hW.alike, h6.warm hW, (h7.moved hW.alike).kept hq⟩
theorem Bs.blind {D : va_G} {cy : Nat → ClassId} {g : Nat → Nat} {U : State} {f : JFrame} {mk : MethodId} {a : Array Value} (h : Bs D cy g U) : Bs D cy g (U.calling f mk a) := by
  obtain ⟨h1, h2, h3, h4, h5, h6, h7⟩ := h
  exact ⟨va_K.moved (Vm.Alike.refl U.vm) h1, fun q hq => va_Nw.same rfl rfl (h2 q hq), fun q hq => va_Nw.same rfl rfl (h3 q hq), va_AO.moved (Vm.Alike.refl U.vm) h4, va_AO.moved (Vm.Alike.refl U.vm) h5, vk_R.same rfl h6, OldF.moved (Vm.Alike.refl U.vm) h7⟩
