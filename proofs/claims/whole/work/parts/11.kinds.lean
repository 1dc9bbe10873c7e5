/-- a value is given a name -/
def lt {α : Type} {β : Type} (v : α) (f : α → β) : β := f v
theorem lt_elim {α : Type} {β : Type} {v : α} {f : α → β} {o : β} (h : lt v f = o) : ∃ w, w = v ∧ f w = o := ⟨v, rfl, h⟩
def FU : Nat := 1000000000
/-- again and again, till there is a result; so many times at most -/
def loopN {S : Type} {R : Type} (body : S → Option (S ⊕ R)) : Nat → S → Option R
  | 0, _ => none
  | n + 1, s => match body s with
    | none => none
    | some (.inl s2) => loopN body n s2
    | some (.inr r) => some r
theorem loop_ev {S : Type} {R : Type} {body : S → Option (S ⊕ R)} {H : S → Prop} {Hx : R → Prop} (hb : ∀ s o, body s = some o → Sum.elim H Hx o → H s) : ∀ (n : Nat) (s : S) (r : R), loopN body n s = some r → Hx r → H s
  | 0, s, r => fun h _ => by simp [loopN] at h
  | n + 1, s, r => fun h hr => by
    unfold loopN at h
    split at h
    · cases h
    · rename_i s2 he
      exact hb s _ he (loop_ev hb n s2 r h hr)
    · rename_i r2 he
      cases h
      exact hb s _ he hr
/-- the whole memory out of one side's: what the side may read and write lies in it as in its own -/
def Sd (M : Nat) (K : KT) (P : Nat → Prop) (L : Mem → Mem) : Prop :=
  (∀ k, P k → k < M) ∧ (∀ μ k, P k → L μ k = μ k) ∧ (∀ μ k i v, P k → L (upd2 μ k i v) = upd2 (L μ) k i v) ∧ (∀ μ k v, P k → L (fil2 μ k v) = fil2 (L μ) k v) ∧ (∀ k, P k → K k = Kf k)
section SDS
variable {M : Nat} {K : KT} {P : Nat → Prop} {L : Mem → Mem}
theorem Sd.lt (h : Sd M K P L) {k : Nat} (hk : P k) : k < M := h.1 k hk
theorem Sd.mem (h : Sd M K P L) {k : Nat} (μ : Mem) (hk : P k) : L μ k = μ k := h.2.1 μ k hk
theorem Sd.up (h : Sd M K P L) {μ μ2 : Mem} {k i : Nat} {v : Int} (hk : P k) (e : μ2 = upd2 μ k i v) : L μ2 = upd2 (L μ) k i v := by rw [e]; exact h.2.2.1 μ k i v hk
theorem Sd.fi (h : Sd M K P L) {μ μ2 : Mem} {k : Nat} {v : Int} (hk : P k) (e : μ2 = fil2 μ k v) : L μ2 = fil2 (L μ) k v := by rw [e]; exact h.2.2.2.1 μ k v hk
theorem Sd.K1 (h : Sd M K P L) {k j r : Nat} (hk : P k) (e : Kf k j = some r) : K k j = some r := by rw [h.2.2.2.2 k hk]; exact e
theorem Sd.K0 (h : Sd M K P L) {k j : Nat} (hk : P k) (e : Kf k j = none) : K k j = none := by rw [h.2.2.2.2 k hk]; exact e
end SDS
def inR (lo hi k : Nat) : Bool := Nat.ble lo k && Nat.blt k hi
theorem inR_iff {lo hi k : Nat} : inR lo hi k = true ↔ lo ≤ k ∧ k < hi := by
  simp [inR, Nat.blt, Nat.succ_le_iff]
theorem inR_w {lo hi lo2 hi2 k : Nat} (h : inR lo hi k = true) (h1 : Nat.ble lo2 lo = true) (h2 : Nat.ble hi hi2 = true) : inR lo2 hi2 k = true := by
  have := inR_iff.mp h
  have a := Nat.le_of_ble_eq_true h1
  have b := Nat.le_of_ble_eq_true h2
  exact inR_iff.mpr ⟨by omega, by omega⟩
abbrev CIn (P : Nat → Prop) (lo hi : Nat) : Prop := ∀ k, inR lo hi k = true → P k
theorem CIn.w {P : Nat → Prop} {lo hi lo2 hi2 : Nat} (h : CIn P lo hi) (h1 : Nat.ble lo lo2 = true) (h2 : Nat.ble hi2 hi = true) : CIn P lo2 hi2 := fun k hk => h k (inR_w hk h1 h2)
def isGr (k : Nat) : Prop := k = 5 ∨ k = 15
def isLw (k : Nat) : Prop := k = 9 ∨ k = 12 ∨ k = 19 ∨ k = 22
def isMo (k : Nat) : Prop := k = 41 ∨ k = 57 ∨ k = 59 ∨ k = 61 ∨ k = 63
def isSt (k : Nat) : Prop := k = 46 ∨ k = 49 ∨ k = 51 ∨ k = 65 ∨ k = 67 ∨ k = 69 ∨ k = 71 ∨ k = 73
def isCt (k : Nat) : Prop := k = 36 ∨ k = 37
def isWd (k : Nat) : Prop := 1000 ≤ k ∧ k < 1019
/-- a row of ints of the class -/
def isIA (k : Nat) : Prop := inR 1 75 k = true ∧ (sh k).1 = 1
def alen (k : Nat) : Nat := (sh k).2
theorem isIA.s {k : Nat} (h : isIA k) : sh k = (1, alen k) := by
  have := h.2
  unfold alen
  rw [← this]
theorem w32_nat_le (n : Nat) : w32 (n : Int) ≤ n := by
  unfold w32
  rw [Int32.toInt_ofInt]
  have h := @Int.bmod_le
  by_cases hn : (n : Int) < 2147483648
  · rw [Int.bmod_eq_of_le (by show -(4294967296 / 2) ≤ _; omega) (by show _ < (4294967296 + 1) / 2; omega)]; omega
  · have h2 := Int.bmod_lt (x := (n : Int)) (m := Int32.size) (by decide)
    have h3 : (((Int32.size : Nat) : Int) + 1) / 2 = 2147483648 := by decide
    omega
theorem s_Gr0 {k : Nat} (h : isGr k) : sh k = (0, 2) := by rcases h with rfl | rfl <;> rfl
theorem i_Gr0 {k : Nat} (h : isGr k) : inR 1 39 k = true := by rcases h with rfl | rfl <;> rfl
theorem s_Gr1 {k : Nat} (h : isGr k) : sh (k + 1) = (2, 5) := by rcases h with rfl | rfl <;> rfl
theorem i_Gr1 {k : Nat} (h : isGr k) : inR 1 39 (k + 1) = true := by rcases h with rfl | rfl <;> rfl
theorem s_Gr2 {k : Nat} (h : isGr k) : sh (k + 2) = (1, 5) := by rcases h with rfl | rfl <;> rfl
theorem i_Gr2 {k : Nat} (h : isGr k) : inR 1 39 (k + 2) = true := by rcases h with rfl | rfl <;> rfl
theorem s_Gr3 {k : Nat} (h : isGr k) : sh (k + 3) = (1, 5) := by rcases h with rfl | rfl <;> rfl
theorem i_Gr3 {k : Nat} (h : isGr k) : inR 1 39 (k + 3) = true := by rcases h with rfl | rfl <;> rfl
theorem s_Gr4 {k : Nat} (h : isGr k) : sh (k + 4) = (0, 3) := by rcases h with rfl | rfl <;> rfl
theorem i_Gr4 {k : Nat} (h : isGr k) : inR 1 39 (k + 4) = true := by rcases h with rfl | rfl <;> rfl
theorem s_Gr5 {k : Nat} (h : isGr k) : sh (k + 5) = (1, 1000) := by rcases h with rfl | rfl <;> rfl
theorem i_Gr5 {k : Nat} (h : isGr k) : inR 1 39 (k + 5) = true := by rcases h with rfl | rfl <;> rfl
theorem s_Gr6 {k : Nat} (h : isGr k) : sh (k + 6) = (1, 32) := by rcases h with rfl | rfl <;> rfl
theorem i_Gr6 {k : Nat} (h : isGr k) : inR 1 39 (k + 6) = true := by rcases h with rfl | rfl <;> rfl
theorem s_Gr7 {k : Nat} (h : isGr k) : sh (k + 7) = (0, 3) := by rcases h with rfl | rfl <;> rfl
theorem i_Gr7 {k : Nat} (h : isGr k) : inR 1 39 (k + 7) = true := by rcases h with rfl | rfl <;> rfl
theorem s_Gr8 {k : Nat} (h : isGr k) : sh (k + 8) = (1, 1000) := by rcases h with rfl | rfl <;> rfl
theorem i_Gr8 {k : Nat} (h : isGr k) : inR 1 39 (k + 8) = true := by rcases h with rfl | rfl <;> rfl
theorem s_Gr9 {k : Nat} (h : isGr k) : sh (k + 9) = (1, 32) := by rcases h with rfl | rfl <;> rfl
theorem i_Gr9 {k : Nat} (h : isGr k) : inR 1 39 (k + 9) = true := by rcases h with rfl | rfl <;> rfl
theorem K_Gr1 {k : Nat} (h : isGr k) : Kf k 1 = some (k + 1) := by rcases h with rfl | rfl <;> rfl
theorem K_Gr2 {k : Nat} (h : isGr k) : Kf k 2 = some (k + 2) := by rcases h with rfl | rfl <;> rfl
theorem K_Gr3 {k : Nat} (h : isGr k) : Kf k 3 = some (k + 3) := by rcases h with rfl | rfl <;> rfl
theorem K_Gr5 {k : Nat} (h : isGr k) : Kf k 5 = some (k + 4) := by rcases h with rfl | rfl <;> rfl
theorem K_Gr6 {k : Nat} (h : isGr k) : Kf k 6 = some (k + 7) := by rcases h with rfl | rfl <;> rfl
theorem s_Lw0 {k : Nat} (h : isLw k) : sh k = (0, 3) := by rcases h with rfl | rfl | rfl | rfl <;> rfl
theorem i_Lw0 {k : Nat} (h : isLw k) : inR 1 39 k = true := by rcases h with rfl | rfl | rfl | rfl <;> rfl
theorem s_Lw1 {k : Nat} (h : isLw k) : sh (k + 1) = (1, 1000) := by rcases h with rfl | rfl | rfl | rfl <;> rfl
theorem i_Lw1 {k : Nat} (h : isLw k) : inR 1 39 (k + 1) = true := by rcases h with rfl | rfl | rfl | rfl <;> rfl
theorem s_Lw2 {k : Nat} (h : isLw k) : sh (k + 2) = (1, 32) := by rcases h with rfl | rfl | rfl | rfl <;> rfl
theorem i_Lw2 {k : Nat} (h : isLw k) : inR 1 39 (k + 2) = true := by rcases h with rfl | rfl | rfl | rfl <;> rfl
theorem K_Lw1 {k : Nat} (h : isLw k) : Kf k 1 = some (k + 1) := by rcases h with rfl | rfl | rfl | rfl <;> rfl
theorem K_Lw2 {k : Nat} (h : isLw k) : Kf k 2 = some (k + 2) := by rcases h with rfl | rfl | rfl | rfl <;> rfl
theorem s_Mo0 {k : Nat} (h : isMo k) : sh k = (0, 5) := by rcases h with rfl | rfl | rfl | rfl | rfl <;> rfl
theorem i_Mo0 {k : Nat} (h : isMo k) : inR 1 75 k = true := by rcases h with rfl | rfl | rfl | rfl | rfl <;> rfl
theorem s_Mo1 {k : Nat} (h : isMo k) : sh (k + 1) = (1, 8) := by rcases h with rfl | rfl | rfl | rfl | rfl <;> rfl
theorem i_Mo1 {k : Nat} (h : isMo k) : inR 1 75 (k + 1) = true := by rcases h with rfl | rfl | rfl | rfl | rfl <;> rfl
theorem K_Mo5 {k : Nat} (h : isMo k) : Kf k 5 = some (k + 1) := by rcases h with rfl | rfl | rfl | rfl | rfl <;> rfl
theorem s_St0 {k : Nat} (h : isSt k) : sh k = (0, 8) := by rcases h with rfl | rfl | rfl | rfl | rfl | rfl | rfl | rfl <;> rfl
theorem i_St0 {k : Nat} (h : isSt k) : inR 1 75 k = true := by rcases h with rfl | rfl | rfl | rfl | rfl | rfl | rfl | rfl <;> rfl
theorem s_St1 {k : Nat} (h : isSt k) : sh (k + 1) = (1, 3840) := by rcases h with rfl | rfl | rfl | rfl | rfl | rfl | rfl | rfl <;> rfl
theorem i_St1 {k : Nat} (h : isSt k) : inR 1 75 (k + 1) = true := by rcases h with rfl | rfl | rfl | rfl | rfl | rfl | rfl | rfl <;> rfl
theorem K_St0 {k : Nat} (h : isSt k) : Kf k 0 = some 25 := by rcases h with rfl | rfl | rfl | rfl | rfl | rfl | rfl | rfl <;> rfl
theorem K_St3 {k : Nat} (h : isSt k) : Kf k 3 = some (k + 1) := by rcases h with rfl | rfl | rfl | rfl | rfl | rfl | rfl | rfl <;> rfl
theorem lw_Gr4 {k : Nat} (h : isGr k) : isLw (k + 4) := by rcases h with rfl | rfl <;> simp [isLw]
theorem lw_Gr7 {k : Nat} (h : isGr k) : isLw (k + 7) := by rcases h with rfl | rfl <;> simp [isLw]
theorem ia_Ct {k : Nat} (h : isCt k) : isIA k := by rcases h with rfl | rfl <;> exact ⟨rfl, rfl⟩
theorem s_Ct {k : Nat} (h : isCt k) : sh k = (1, 3840) := by rcases h with rfl | rfl <;> rfl
theorem i_Ct {k : Nat} (h : isCt k) : inR 1 39 k = true := by rcases h with rfl | rfl <;> rfl
theorem mo_m {i : Int} (h : 0 ≤ w32 i ∧ w32 i < 4) : Kf 43 (w32 i).toNat = some (57 + 2 * (w32 i).toNat) ∧ isMo (57 + 2 * (w32 i).toNat) := by
  obtain ⟨n, hn⟩ : ∃ n : Nat, w32 i = n := ⟨(w32 i).toNat, by omega⟩
  rw [hn, Int.toNat_natCast]
  match n, (show n < 4 by omega) with
  | 0, _ => exact ⟨rfl, by simp [isMo]⟩
  | 1, _ => exact ⟨rfl, by simp [isMo]⟩
  | 2, _ => exact ⟨rfl, by simp [isMo]⟩
  | 3, _ => exact ⟨rfl, by simp [isMo]⟩
theorem st_m {i : Int} (h : 0 ≤ w32 i ∧ w32 i < 5) : Kf 48 (w32 i).toNat = some (65 + 2 * (w32 i).toNat) ∧ isSt (65 + 2 * (w32 i).toNat) := by
  obtain ⟨n, hn⟩ : ∃ n : Nat, w32 i = n := ⟨(w32 i).toNat, by omega⟩
  rw [hn, Int.toNat_natCast]
  match n, (show n < 5 by omega) with
  | 0, _ => exact ⟨rfl, by simp [isSt]⟩
  | 1, _ => exact ⟨rfl, by simp [isSt]⟩
  | 2, _ => exact ⟨rfl, by simp [isSt]⟩
  | 3, _ => exact ⟨rfl, by simp [isSt]⟩
  | 4, _ => exact ⟨rfl, by simp [isSt]⟩
def PE (v0 : Option Value) (M0 : Nat) (x0 : Bool) (N0 : Mem) : Post := fun v M x N => v = v0 ∧ M = M0 ∧ x = x0 ∧ N = N0
section EVX
variable {l : Launch} {D : va_G} {cy : Nat → ClassId} {g : Nat → Nat} {K : KT} {y : MethodName} {cc : ByteArray} {nL : Nat} {rt : Option FieldType} {rm : Room} {Q : Qty} {cells slots M : Nat} {x : Bool} {N : Mem} {pc : Nat} {al : List (Nat × Value)} {st : List Value} {Φ : Post}
variable {y2 : MethodName} {cc2 : ByteArray} {nL2 n2 ix d2 : Nat} {rt2 : Option FieldType} {As : List Value} {N2 : Mem} {V : Value}
theorem cl_V1 {k ci : Nat} {q : vw_C} (mi : MI y2 cc2 nL2 rt2 n2) (hC : Cn l D cy g K K y2 cc2 nL2 rt2 (rmd d2 0 0) (vr g k :: As) M x N (PE (some V) M x N2)) (hd : decode cc pc = .ok (.invokevirtual ix, 3)) (hlk : Cond.methodLink y.cls ix y2 ∈ UW) (hin : Cond.instanceMethod y2 ∈ UW ∧ Cond.selects y2.cls y2 y2 ∈ UW) (hn : As.length = n2) (hM : k < M) (hs : sh k = (0, ci)) (hq : vwCl[ci]? = some q ∧ q.1 = y2.cls) (hrm : (d2 + 1 ≤ rm.frames ∧ 8 + (nL2 + 11) + 40 * d2 ≤ rm.locals) ∧ cells ≤ rm.cells ∧ slots ≤ rm.slots) (hst : (st.map fun v => v.category).sum ≤ 8) (kk : Ev l D cy g K y cc nL rt rm Q cells slots M x N2 (pc + 3) al (V :: st)) : Ev l D cy g K y cc nL rt rm Q cells slots M x N pc al (As.reverse ++ vr g k :: st) := by
  refine ev_callV mi hC hd hlk hin hn hM hs hq ⟨hrm.1, hrm.2⟩ hst (fun v M2 x2 N3 hp => ?_)
  obtain ⟨rfl, rfl, rfl, rfl⟩ := hp
  exact kk
theorem cl_V0 {k ci : Nat} {q : vw_C} (mi : MI y2 cc2 nL2 rt2 n2) (hC : Cn l D cy g K K y2 cc2 nL2 rt2 (rmd d2 0 0) (vr g k :: As) M x N (PE none M x N2)) (hd : decode cc pc = .ok (.invokevirtual ix, 3)) (hlk : Cond.methodLink y.cls ix y2 ∈ UW) (hin : Cond.instanceMethod y2 ∈ UW ∧ Cond.selects y2.cls y2 y2 ∈ UW) (hn : As.length = n2) (hM : k < M) (hs : sh k = (0, ci)) (hq : vwCl[ci]? = some q ∧ q.1 = y2.cls) (hrm : (d2 + 1 ≤ rm.frames ∧ 8 + (nL2 + 11) + 40 * d2 ≤ rm.locals) ∧ cells ≤ rm.cells ∧ slots ≤ rm.slots) (hst : (st.map fun v => v.category).sum ≤ 8) (kk : Ev l D cy g K y cc nL rt rm Q cells slots M x N2 (pc + 3) al (st)) : Ev l D cy g K y cc nL rt rm Q cells slots M x N pc al (As.reverse ++ vr g k :: st) := by
  refine ev_callV mi hC hd hlk hin hn hM hs hq ⟨hrm.1, hrm.2⟩ hst (fun v M2 x2 N3 hp => ?_)
  obtain ⟨rfl, rfl, rfl, rfl⟩ := hp
  exact kk
theorem cl_W1 {k : Nat} (mi : MI y2 cc2 nL2 rt2 n2) (hC : Cn l D cy g K K y2 cc2 nL2 rt2 (rmd d2 0 0) (vr g k :: As) M x N (PE (some V) M x N2)) (hd : decode cc pc = .ok (.invokevirtual ix, 3)) (hlk : Cond.methodLink y.cls ix y2 ∈ UW) (hin : Cond.instanceMethod y2 ∈ UW ∧ Cond.selects y2.cls y2 y2 ∈ UW) (hn : As.length = n2) (hk : 1000 ≤ k ∧ k < 1019) (hq : RX10 = y2.cls) (hrm : (d2 + 1 ≤ rm.frames ∧ 8 + (nL2 + 11) + 40 * d2 ≤ rm.locals) ∧ cells ≤ rm.cells ∧ slots ≤ rm.slots) (hst : (st.map fun v => v.category).sum ≤ 8) (kk : Ev l D cy g K y cc nL rt rm Q cells slots M x N2 (pc + 3) al (V :: st)) : Ev l D cy g K y cc nL rt rm Q cells slots M x N pc al (As.reverse ++ vr g k :: st) := by
  refine ev_callVW mi hC hd hlk hin hn hk hq ⟨hrm.1, hrm.2⟩ hst (fun v M2 x2 N3 hp => ?_)
  obtain ⟨rfl, rfl, rfl, rfl⟩ := hp
  exact kk
theorem cl_W0 {k : Nat} (mi : MI y2 cc2 nL2 rt2 n2) (hC : Cn l D cy g K K y2 cc2 nL2 rt2 (rmd d2 0 0) (vr g k :: As) M x N (PE none M x N2)) (hd : decode cc pc = .ok (.invokevirtual ix, 3)) (hlk : Cond.methodLink y.cls ix y2 ∈ UW) (hin : Cond.instanceMethod y2 ∈ UW ∧ Cond.selects y2.cls y2 y2 ∈ UW) (hn : As.length = n2) (hk : 1000 ≤ k ∧ k < 1019) (hq : RX10 = y2.cls) (hrm : (d2 + 1 ≤ rm.frames ∧ 8 + (nL2 + 11) + 40 * d2 ≤ rm.locals) ∧ cells ≤ rm.cells ∧ slots ≤ rm.slots) (hst : (st.map fun v => v.category).sum ≤ 8) (kk : Ev l D cy g K y cc nL rt rm Q cells slots M x N2 (pc + 3) al (st)) : Ev l D cy g K y cc nL rt rm Q cells slots M x N pc al (As.reverse ++ vr g k :: st) := by
  refine ev_callVW mi hC hd hlk hin hn hk hq ⟨hrm.1, hrm.2⟩ hst (fun v M2 x2 N3 hp => ?_)
  obtain ⟨rfl, rfl, rfl, rfl⟩ := hp
  exact kk
theorem cl_S1  (mi : MI y2 cc2 nL2 rt2 n2) (hC : Cn l D cy g K K y2 cc2 nL2 rt2 (rmd d2 0 0) As M x N (PE (some V) M x N2)) (hd : decode cc pc = .ok (.invokestatic ix, 3)) (hlk : Cond.methodLink y.cls ix y2 ∈ UW) (hin : Cond.static y2 ∈ UW) (hn : As.length = n2) (hrm : (d2 + 1 ≤ rm.frames ∧ 8 + (nL2 + 11) + 40 * d2 ≤ rm.locals) ∧ cells ≤ rm.cells ∧ slots ≤ rm.slots) (hst : (st.map fun v => v.category).sum ≤ 8) (kk : Ev l D cy g K y cc nL rt rm Q cells slots M x N2 (pc + 3) al (V :: st)) : Ev l D cy g K y cc nL rt rm Q cells slots M x N pc al (As.reverse ++ st) := by
  refine ev_callS mi hC hd hlk hin hn ⟨hrm.1, hrm.2⟩ hst (fun v M2 x2 N3 hp => ?_)
  obtain ⟨rfl, rfl, rfl, rfl⟩ := hp
  exact kk
theorem cl_S0  (mi : MI y2 cc2 nL2 rt2 n2) (hC : Cn l D cy g K K y2 cc2 nL2 rt2 (rmd d2 0 0) As M x N (PE none M x N2)) (hd : decode cc pc = .ok (.invokestatic ix, 3)) (hlk : Cond.methodLink y.cls ix y2 ∈ UW) (hin : Cond.static y2 ∈ UW) (hn : As.length = n2) (hrm : (d2 + 1 ≤ rm.frames ∧ 8 + (nL2 + 11) + 40 * d2 ≤ rm.locals) ∧ cells ≤ rm.cells ∧ slots ≤ rm.slots) (hst : (st.map fun v => v.category).sum ≤ 8) (kk : Ev l D cy g K y cc nL rt rm Q cells slots M x N2 (pc + 3) al (st)) : Ev l D cy g K y cc nL rt rm Q cells slots M x N pc al (As.reverse ++ st) := by
  refine ev_callS mi hC hd hlk hin hn ⟨hrm.1, hrm.2⟩ hst (fun v M2 x2 N3 hp => ?_)
  obtain ⟨rfl, rfl, rfl, rfl⟩ := hp
  exact kk
theorem cl_N1 {host : String} (mi : MI y2 cc2 nL2 rt2 n2) (hC : Cn l D cy g K K y2 cc2 nL2 rt2 (rmd d2 0 0) As M x N (PE (some V) M x N2)) (hd : decode cc pc = .ok (.invokestatic ix, 3)) (hlk : (y.cls, ix, y2, host) ∈ nestM) (hin : Cond.static y2 ∈ UW) (hn : As.length = n2) (hrm : (d2 + 1 ≤ rm.frames ∧ 8 + (nL2 + 11) + 40 * d2 ≤ rm.locals) ∧ cells ≤ rm.cells ∧ slots ≤ rm.slots) (hst : (st.map fun v => v.category).sum ≤ 8) (kk : Ev l D cy g K y cc nL rt rm Q cells slots M x N2 (pc + 3) al (V :: st)) : Ev l D cy g K y cc nL rt rm Q cells slots M x N pc al (As.reverse ++ st) := by
  refine ev_callSN mi hC hd hlk hin hn ⟨hrm.1, hrm.2⟩ hst (fun v M2 x2 N3 hp => ?_)
  obtain ⟨rfl, rfl, rfl, rfl⟩ := hp
  exact kk
theorem cl_N0 {host : String} (mi : MI y2 cc2 nL2 rt2 n2) (hC : Cn l D cy g K K y2 cc2 nL2 rt2 (rmd d2 0 0) As M x N (PE none M x N2)) (hd : decode cc pc = .ok (.invokestatic ix, 3)) (hlk : (y.cls, ix, y2, host) ∈ nestM) (hin : Cond.static y2 ∈ UW) (hn : As.length = n2) (hrm : (d2 + 1 ≤ rm.frames ∧ 8 + (nL2 + 11) + 40 * d2 ≤ rm.locals) ∧ cells ≤ rm.cells ∧ slots ≤ rm.slots) (hst : (st.map fun v => v.category).sum ≤ 8) (kk : Ev l D cy g K y cc nL rt rm Q cells slots M x N2 (pc + 3) al (st)) : Ev l D cy g K y cc nL rt rm Q cells slots M x N pc al (As.reverse ++ st) := by
  refine ev_callSN mi hC hd hlk hin hn ⟨hrm.1, hrm.2⟩ hst (fun v M2 x2 N3 hp => ?_)
  obtain ⟨rfl, rfl, rfl, rfl⟩ := hp
  exact kk
theorem ev_rn {v w : Value} (h : w = v) (kk : Ev l D cy g K y cc nL rt rm Q cells slots M x N pc al (w :: st)) : Ev l D cy g K y cc nL rt rm Q cells slots M x N pc al (v :: st) := by rw [← h]; exact kk
theorem ev_rni {a b : Int} (h : a = b) (kk : Ev l D cy g K y cc nL rt rm Q cells slots M x N pc al (vi a :: st)) : Ev l D cy g K y cc nL rt rm Q cells slots M x N pc al (vi b :: st) := by rw [← h]; exact kk
theorem ev_rnl {a b : Int} (h : a = b) (kk : Ev l D cy g K y cc nL rt rm Q cells slots M x N pc al (vl a :: st)) : Ev l D cy g K y cc nL rt rm Q cells slots M x N pc al (vl b :: st) := by rw [← h]; exact kk
theorem ev_rnb {a b : Bool} (h : a = b) (kk : Ev l D cy g K y cc nL rt rm Q cells slots M x N pc al (vb a :: st)) : Ev l D cy g K y cc nL rt rm Q cells slots M x N pc al (vb b :: st) := by rw [← h]; exact kk
end EVX
