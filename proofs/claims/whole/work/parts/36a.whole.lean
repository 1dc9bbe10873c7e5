/-! ===== level 2: the whole memory ===== -/
/-- what the calls speak of -/
abbrev Pm : Type := (Nat) × (Nat) × (Nat) × (Nat) × (Nat → Nat) × (Nat → Nat) × (LawF) × (LawF) × (Nat) × (Int) × (Int) × (Nat) × (Nat → Nat) × (Nat → Nat) × (Nat → Int) × (Nat → Int) × (Nat → Int) × (Nat) × (Nat → Nat × Nat × Bool) × (Nat) × (Nat → Nat) × (Option Nat) × (Nat → Option (Nat × Int × Int × Nat × (Nat → Nat × Nat × Bool))) × (Nat) × (Nat → Nat) × (Nat → List Nat)
def Pm.of (n : Nat) (g : Nat) (told : Nat) (ups : Nat) (kd : Nat → Nat) (wd : Nat → Nat) (BE : LawF) (CE : LawF) (c : Nat) (t : Int) (s : Int) (D : Nat) (ms : Nat → Nat) (cs : Nat → Nat) (ps : Nat → Int) (ts : Nat → Int) (ss : Nat → Int) (q : Nat) (cl : Nat → Nat × Nat × Bool) (P : Nat) (pl : Nat → Nat) (w : Option Nat) (mk : Nat → Option (Nat × Int × Int × Nat × (Nat → Nat × Nat × Bool))) (L : Nat) (tx : Nat → Nat) (nm : Nat → List Nat) : Pm := (n, g, told, ups, kd, wd, BE, CE, c, t, s, D, ms, cs, ps, ts, ss, q, cl, P, pl, w, mk, L, tx, nm)
abbrev Pm.n (p : Pm) : Nat := p.1
abbrev Pm.g (p : Pm) : Nat := p.2.1
abbrev Pm.told (p : Pm) : Nat := p.2.2.1
abbrev Pm.ups (p : Pm) : Nat := p.2.2.2.1
abbrev Pm.kd (p : Pm) : Nat → Nat := p.2.2.2.2.1
abbrev Pm.wd (p : Pm) : Nat → Nat := p.2.2.2.2.2.1
abbrev Pm.BE (p : Pm) : LawF := p.2.2.2.2.2.2.1
abbrev Pm.CE (p : Pm) : LawF := p.2.2.2.2.2.2.2.1
abbrev Pm.c (p : Pm) : Nat := p.2.2.2.2.2.2.2.2.1
abbrev Pm.t (p : Pm) : Int := p.2.2.2.2.2.2.2.2.2.1
abbrev Pm.s (p : Pm) : Int := p.2.2.2.2.2.2.2.2.2.2.1
abbrev Pm.D (p : Pm) : Nat := p.2.2.2.2.2.2.2.2.2.2.2.1
abbrev Pm.ms (p : Pm) : Nat → Nat := p.2.2.2.2.2.2.2.2.2.2.2.2.1
abbrev Pm.cs (p : Pm) : Nat → Nat := p.2.2.2.2.2.2.2.2.2.2.2.2.2.1
abbrev Pm.ps (p : Pm) : Nat → Int := p.2.2.2.2.2.2.2.2.2.2.2.2.2.2.1
abbrev Pm.ts (p : Pm) : Nat → Int := p.2.2.2.2.2.2.2.2.2.2.2.2.2.2.2.1
abbrev Pm.ss (p : Pm) : Nat → Int := p.2.2.2.2.2.2.2.2.2.2.2.2.2.2.2.2.1
abbrev Pm.q (p : Pm) : Nat := p.2.2.2.2.2.2.2.2.2.2.2.2.2.2.2.2.2.1
abbrev Pm.cl (p : Pm) : Nat → Nat × Nat × Bool := p.2.2.2.2.2.2.2.2.2.2.2.2.2.2.2.2.2.2.1
abbrev Pm.P (p : Pm) : Nat := p.2.2.2.2.2.2.2.2.2.2.2.2.2.2.2.2.2.2.2.1
abbrev Pm.pl (p : Pm) : Nat → Nat := p.2.2.2.2.2.2.2.2.2.2.2.2.2.2.2.2.2.2.2.2.1
abbrev Pm.w (p : Pm) : Option Nat := p.2.2.2.2.2.2.2.2.2.2.2.2.2.2.2.2.2.2.2.2.2.1
abbrev Pm.mk (p : Pm) : Nat → Option (Nat × Int × Int × Nat × (Nat → Nat × Nat × Bool)) := p.2.2.2.2.2.2.2.2.2.2.2.2.2.2.2.2.2.2.2.2.2.2.1
abbrev Pm.L (p : Pm) : Nat := p.2.2.2.2.2.2.2.2.2.2.2.2.2.2.2.2.2.2.2.2.2.2.2.1
abbrev Pm.tx (p : Pm) : Nat → Nat := p.2.2.2.2.2.2.2.2.2.2.2.2.2.2.2.2.2.2.2.2.2.2.2.2.1
abbrev Pm.nm (p : Pm) : Nat → List Nat := p.2.2.2.2.2.2.2.2.2.2.2.2.2.2.2.2.2.2.2.2.2.2.2.2.2
abbrev Pm.N (p : Pm) : Nat := NN p.kd p.n
abbrev Pm.tn (p : Pm) : Nat → Nat → Nat := tnC p.kd p.n
abbrev Pm.op (p : Pm) : Nat → Nat → Bool := opC p.kd p.wd p.n p.BE
abbrev Pm.pr (p : Pm) : Nat → Nat → Nat := prC p.kd p.wd p.n p.CE
/-- the text -/
def TxC (L : Nat) (tx : Nat → Nat) (μ : Mem) : Prop := μ 1 1 = L ∧ ∀ i, i < L → μ 2 i = tx i
def TxR (L : Nat) (tx : Nat → Nat) (μ : Mem) : Prop := μ 75 2 = L ∧ ∀ i, i < L → μ 76 i = tx i
def TxO (L : Nat) (tx : Nat → Nat) : Prop := L ≤ 1000 ∧ ∀ i, i < L → tx i = 10 ∨ (32 ≤ tx i ∧ tx i ≤ 126)
/-- the wish -/
def WiC (w : Option Nat) (μ : Mem) : Prop := μ 0 6 = (match w with
  | none => -1
  | some t => (t : Int))
def WiR (kd : Nat → Nat) (n : Nat) (w : Option Nat) (μ : Mem) : Prop := match w with
  | none => μ 75 16 = 0
  | some t => μ 75 16 = 1 ∧ Wi kd n t μ
/-- the names -/
def NmC (told n : Nat) (nm : Nat → List Nat) (μ : Mem) : Prop := ∀ k, k < n → μ (told + 1) k = (pkW 32 (nm k) : Int)
def NmR (n : Nat) (nm : Nat → List Nat) (μ : Mem) : Prop := ∀ k, k < n → μ 83 k = (pkW 37 (nm k) : Int)
def NmO (n : Nat) (nm : Nat → List Nat) : Prop := (∀ k, k < n → WdO (nm k)) ∧ ∀ i j, i < n → j < n → nm i = nm j → i = j
/-- what a law is that isn't told -/
def Df0 (μ : Mem) : Prop := μ 9 0 = 0 ∧ μ 12 0 = 1 ∧ μ 19 0 = 0 ∧ μ 22 0 = 1
/-- a mark -/
def MkC (m : Nat) (o : Option (Nat × Int × Int × Nat × (Nat → Nat × Nat × Bool))) (μ : Mem) : Prop := match o with
  | none => μ (57 + 2 * m) 0 = 0
  | some (c, t, s, q, cl) => μ (57 + 2 * m) 0 = 1 ∧ MC (57 + 2 * m) c t s q cl μ
def MkR (kd : Nat → Nat) (n m : Nat) (o : Option (Nat × Int × Int × Nat × (Nat → Nat × Nat × Bool))) (μ : Mem) : Prop := match o with
  | none => μ 89 m = 0
  | some (c, t, s, q, cl) => μ 89 m = 1 ∧ MR kd n (28 * (1 + m)) c t s q cl μ
def MkO (N n : Nat) (o : Option (Nat × Int × Int × Nat × (Nat → Nat × Nat × Bool))) : Prop := match o with
  | none => True
  | some (c, _, _, q, cl) => c < N ∧ SO n q cl
/-- what stays between the calls -/
def Core (p : Pm) (μ : Mem) : Prop := (Gc p.told p.n p.kd p.wd μ) ∧ (Tb p.kd p.wd p.n p.BE p.CE μ) ∧ (μ 25 4 = p.g) ∧ (μ 0 2 = p.told) ∧ (μ 0 3 = ((20 - p.told : Nat) : Int)) ∧ (μ p.told 4 = p.ups) ∧ (p.ups < 1000000) ∧ (Rr p.kd p.wd p.n p.BE p.CE p.g μ) ∧ (μ 75 22 = nu p.kd p.n (tdN p.kd p.n p.ups)) ∧ (p.c < p.N) ∧ (PA p.n p.N p.tn p.c p.t p.s p.D p.ms p.cs p.ps p.ts p.ss) ∧ (PC p.c p.t p.s p.D p.ms p.ps μ) ∧ (PR p.kd p.n p.c p.t p.s p.D p.cs p.ts p.ss μ) ∧ (SC 41 p.q p.cl μ) ∧ (SR 0 p.q p.cl μ) ∧ (SO p.n p.q p.cl) ∧ (PO p.n p.P p.pl) ∧ (PLc p.P p.pl μ) ∧ (PLr p.P p.pl μ) ∧ (WiC p.w μ) ∧ (WiR p.kd p.n p.w μ) ∧ (∀ t, p.w = some t → t < p.N) ∧ (∀ m, m < 4 → MkC m (p.mk m) μ) ∧ (∀ m, m < 4 → MkR p.kd p.n m (p.mk m) μ) ∧ (∀ m, m < 4 → MkO p.N p.n (p.mk m)) ∧ (TxC p.L p.tx μ) ∧ (TxR p.L p.tx μ) ∧ (TxO p.L p.tx) ∧ (NmC p.told p.n p.nm μ) ∧ (NmR p.n p.nm μ) ∧ (NmO p.n p.nm) ∧ (W80 μ) ∧ (Df0 μ)
theorem Core.gc {p : Pm} {μ : Mem} (h : Core p μ) : Gc p.told p.n p.kd p.wd μ := h.1
theorem Core.tb {p : Pm} {μ : Mem} (h : Core p μ) : Tb p.kd p.wd p.n p.BE p.CE μ := h.2.1
theorem Core.g4 {p : Pm} {μ : Mem} (h : Core p μ) : μ 25 4 = p.g := h.2.2.1
theorem Core.o2 {p : Pm} {μ : Mem} (h : Core p μ) : μ 0 2 = p.told := h.2.2.2.1
theorem Core.o3 {p : Pm} {μ : Mem} (h : Core p μ) : μ 0 3 = ((20 - p.told : Nat) : Int) := h.2.2.2.2.1
theorem Core.up {p : Pm} {μ : Mem} (h : Core p μ) : μ p.told 4 = p.ups := h.2.2.2.2.2.1
theorem Core.ub {p : Pm} {μ : Mem} (h : Core p μ) : p.ups < 1000000 := h.2.2.2.2.2.2.1
theorem Core.rr {p : Pm} {μ : Mem} (h : Core p μ) : Rr p.kd p.wd p.n p.BE p.CE p.g μ := h.2.2.2.2.2.2.2.1
theorem Core.d22 {p : Pm} {μ : Mem} (h : Core p μ) : μ 75 22 = nu p.kd p.n (tdN p.kd p.n p.ups) := h.2.2.2.2.2.2.2.2.1
theorem Core.cN {p : Pm} {μ : Mem} (h : Core p μ) : p.c < p.N := h.2.2.2.2.2.2.2.2.2.1
theorem Core.pa {p : Pm} {μ : Mem} (h : Core p μ) : PA p.n p.N p.tn p.c p.t p.s p.D p.ms p.cs p.ps p.ts p.ss := h.2.2.2.2.2.2.2.2.2.2.1
theorem Core.pc {p : Pm} {μ : Mem} (h : Core p μ) : PC p.c p.t p.s p.D p.ms p.ps μ := h.2.2.2.2.2.2.2.2.2.2.2.1
theorem Core.pR {p : Pm} {μ : Mem} (h : Core p μ) : PR p.kd p.n p.c p.t p.s p.D p.cs p.ts p.ss μ := h.2.2.2.2.2.2.2.2.2.2.2.2.1
theorem Core.sc {p : Pm} {μ : Mem} (h : Core p μ) : SC 41 p.q p.cl μ := h.2.2.2.2.2.2.2.2.2.2.2.2.2.1
theorem Core.sr {p : Pm} {μ : Mem} (h : Core p μ) : SR 0 p.q p.cl μ := h.2.2.2.2.2.2.2.2.2.2.2.2.2.2.1
theorem Core.so {p : Pm} {μ : Mem} (h : Core p μ) : SO p.n p.q p.cl := h.2.2.2.2.2.2.2.2.2.2.2.2.2.2.2.1
theorem Core.po {p : Pm} {μ : Mem} (h : Core p μ) : PO p.n p.P p.pl := h.2.2.2.2.2.2.2.2.2.2.2.2.2.2.2.2.1
theorem Core.plc {p : Pm} {μ : Mem} (h : Core p μ) : PLc p.P p.pl μ := h.2.2.2.2.2.2.2.2.2.2.2.2.2.2.2.2.2.1
theorem Core.plr {p : Pm} {μ : Mem} (h : Core p μ) : PLr p.P p.pl μ := h.2.2.2.2.2.2.2.2.2.2.2.2.2.2.2.2.2.2.1
theorem Core.wc {p : Pm} {μ : Mem} (h : Core p μ) : WiC p.w μ := h.2.2.2.2.2.2.2.2.2.2.2.2.2.2.2.2.2.2.2.1
theorem Core.wr {p : Pm} {μ : Mem} (h : Core p μ) : WiR p.kd p.n p.w μ := h.2.2.2.2.2.2.2.2.2.2.2.2.2.2.2.2.2.2.2.2.1
theorem Core.wo {p : Pm} {μ : Mem} (h : Core p μ) : ∀ t, p.w = some t → t < p.N := h.2.2.2.2.2.2.2.2.2.2.2.2.2.2.2.2.2.2.2.2.2.1
theorem Core.mc {p : Pm} {μ : Mem} (h : Core p μ) : ∀ m, m < 4 → MkC m (p.mk m) μ := h.2.2.2.2.2.2.2.2.2.2.2.2.2.2.2.2.2.2.2.2.2.2.1
theorem Core.mr {p : Pm} {μ : Mem} (h : Core p μ) : ∀ m, m < 4 → MkR p.kd p.n m (p.mk m) μ := h.2.2.2.2.2.2.2.2.2.2.2.2.2.2.2.2.2.2.2.2.2.2.2.1
theorem Core.mo {p : Pm} {μ : Mem} (h : Core p μ) : ∀ m, m < 4 → MkO p.N p.n (p.mk m) := h.2.2.2.2.2.2.2.2.2.2.2.2.2.2.2.2.2.2.2.2.2.2.2.2.1
theorem Core.tc {p : Pm} {μ : Mem} (h : Core p μ) : TxC p.L p.tx μ := h.2.2.2.2.2.2.2.2.2.2.2.2.2.2.2.2.2.2.2.2.2.2.2.2.2.1
theorem Core.tr {p : Pm} {μ : Mem} (h : Core p μ) : TxR p.L p.tx μ := h.2.2.2.2.2.2.2.2.2.2.2.2.2.2.2.2.2.2.2.2.2.2.2.2.2.2.1
theorem Core.to {p : Pm} {μ : Mem} (h : Core p μ) : TxO p.L p.tx := h.2.2.2.2.2.2.2.2.2.2.2.2.2.2.2.2.2.2.2.2.2.2.2.2.2.2.2.1
theorem Core.nc {p : Pm} {μ : Mem} (h : Core p μ) : NmC p.told p.n p.nm μ := h.2.2.2.2.2.2.2.2.2.2.2.2.2.2.2.2.2.2.2.2.2.2.2.2.2.2.2.2.1
theorem Core.nr {p : Pm} {μ : Mem} (h : Core p μ) : NmR p.n p.nm μ := h.2.2.2.2.2.2.2.2.2.2.2.2.2.2.2.2.2.2.2.2.2.2.2.2.2.2.2.2.2.1
theorem Core.no {p : Pm} {μ : Mem} (h : Core p μ) : NmO p.n p.nm := h.2.2.2.2.2.2.2.2.2.2.2.2.2.2.2.2.2.2.2.2.2.2.2.2.2.2.2.2.2.2.1
theorem Core.w8 {p : Pm} {μ : Mem} (h : Core p μ) : W80 μ := h.2.2.2.2.2.2.2.2.2.2.2.2.2.2.2.2.2.2.2.2.2.2.2.2.2.2.2.2.2.2.2.1
theorem Core.df {p : Pm} {μ : Mem} (h : Core p μ) : Df0 μ := h.2.2.2.2.2.2.2.2.2.2.2.2.2.2.2.2.2.2.2.2.2.2.2.2.2.2.2.2.2.2.2.2
/-- the cells of Core in the class and in the reference; slots of 0, 25, 41 and 75 -/
def Qc (μ ν : Mem) : Prop := (∀ x, (x < 25 ∨ x = 26 ∨ (28 ≤ x ∧ x ≤ 34) ∨ (39 ≤ x ∧ x ≤ 45) ∨ x = 48 ∨ (57 ≤ x ∧ x ≤ 64) ∨ 75 ≤ x) → ν x = μ x) ∧ ∀ j, j ≠ 15 → j ≠ 16 → ν 25 j = μ 25 j
def Qr (μ ν : Mem) : Prop := (∀ x, (x < 75 ∨ (76 ≤ x ∧ x ≤ 85) ∨ x = 88 ∨ x = 89 ∨ 96 ≤ x) → ν x = μ x) ∧ ∀ j, j ≠ 0 → j ≠ 26 → j ≠ 30 → ν 75 j = μ 75 j
theorem Qc.rf {μ : Mem} : Qc μ μ := ⟨fun _ _ => rfl, fun _ _ _ => rfl⟩
theorem Qr.rf {μ : Mem} : Qr μ μ := ⟨fun _ _ => rfl, fun _ _ _ _ => rfl⟩
theorem Qc.tr {a b c : Mem} (h1 : Qc a b) (h2 : Qc b c) : Qc a c := ⟨fun x h => (h2.1 x h).trans (h1.1 x h), fun j a b => (h2.2 j a b).trans (h1.2 j a b)⟩
theorem Qr.tr {a b c : Mem} (h1 : Qr a b) (h2 : Qr b c) : Qr a c := ⟨fun x h => (h2.1 x h).trans (h1.1 x h), fun j a b c => (h2.2 j a b c).trans (h1.2 j a b c)⟩
section CORE
variable {p : Pm} {μ ν : Mem}
theorem PC.same {c : Nat} {t s : Int} {D : Nat} {ms : Nat → Nat} {ps : Nat → Int} (h : PC c t s D ms ps μ) (e1 : ν 41 = μ 41) (e2 : ν 0 = μ 0) (e3 : ν 44 = μ 44) (e4 : ν 45 = μ 45) : PC c t s D ms ps ν := by
  unfold PC at h ⊢; rw [e1, e2, e3, e4]; exact h
theorem MC.same {k c : Nat} {t s : Int} {q : Nat} {cl : Nat → Nat × Nat × Bool} (h : MC k c t s q cl μ) (e1 : ν k = μ k) (e2 : ν (k + 1) = μ (k + 1)) : MC k c t s q cl ν := ⟨by rw [e1]; exact h.1, by rw [e1]; exact h.2.1, by rw [e1]; exact h.2.2.1, h.2.2.2.same e1 e2⟩
theorem MkC.same {m : Nat} {o : Option (Nat × Int × Int × Nat × (Nat → Nat × Nat × Bool))} (h : MkC m o μ) (e1 : ν (57 + 2 * m) = μ (57 + 2 * m)) (e2 : ν (57 + 2 * m + 1) = μ (57 + 2 * m + 1)) : MkC m o ν := by
  cases o with
  | none => show ν (57 + 2 * m) 0 = 0; rw [e1]; exact h
  | some y => exact ⟨by rw [e1]; exact h.1, MC.same h.2 e1 e2⟩
theorem MkR.same {kd : Nat → Nat} {n m : Nat} {o : Option (Nat × Int × Int × Nat × (Nat → Nat × Nat × Bool))} (h : MkR kd n m o μ) (e1 : ν 89 = μ 89) (e2 : ν 88 = μ 88) : MkR kd n m o ν := by
  cases o with
  | none => show ν 89 m = 0; rw [e1]; exact h
  | some y => exact ⟨by rw [e1]; exact h.1, by rw [e2]; exact h.2.1, by rw [e2]; exact h.2.2.1, by rw [e2]; exact h.2.2.2.1, h.2.2.2.2.same e2⟩
theorem WiR.same {kd : Nat → Nat} {n : Nat} {w : Option Nat} (h : WiR kd n w μ) (e1 : ν 75 16 = μ 75 16) (e2 : ν 85 = μ 85) : WiR kd n w ν := by
  cases w with
  | none => show ν 75 16 = 0; rw [e1]; exact h
  | some t => exact ⟨by rw [e1]; exact h.1, h.2.same e2⟩
theorem Gc.of {told n : Nat} {kd wd : Nat → Nat} (h : Gc told n kd wd μ) (h0 : ν 25 0 = μ 25 0) (h1 : ν 25 1 = μ 25 1) (h2 : ν told = μ told) (h3 : ν (told + 2) = μ (told + 2)) (h4 : ν (told + 3) = μ (told + 3)) : Gc told n kd wd ν := by
  unfold Gc at h ⊢; rw [h0, h1, h2, h3, h4]; exact h
theorem Tb.of2 {n : Nat} {kd wd : Nat → Nat} {BE CE : LawF} (h : Tb kd wd n BE CE μ) (e25 : ∀ j, j < 4 → ν 25 j = μ 25 j) (e : ∀ x, 26 ≤ x → x ≤ 34 → x ≠ 27 → ν x = μ x) : Tb kd wd n BE CE ν := by
  obtain ⟨h1, ⟨s1, s2, s3⟩, h3, h4, h5⟩ := h
  refine ⟨by rw [e25 1 (by omega)]; exact h1, ⟨by rw [e25 2 (by omega)]; exact s1, by rw [e25 3 (by omega)]; exact s2, by rw [e 26 (by omega) (by omega) (by omega)]; exact s3⟩, fun r i hr hi => by rw [e 28 (by omega) (by omega) (by omega)]; exact h3 r i hr hi, fun r m a b d => ?_, fun st b a1 a2 a3 => ?_⟩
  · unfold TbE
    rw [e 29 (by omega) (by omega) (by omega), e 30 (by omega) (by omega) (by omega), e 31 (by omega) (by omega) (by omega), e 32 (by omega) (by omega) (by omega)]
    exact h4 r m a b d
  · unfold TbL
    rw [e 33 (by omega) (by omega) (by omega), e 34 (by omega) (by omega) (by omega)]
    exact h5 st b a1 a2 a3
theorem TxR.same {L : Nat} {tx : Nat → Nat} (h : TxR L tx μ) (e1 : ν 75 2 = μ 75 2) (e2 : ν 76 = μ 76) : TxR L tx ν := ⟨by rw [e1]; exact h.1, fun i hi => by rw [e2]; exact h.2 i hi⟩
theorem TxC.same {L : Nat} {tx : Nat → Nat} (h : TxC L tx μ) (e1 : ν 1 = μ 1) (e2 : ν 2 = μ 2) : TxC L tx ν := ⟨by rw [e1]; exact h.1, fun i hi => by rw [e2]; exact h.2 i hi⟩
theorem Core.qc (h : Core p μ) (hD : Qc μ ν) : Core p ν := by
  have hto := h.gc.1
  have e : ∀ x, (x < 25 ∨ x = 26 ∨ (28 ≤ x ∧ x ≤ 34) ∨ (39 ≤ x ∧ x ≤ 45) ∨ x = 48 ∨ (57 ≤ x ∧ x ≤ 64) ∨ 75 ≤ x) → ν x = μ x := hD.1
  refine ⟨h.gc.of (hD.2 0 (by omega) (by omega)) (hD.2 1 (by omega) (by omega)) (e _ (by omega)) (e _ (by omega)) (e _ (by omega)), h.tb.of2 (fun j hj => hD.2 j (by omega) (by omega)) (fun x h1 h2 h3 => e x (by omega)), by rw [hD.2 4 (by omega) (by omega)]; exact h.g4, by rw [e 0 (by omega)]; exact h.o2, by rw [e 0 (by omega)]; exact h.o3, by rw [e _ (by omega)]; exact h.up, h.ub, h.rr.same (e 81 (by omega)) (e 82 (by omega)), by rw [e 75 (by omega)]; exact h.d22, h.cN, h.pa, h.pc.same (e 41 (by omega)) (e 0 (by omega)) (e 44 (by omega)) (e 45 (by omega)), h.pR.same (e 88 (by omega)) (by rw [e 75 (by omega)]), h.sc.same (e 41 (by omega)) (e 42 (by omega)), h.sr.same (e 88 (by omega)), h.so, h.po, h.plc.same (e 39 (by omega)) (e 40 (by omega)), h.plr.same (e 84 (by omega)), by unfold WiC; rw [e 0 (by omega)]; exact h.wc, h.wr.same (by rw [e 75 (by omega)]) (e 85 (by omega)), h.wo, fun m hm => (h.mc m hm).same (e _ (by omega)) (e _ (by omega)), fun m hm => (h.mr m hm).same (e 89 (by omega)) (e 88 (by omega)), h.mo, h.tc.same (e 1 (by omega)) (e 2 (by omega)), h.tr.same (by rw [e 75 (by omega)]) (e 76 (by omega)), h.to, fun k hk => by rw [e _ (by omega)]; exact h.nc k hk, fun k hk => by rw [e 83 (by omega)]; exact h.nr k hk, h.no, fun w hw => by rw [e 80 (by omega)]; exact h.w8 w hw, by unfold Df0; rw [e 9 (by omega), e 12 (by omega), e 19 (by omega), e 22 (by omega)]; exact h.df⟩
theorem Core.qr (h : Core p μ) (hD : Qr μ ν) : Core p ν := by
  have hto := h.gc.1
  have e : ∀ x, (x < 75 ∨ (76 ≤ x ∧ x ≤ 85) ∨ x = 88 ∨ x = 89 ∨ 96 ≤ x) → ν x = μ x := hD.1
  have e5 : ∀ j, j ≠ 0 → j ≠ 26 → j ≠ 30 → ν 75 j = μ 75 j := hD.2
  refine ⟨h.gc.of (by rw [e 25 (by omega)]) (by rw [e 25 (by omega)]) (e _ (by omega)) (e _ (by omega)) (e _ (by omega)), h.tb.of2 (fun j hj => by rw [e 25 (by omega)]) (fun x h1 h2 h3 => e x (by omega)), by rw [e 25 (by omega)]; exact h.g4, by rw [e 0 (by omega)]; exact h.o2, by rw [e 0 (by omega)]; exact h.o3, by rw [e _ (by omega)]; exact h.up, h.ub, h.rr.same (e 81 (by omega)) (e 82 (by omega)), by rw [e5 22 (by omega) (by omega) (by omega)]; exact h.d22, h.cN, h.pa, h.pc.same (e 41 (by omega)) (e 0 (by omega)) (e 44 (by omega)) (e 45 (by omega)), h.pR.same (e 88 (by omega)) (e5 20 (by omega) (by omega) (by omega)), h.sc.same (e 41 (by omega)) (e 42 (by omega)), h.sr.same (e 88 (by omega)), h.so, h.po, h.plc.same (e 39 (by omega)) (e 40 (by omega)), h.plr.same (e 84 (by omega)), by unfold WiC; rw [e 0 (by omega)]; exact h.wc, h.wr.same (e5 16 (by omega) (by omega) (by omega)) (e 85 (by omega)), h.wo, fun m hm => (h.mc m hm).same (e _ (by omega)) (e _ (by omega)), fun m hm => (h.mr m hm).same (e 89 (by omega)) (e 88 (by omega)), h.mo, h.tc.same (e 1 (by omega)) (e 2 (by omega)), h.tr.same (e5 2 (by omega) (by omega) (by omega)) (e 76 (by omega)), h.to, fun k hk => by rw [e _ (by omega)]; exact h.nc k hk, fun k hk => by rw [e 83 (by omega)]; exact h.nr k hk, h.no, fun w hw => by rw [e 80 (by omega)]; exact h.w8 w hw, by unfold Df0; rw [e 9 (by omega), e 12 (by omega), e 19 (by omega), e 22 (by omega)]; exact h.df⟩
theorem Core.hn (h : Core p μ) : p.n < 6 := h.rr.1.1
theorem Core.gp (h : Core p μ) : Gp p.N p.n p.g p.tn p.pr := Gp_of h.hn h.rr.1.2.2.1
theorem Core.gr (h : Core p μ) : Gr p.N p.n p.g p.tn p.op p.pr μ := Gr_of h.hn h.tb h.g4
theorem Core.h88 (h : Core p μ) : μ 88 0 = nu p.kd p.n p.c := h.pR.1
theorem Core.h41 (h : Core p μ) : μ 41 1 = p.c := h.pc.1
theorem Core.gN (h : Core p μ) : p.g < p.N := h.gp.2.2.1
/-- the class's own tables -/
def stB (k : Nat) (bk : Bool) (b : Nat) : Prop := (k = 46 ∧ bk = true ∧ b = 0) ∨ (k = 49 ∧ bk = true ∧ b = 0) ∨ (k = 51 ∧ bk = false ∧ b = 0) ∨ ∃ i, i < 5 ∧ k = 65 + 2 * i ∧ bk = true ∧ b = i + 1
theorem stB_is {k : Nat} {bk : Bool} {b : Nat} (h : stB k bk b) : isSt k ∧ b < 9 := by
  unfold isSt
  rcases h with h | h | h | ⟨i, hi, h⟩ <;> omega
def Caches (p : Pm) (μ : Mem) : Prop := (∃ x y, isCt x ∧ isCt y ∧ x ≠ y ∧ μ 25 15 = (x : Nat) ∧ μ 25 16 = (y : Nat)) ∧ (∀ k bk b, stB k bk b → μ k 2 = (b : Nat) ∧ (μ k 1 != 0) = bk ∧ StO p.N p.n p.tn (eS p.tn p.op bk b) k μ) ∧ (BiO p.N p.n p.tn p.op p.pr p.g μ) ∧ (CoO p.N p.n p.tn p.op p.g μ)
theorem Caches.sck {p : Pm} {μ : Mem} (h : Caches p μ) : ∃ x y, isCt x ∧ isCt y ∧ x ≠ y ∧ μ 25 15 = (x : Nat) ∧ μ 25 16 = (y : Nat) := h.1
theorem Caches.st {p : Pm} {μ : Mem} (h : Caches p μ) : ∀ k bk b, stB k bk b → μ k 2 = (b : Nat) ∧ (μ k 1 != 0) = bk ∧ StO p.N p.n p.tn (eS p.tn p.op bk b) k μ := h.2.1
theorem Caches.bi {p : Pm} {μ : Mem} (h : Caches p μ) : BiO p.N p.n p.tn p.op p.pr p.g μ := h.2.2.1
theorem Caches.co {p : Pm} {μ : Mem} (h : Caches p μ) : CoO p.N p.n p.tn p.op p.g μ := h.2.2.2
/-- the reference's table -/
def Tt (p : Pm) (μ : Mem) : Prop := (μ 75 26 = 0 ∨ μ 75 26 = 1 ∨ μ 75 26 = 2 ∨ μ 75 26 = 3) ∧ (μ 75 26 = 1 → ∃ P W, TM p.kd p.n P W μ ∧ LF p.N p.n p.tn p.op 0 p.g P W) ∧ (μ 75 26 = 2 → ∃ F, TC p.kd p.n F μ ∧ IsC p.N p.n p.tn p.op p.pr p.g F) ∧ (μ 75 26 = 3 → ∃ e, TK p.kd p.n e μ ∧ IsK p.N p.n p.tn p.op p.g e)
def GA (p : Pm) (μ : Mem) : Prop := Core p μ ∧ Caches p μ ∧ Tt p μ
def GW (μ : Mem) : Prop := ∃ p, GA p μ
theorem StO.same {N n : Nat} {tn : Nat → Nat → Nat} {E : Nat → Nat → Bool} {k : Nat} (h : StO N n tn E k μ) (e1 : ν k = μ k) (e2 : ν (k + 1) = μ (k + 1)) : StO N n tn E k ν := by
  unfold StO StI at h ⊢; rw [e1, e2]; exact h
theorem Caches.same (h : Caches p μ) (e25 : ν 25 15 = μ 25 15 ∧ ν 25 16 = μ 25 16) (e : ∀ x, 46 ≤ x → x ≤ 74 → ν x = μ x) : Caches p ν := by
  refine ⟨by rw [e25.1, e25.2]; exact h.sck, fun k bk b hk => ?_, ?_, ?_⟩
  · obtain ⟨a1, a2, a3⟩ := h.st k bk b hk
    obtain ⟨k1, k2⟩ := isSt_b (stB_is hk).1
    rw [e k (by omega) (by omega)]
    exact ⟨a1, a2, a3.same (e k (by omega) (by omega)) (e (k + 1) (by omega) (by omega))⟩
  · have := h.bi
    unfold BiO at this ⊢
    rw [e 53 (by omega) (by omega), e 54 (by omega) (by omega)]; exact this
  · have := h.co
    unfold CoO at this ⊢
    rw [e 55 (by omega) (by omega), e 56 (by omega) (by omega)]; exact this
theorem Caches.qr (h : Caches p μ) (hD : Qr μ ν) : Caches p ν := h.same ⟨by rw [hD.1 25 (by omega)], by rw [hD.1 25 (by omega)]⟩ (fun x _ _ => hD.1 x (by omega))
theorem Tt.same (h : Tt p μ) (e1 : ν 75 26 = μ 75 26) (e2 : ν 92 = μ 92) : Tt p ν := by
  unfold Tt TM TC TK at h ⊢; rw [e1, e2]; exact h
theorem Tt.qc (h : Tt p μ) (hD : Qc μ ν) : Tt p ν := h.same (by rw [hD.1 75 (by omega)]) (hD.1 92 (by omega))
theorem LR_c (h : ∀ x, 75 ≤ x → ν x = μ x) : LR 0 75 μ ν = ν := by
  funext x
  unfold LR
  by_cases q : inR 0 75 x = true
  · rw [if_pos q]
  · rw [if_neg q]
    have : 75 ≤ x := by
      rw [inR_iff] at q
      omega
    exact (h x this).symm
theorem LR_r (h : ∀ x, x < 75 ∨ 96 ≤ x → ν x = μ x) : LR 75 96 μ ν = ν := by
  funext x
  unfold LR
  by_cases q : inR 75 96 x = true
  · rw [if_pos q]
  · rw [if_neg q]
    have : x < 75 ∨ 96 ≤ x := by
      rw [inR_iff] at q
      omega
    exact (h x this).symm
/-- a call of both: of the class's and the reference's answers and frames -/
theorem both {α : Type} {f : Option (α × Mem)} {r : Mem → Option (α × Mem)} {v : α} (hG : GA p μ) (hC : Ok f (fun o => o.1 = v ∧ Qc μ o.2 ∧ Caches p o.2)) (hR : ∀ ν, GA p ν → Ok (r ν) (fun o => o.1 = v ∧ Qr ν o.2 ∧ Tt p o.2)) :
    ∃ (μ1 : Mem), f = some (v, μ1) ∧ ∃ (μ2 : Mem), r (LR 0 75 μ μ1) = some (v, μ2) ∧ GW (LR 75 96 (LR 0 75 μ μ1) μ2) := by
  obtain ⟨⟨v1, μ1⟩, hf, rfl, hQ, hCa⟩ := hC
  have e1 : LR 0 75 μ μ1 = μ1 := LR_c (fun x hx => hQ.1 x (by omega))
  have hG1 : GA p μ1 := ⟨hG.1.qc hQ, hCa, hG.2.2.qc hQ⟩
  obtain ⟨⟨v2, μ2⟩, hr, hv, hQ2, hT2⟩ := hR μ1 hG1
  dsimp only at hv hQ2 hT2
  subst hv
  refine ⟨μ1, hf, μ2, by rw [e1]; exact hr, ?_⟩
  rw [e1, LR_r (fun x hx => hQ2.1 x (by omega))]
  exact ⟨p, hG1.1.qr hQ2, hG1.2.1.qr hQ2, hT2⟩
/-- a call that changes nothing in the class -/
theorem pureC {α : Type} {r : Mem → Option (α × Mem)} {v : α} (hG : GA p μ) (hR : Ok (r μ) (fun o => o.1 = v ∧ Qr μ o.2 ∧ Tt p o.2)) :
    ∃ (μ2 : Mem), r (LR 0 75 μ μ) = some (v, μ2) ∧ GW (LR 75 96 (LR 0 75 μ μ) μ2) := by
  have e1 : LR 0 75 μ μ = μ := LR_c (fun x hx => rfl)
  obtain ⟨⟨v2, μ2⟩, hr, hv, hQ2, hT2⟩ := hR
  dsimp only at hv hQ2 hT2
  subst hv
  refine ⟨μ2, by rw [e1]; exact hr, ?_⟩
  rw [e1, LR_r (fun x hx => hQ2.1 x (by omega))]
  exact ⟨p, hG.1.qr hQ2, hG.2.1.qr hQ2, hT2⟩
/-- frames as they come -/
theorem Qr.dk0 (h : Dk (upd2 μ 75 0 0) ν) : Qr μ ν := ⟨fun x hx => by rw [h x (by omega) (by omega) (by omega) (by omega), upd2_ne (by omega)], fun j h0 _ _ => by rw [h 75 (by omega) (by omega) (by omega) (by omega), upd2_nj h0]⟩
theorem Tt.dk0 (hT : Tt p μ) (h : Dk (upd2 μ 75 0 0) ν) : Tt p ν := hT.same (by rw [h 75 (by omega) (by omega) (by omega) (by omega), upd2_nj (by omega)]) (by rw [h 92 (by omega) (by omega) (by omega) (by omega), upd2_ne (by omega)])
theorem Qr.dt0 (h : Dt (upd2 μ 75 0 0) ν) : Qr μ ν := ⟨fun x hx => by rw [h x (by omega) (by omega) (by omega), upd2_ne (by omega)], fun j h0 _ _ => by rw [h 75 (by omega) (by omega) (by omega), upd2_nj h0]⟩
theorem Tt.dt0 (hT : Tt p μ) (h : Dt (upd2 μ 75 0 0) ν) : Tt p ν := hT.same (by rw [h 75 (by omega) (by omega) (by omega), upd2_nj (by omega)]) (by rw [h 92 (by omega) (by omega) (by omega), upd2_ne (by omega)])
theorem Qr.dz0 (h : Dz (upd2 μ 75 0 0) ν) : Qr μ ν := ⟨fun x hx => by rw [h.1 x (by omega) (by omega) (by omega) (by omega) (by omega), upd2_ne (by omega)], fun j h0 _ h3 => by rw [h.2 j h3, upd2_nj h0]⟩
theorem Tt.dz0 (hT : Tt p μ) (h : Dz (upd2 μ 75 0 0) ν) : Tt p ν := hT.same (by rw [h.2 26 (by omega), upd2_nj (by omega)]) (by rw [h.1 92 (by omega) (by omega) (by omega) (by omega) (by omega), upd2_ne (by omega)])
theorem Qc.r27 (h : ∀ x, x ≠ 27 → ν x = μ x) : Qc μ ν := ⟨fun x hx => h x (by omega), fun j _ _ => by rw [h 25 (by omega)]⟩
theorem Caches.r27 (hC : Caches p μ) (h : ∀ x, x ≠ 27 → ν x = μ x) : Caches p ν := hC.same ⟨by rw [h 25 (by omega)], by rw [h 25 (by omega)]⟩ (fun x _ _ => h x (by omega))
theorem Qc.r38 (h : ∀ x, x ≠ 38 → ν x = μ x) : Qc μ ν := ⟨fun x hx => h x (by omega), fun j _ _ => by rw [h 25 (by omega)]⟩
theorem Caches.r38 (hC : Caches p μ) (h : ∀ x, x ≠ 38 → ν x = μ x) : Caches p ν := hC.same ⟨by rw [h 25 (by omega)], by rw [h 25 (by omega)]⟩ (fun x _ _ => h x (by omega))
end CORE
