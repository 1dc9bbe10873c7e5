section RSC
variable {l : Launch} {D : va_G} {cy : Nat → ClassId} {g : Nat → Nat} {K : KT} {M : Nat} {x : Bool} {P : Nat → Prop} {L : Mem → Mem}
def XRs (D : va_G) (cy : Nat → ClassId) (g : Nat → Nat) (K : KT) (M : Nat) (μ : Mem) (o0 : Int × Bool) : String → State → State → Prop := fun E st t => E = RNSE ∧ o0.2 = true ∧ Rq D cy g K M false μ t.heap ∧ va_F (AA g) st t
def PRs (M : Nat) (μ : Mem) (o0 : Int × Bool) : Post := fun v M2 _ N2 => v = some (vi o0.1) ∧ o0.2 = false ∧ M2 = M ∧ N2 = μ
theorem tX11_rests (hno : l.stackTraces = false) (hS : Sd M K P L) (a1 a2 a3 a4 : Int) (μ : Mem) {o0 : Int × Bool} (hf : fX11_rests a1 a2 a3 a4 μ = some o0) : vx_Met l yX11_rests (Cond.code yX11_rests cX11_rests 10 (some .int) :: UW) (rmd 7 1 6) (va_Pc [vr g 0, vi a1, vi a2, vi a3, vi a4] (fun U => Bs D cy g U ∧ Rq D cy g K M x (L μ) U.heap ∧ ZS g U)) (QX D cy g K (PRs M (L μ) o0)) (XRs D cy g K M (L μ) o0) 1 6 (AA g) := by
  refine vx_ofW (by decide) rfl ?_
  intro p e s m a below meth c s₁ B hml hX hv
  obtain ⟨rfl, hB, hR, hZ⟩ := hv
  have hts : ∀ w ∈ UW, w.before [vr g 0, vi a1, vi a2, vi a3, vi a4].toArray s = true := fun w hw => atoms_spec (ws := Cond.code yX11_rests cX11_rests 10 (some .int) :: UW) B.pre w (List.mem_cons_of_mem _ hw)
  have hl := lv_entry [vr g 0, vi a1, vi a2, vi a3, vi a4] (n := 10) (Nat.le_of_ble_eq_true rfl)
  rw [lg_entry_eq]
  intro T hT X
  obtain ⟨t, b1, b2⟩ := eX11_rests (o0 := o0) hno hS (fun k hk => absurd hk (by simp [inR, Nat.blt]; omega)) a1 a2 a3 a4 μ hf rfl p e s m _ below meth c s.heap [] _ ⟨B.exec, B.bytes, hml, findClass_of_methodNamed B.named, hts, B.returns, B.notSynchronized, (name_of_methodNamed B.named B.method).1, hB⟩ hX hR va_S.rf hl T hT X
  exact ⟨t, b1, b2 hZ⟩
end RSC
