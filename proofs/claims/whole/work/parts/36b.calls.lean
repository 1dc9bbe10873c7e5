/-! ===== level 2: calls that keep the state, first half ===== -/
section CALLS1
variable {μ : Mem} {a b w : Int}
theorem s_cake (hG : GW μ) : S_cake GW a w μ := fun ha hw => by
  obtain ⟨p, hA⟩ := hG
  obtain ⟨h, hC, hT⟩ := id hA
  obtain ⟨μ2, e1, e2⟩ := pureC (r := fX12_cake a w) hA (Ok.imp (cake_r h.rr h.cN h.h88 ha hw) (fun o q => ⟨q.1, .dk0 q.2, hT.dk0 q.2⟩))
  exact ⟨_, μ, ⟨cake_ok h.hn h.gc h.tb h.o2 h.cN h.h41 ha hw, rfl⟩, _, μ2, e1, rfl, e2⟩
theorem s_there (hG : GW μ) : S_there GW a μ := fun ha => by
  obtain ⟨p, hA⟩ := hG
  obtain ⟨h, hC, hT⟩ := id hA
  obtain ⟨μ2, e1, e2⟩ := pureC (r := fX12_there a) hA (Ok.imp (there_r h.rr h.cN h.h88 ha) (fun o q => ⟨q.1, .dk0 q.2, hT.dk0 q.2⟩))
  exact ⟨_, μ, ⟨there_ok h.hn h.tb h.cN h.h41 ha, rfl⟩, _, μ2, e1, rfl, e2⟩
theorem s_can (hG : GW μ) : S_can GW a μ := fun ha => by
  obtain ⟨p, hA⟩ := hG
  obtain ⟨h, hC, hT⟩ := id hA
  obtain ⟨μ2, e1, e2⟩ := pureC (r := fX12_can a) hA (Ok.imp (can_r h.rr h.cN h.h88 ha) (fun o q => ⟨q.1, .dk0 q.2, hT.dk0 q.2⟩))
  exact ⟨_, μ, ⟨can_ok h.hn h.tb h.cN h.h41 ha, rfl⟩, _, μ2, e1, rfl, e2⟩
theorem s_cost (hG : GW μ) : S_cost GW a μ := fun ha => by
  obtain ⟨p, hA⟩ := hG
  obtain ⟨h, hC, hT⟩ := id hA
  obtain ⟨μ2, e1, e2⟩ := pureC (r := fX12_cost a) hA (Ok.imp (cost_r2 h.rr h.cN h.h88 ha) (fun o q => ⟨q.1, .dk0 q.2, hT.dk0 q.2⟩))
  exact ⟨_, μ, ⟨cost_ok h.hn h.tb h.cN h.h41 ha, rfl⟩, _, μ2, e1, rfl, e2⟩
theorem s_served (hG : GW μ) : S_served GW μ := by
  obtain ⟨p, hA⟩ := hG
  obtain ⟨h, hC, hT⟩ := id hA
  obtain ⟨μ2, e1, e2⟩ := pureC (r := fX12_served) hA (Ok.imp (srvd_r h.rr h.cN h.h88) (fun o q => ⟨q.1, .dk0 q.2, hT.dk0 q.2⟩))
  exact ⟨_, μ, ⟨srvd_ok h.cN (NN_le h.hn) h.gN h.g4 h.h41, rfl⟩, _, μ2, e1, rfl, e2⟩
theorem s_nth (hG : GW μ) : S_nth GW μ := by
  obtain ⟨p, hA⟩ := hG
  obtain ⟨h, hC, hT⟩ := id hA
  have hv := nth_r (μ := μ) h.h88
  obtain ⟨μ2, e1, e2⟩ := pureC (r := fun ν => some (fX12_nth ν)) (v := (nu p.kd p.n p.c : Int)) hA ⟨_, rfl, hv.1, .dk0 (fun x _ _ _ _ => by rw [hv.2]), hT.dk0 (fun x _ _ _ _ => by rw [hv.2])⟩
  exact ⟨_, μ, ⟨nth_ok h.hn h.gc h.tb h.cN h.h41, rfl⟩, _, μ2, Option.some.inj e1, rfl, e2⟩
theorem s_ring (hG : GW μ) : S_ring GW a b μ := fun ha hb => by
  obtain ⟨p, hA⟩ := hG
  obtain ⟨h, hC, hT⟩ := id hA
  obtain ⟨μ2, e1, e2⟩ := pureC (r := fX12_ring a b) hA (Ok.imp (ringr_r h.rr h.cN h.h88 ha hb) (fun o q => ⟨q.1, .dk0 q.2, hT.dk0 q.2⟩))
  exact ⟨_, μ, ⟨ringc_ok h.hn h.tb h.cN h.h41 ha hb, rfl⟩, _, μ2, e1, rfl, e2⟩
theorem s_pairs (hG : GW μ) : S_pairs GW μ := by
  obtain ⟨p, hA⟩ := hG
  obtain ⟨h, hC, hT⟩ := id hA
  obtain ⟨μ2, e1, e2⟩ := pureC (r := fX12_pairs) hA (Ok.imp (pairs_r h.rr h.cN h.h88) (fun o q => ⟨q.1, .dk0 q.2, hT.dk0 q.2⟩))
  exact ⟨_, μ, ⟨pairs_ok h.hn h.gc h.tb h.cN h.h41, rfl⟩, _, μ2, e1, rfl, e2⟩
theorem s_gaps (hG : GW μ) : S_gaps GW μ := by
  obtain ⟨p, hA⟩ := hG
  obtain ⟨h, hC, hT⟩ := id hA
  obtain ⟨μ2, e1, e2⟩ := pureC (r := fX12_gaps) hA (Ok.imp (gapsr_r h.rr h.cN h.h88) (fun o q => ⟨q.1, .dk0 q.2, hT.dk0 q.2⟩))
  exact ⟨_, μ, ⟨gapsc_ok h.hn h.gc h.tb h.cN h.h41, rfl⟩, _, μ2, e1, rfl, e2⟩
theorem s_again (hG : GW μ) : S_again GW μ := by
  obtain ⟨p, hA⟩ := hG
  obtain ⟨h, hC, hT⟩ := id hA
  obtain ⟨μ2, e1, e2⟩ := pureC (r := fX12_again) hA (Ok.imp (again_r h.rr h.po h.plr h.cN h.h88) (fun o q => ⟨q.1, .dk0 q.2, hT.dk0 q.2⟩))
  exact ⟨_, μ, ⟨again_ok h.hn h.tb h.po h.plc h.cN h.h41, rfl⟩, _, μ2, e1, rfl, e2⟩
theorem s_ends (hG : GW μ) : S_ends GW μ := by
  obtain ⟨p, hA⟩ := hG
  obtain ⟨h, hC, hT⟩ := id hA
  obtain ⟨μ2, e1, e2⟩ := pureC (r := fX12_ends) hA (Ok.imp (ends_r h.rr h.po h.plr h.cN h.h88) (fun o q => ⟨q.1, .dk0 q.2, hT.dk0 q.2⟩))
  exact ⟨_, μ, ⟨ends_ok h.hn h.tb h.po h.plc h.cN h.h41 h.gN h.g4, rfl⟩, _, μ2, e1, rfl, e2⟩
theorem s_fit (hG : GW μ) : S_fit GW μ := by
  obtain ⟨p, hA⟩ := hG
  obtain ⟨h, hC, hT⟩ := id hA
  obtain ⟨μ2, e1, e2⟩ := pureC (r := fX12_fit) hA (Ok.imp (fit_r h.rr h.sr h.so) (fun o q => ⟨q.1, .dt0 q.2, hT.dt0 q.2⟩))
  exact ⟨_, μ, ⟨fit_ok h.hn h.tb h.sc h.so, rfl⟩, _, μ2, e1, rfl, e2⟩
theorem s_mornings (hG : GW μ) : S_mornings GW a b w μ := fun ha hb hw => by
  obtain ⟨p, hA⟩ := hG
  obtain ⟨h, hC, hT⟩ := id hA
  obtain ⟨μ2, e1, e2⟩ := pureC (r := fX12_mornings a b w) hA (Ok.imp (mornings_r h.rr h.cN h.h88 ha hb hw) (fun o q => ⟨q.1, .dz0 q.2, hT.dz0 q.2⟩))
  exact ⟨_, μ, ⟨mornings_ok h.hn h.tb h.cN h.h41 h.gN h.g4 ha hb hw, rfl⟩, _, μ2, e1, rfl, e2⟩
theorem s_judged (hG : GW μ) : S_judged GW a μ := fun ha => by
  obtain ⟨p, hA⟩ := hG
  obtain ⟨h, hC, hT⟩ := id hA
  obtain ⟨μ1, e0, μ2, e1, e2⟩ := both (r := fX12_judged a) hA (Ok.imp (judged_ok h.hn h.gc h.tb h.gN h.g4 h.up h.ub h.po h.plc ha) (fun o q => ⟨q.1, .r27 q.2, hC.r27 q.2⟩)) (fun ν hν => Ok.imp (judged_r hν.1.rr hν.1.d22 hν.1.po hν.1.plr ha) (fun o q => ⟨q.1, .dk0 q.2, hν.2.2.dk0 q.2⟩))
  exact ⟨_, μ1, e0, _, μ2, e1, rfl, e2⟩
theorem s_spare (hG : GW μ) : S_spare GW μ := by
  obtain ⟨p, hA⟩ := hG
  obtain ⟨h, hC, hT⟩ := id hA
  obtain ⟨μ1, e0, μ2, e1, e2⟩ := both (r := fX12_spare) hA (Ok.imp (spare_ok h.hn h.gc h.tb h.up h.ub h.po h.plc) (fun o q => ⟨q.1, .r27 q.2, hC.r27 q.2⟩)) (fun ν hν => Ok.imp (spare_r hν.1.rr hν.1.d22 hν.1.po hν.1.plr) (fun o q => ⟨q.1, .dk0 q.2, hν.2.2.dk0 q.2⟩))
  exact ⟨_, μ1, e0, _, μ2, e1, rfl, e2⟩
theorem s_look (hG : GW μ) : S_look GW μ := by
  obtain ⟨p, hA⟩ := hG
  obtain ⟨h, hC, hT⟩ := id hA
  obtain ⟨μ1, e0, μ2, e1, e2⟩ := both (r := fX12_look) hA (Ok.imp (look_ok h.hn h.tb h.sc h.so) (fun o q => ⟨q.1, .r38 q.2, hC.r38 q.2⟩)) (fun ν hν => Ok.imp (look_r hν.1.rr hν.1.sr hν.1.so) (fun o q => ⟨q.1, .dt0 q.2, hν.2.2.dt0 q.2⟩))
  exact ⟨_, μ1, e0, _, μ2, e1, rfl, e2⟩
end CALLS1
