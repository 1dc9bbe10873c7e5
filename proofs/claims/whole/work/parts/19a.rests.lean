def RNSE : String := "java/util/NoSuchElementException"
def nseN : List String := ["java/lang/RuntimeException", "java/lang/Exception"]
theorem at0_in : ∀ w ∈ vx_at0 RX11 319 RNSE nseN, w ∈ tables_1 := by decide +kernel
theorem at0_ot : ∀ w ∈ Cond.classLink RX11 317 RNSE :: Cond.initialized RNSE :: vx_at0 RX11 319 RNSE nseN, vx_ot w = true := by decide +kernel
theorem at0_rest : ((vx_at0 RX11 319 RNSE nseN).filter (fun w => !goodWord w)).all (fun w => match w with | .castable _ _ => true | .declares _ => true | _ => false) = true := by decide +kernel
