def opsOk (mi : Nat) : Bool := (List.range (mLen mi)).all (fun pc => (opT mi pc).isNone || opChk (mCode mi) (mOwnNo mi) (opT mi) pc)
theorem opsOk_0 : (List.range 20).all (fun k => opsOk (0 + k)) = true := by decide +kernel
theorem opsOk_20 : (List.range 20).all (fun k => opsOk (20 + k)) = true := by decide +kernel
theorem opsOk_40 : (List.range 20).all (fun k => opsOk (40 + k)) = true := by decide +kernel
theorem opsOk_60 : (List.range 20).all (fun k => opsOk (60 + k)) = true := by decide +kernel
theorem opsOk_80 : (List.range 20).all (fun k => opsOk (80 + k)) = true := by decide +kernel
theorem opsOk_100 : (List.range 15).all (fun k => opsOk (100 + k)) = true := by decide +kernel
theorem opsOk_115 : (List.range 15).all (fun k => opsOk (115 + k)) = true := by decide +kernel
theorem opsOk_130 : (List.range 18).all (fun k => opsOk (130 + k)) = true := by decide +kernel
theorem opsOk_148 : (List.range 14).all (fun k => opsOk (148 + k)) = true := by decide +kernel
