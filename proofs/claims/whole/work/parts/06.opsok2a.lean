theorem opsLaw_0 : (List.range 80).all (fun k => (opT 162 (0 + k)).isNone || opChk (mCode 162) (mOwnNo 162) (opT 162) (0 + k)) = true := by decide +kernel
theorem opsLaw_80 : (List.range 80).all (fun k => (opT 162 (80 + k)).isNone || opChk (mCode 162) (mOwnNo 162) (opT 162) (80 + k)) = true := by decide +kernel
theorem opsLaw_160 : (List.range 80).all (fun k => (opT 162 (160 + k)).isNone || opChk (mCode 162) (mOwnNo 162) (opT 162) (160 + k)) = true := by decide +kernel
theorem opsLaw_240 : (List.range 80).all (fun k => (opT 162 (240 + k)).isNone || opChk (mCode 162) (mOwnNo 162) (opT 162) (240 + k)) = true := by decide +kernel
