theorem opsLaw_320 : (List.range 80).all (fun k => (opT 162 (320 + k)).isNone || opChk (mCode 162) (mOwnNo 162) (opT 162) (320 + k)) = true := by decide +kernel
theorem opsLaw_400 : (List.range 80).all (fun k => (opT 162 (400 + k)).isNone || opChk (mCode 162) (mOwnNo 162) (opT 162) (400 + k)) = true := by decide +kernel
theorem opsLaw_480 : (List.range 80).all (fun k => (opT 162 (480 + k)).isNone || opChk (mCode 162) (mOwnNo 162) (opT 162) (480 + k)) = true := by decide +kernel
theorem opsLaw_560 : (List.range 80).all (fun k => (opT 162 (560 + k)).isNone || opChk (mCode 162) (mOwnNo 162) (opT 162) (560 + k)) = true := by decide +kernel
