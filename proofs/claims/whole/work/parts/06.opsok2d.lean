theorem opsLaw_960 : (List.range 80).all (fun k => (opT 162 (960 + k)).isNone || opChk (mCode 162) (mOwnNo 162) (opT 162) (960 + k)) = true := by decide +kernel
theorem opsLaw_1040 : (List.range 80).all (fun k => (opT 162 (1040 + k)).isNone || opChk (mCode 162) (mOwnNo 162) (opT 162) (1040 + k)) = true := by decide +kernel
theorem opsLaw_1120 : (List.range 80).all (fun k => (opT 162 (1120 + k)).isNone || opChk (mCode 162) (mOwnNo 162) (opT 162) (1120 + k)) = true := by decide +kernel
theorem opsLaw_1200 : (List.range 80).all (fun k => (opT 162 (1200 + k)).isNone || opChk (mCode 162) (mOwnNo 162) (opT 162) (1200 + k)) = true := by decide +kernel
