theorem opsLaw_640 : (List.range 80).all (fun k => (opT 162 (640 + k)).isNone || opChk (mCode 162) (mOwnNo 162) (opT 162) (640 + k)) = true := by decide +kernel
theorem opsLaw_720 : (List.range 80).all (fun k => (opT 162 (720 + k)).isNone || opChk (mCode 162) (mOwnNo 162) (opT 162) (720 + k)) = true := by decide +kernel
theorem opsLaw_800 : (List.range 80).all (fun k => (opT 162 (800 + k)).isNone || opChk (mCode 162) (mOwnNo 162) (opT 162) (800 + k)) = true := by decide +kernel
theorem opsLaw_880 : (List.range 80).all (fun k => (opT 162 (880 + k)).isNone || opChk (mCode 162) (mOwnNo 162) (opT 162) (880 + k)) = true := by decide +kernel
