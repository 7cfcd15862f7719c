theorem opsLaw_1280 : (List.range 3).all (fun k => (opT 162 (1280 + k)).isNone || opChk (mCode 162) (mOwnNo 162) (opT 162) (1280 + k)) = true := by decide +kernel
