theorem opsOk_162 : opsOk 162 = true := by
  refine List.all_eq_true.mpr (fun pc h => ?_)
  have hlt : pc < 1283 := List.mem_range.mp h
  by_cases h0 : pc < 80
  · have := List.all_eq_true.mp opsLaw_0 (pc - 0) (List.mem_range.mpr (by omega))
    rwa [show 0 + (pc - 0) = pc by omega] at this
  by_cases h80 : pc < 160
  · have := List.all_eq_true.mp opsLaw_80 (pc - 80) (List.mem_range.mpr (by omega))
    rwa [show 80 + (pc - 80) = pc by omega] at this
  by_cases h160 : pc < 240
  · have := List.all_eq_true.mp opsLaw_160 (pc - 160) (List.mem_range.mpr (by omega))
    rwa [show 160 + (pc - 160) = pc by omega] at this
  by_cases h240 : pc < 320
  · have := List.all_eq_true.mp opsLaw_240 (pc - 240) (List.mem_range.mpr (by omega))
    rwa [show 240 + (pc - 240) = pc by omega] at this
  by_cases h320 : pc < 400
  · have := List.all_eq_true.mp opsLaw_320 (pc - 320) (List.mem_range.mpr (by omega))
    rwa [show 320 + (pc - 320) = pc by omega] at this
  by_cases h400 : pc < 480
  · have := List.all_eq_true.mp opsLaw_400 (pc - 400) (List.mem_range.mpr (by omega))
    rwa [show 400 + (pc - 400) = pc by omega] at this
  by_cases h480 : pc < 560
  · have := List.all_eq_true.mp opsLaw_480 (pc - 480) (List.mem_range.mpr (by omega))
    rwa [show 480 + (pc - 480) = pc by omega] at this
  by_cases h560 : pc < 640
  · have := List.all_eq_true.mp opsLaw_560 (pc - 560) (List.mem_range.mpr (by omega))
    rwa [show 560 + (pc - 560) = pc by omega] at this
  by_cases h640 : pc < 720
  · have := List.all_eq_true.mp opsLaw_640 (pc - 640) (List.mem_range.mpr (by omega))
    rwa [show 640 + (pc - 640) = pc by omega] at this
  by_cases h720 : pc < 800
  · have := List.all_eq_true.mp opsLaw_720 (pc - 720) (List.mem_range.mpr (by omega))
    rwa [show 720 + (pc - 720) = pc by omega] at this
  by_cases h800 : pc < 880
  · have := List.all_eq_true.mp opsLaw_800 (pc - 800) (List.mem_range.mpr (by omega))
    rwa [show 800 + (pc - 800) = pc by omega] at this
  by_cases h880 : pc < 960
  · have := List.all_eq_true.mp opsLaw_880 (pc - 880) (List.mem_range.mpr (by omega))
    rwa [show 880 + (pc - 880) = pc by omega] at this
  by_cases h960 : pc < 1040
  · have := List.all_eq_true.mp opsLaw_960 (pc - 960) (List.mem_range.mpr (by omega))
    rwa [show 960 + (pc - 960) = pc by omega] at this
  by_cases h1040 : pc < 1120
  · have := List.all_eq_true.mp opsLaw_1040 (pc - 1040) (List.mem_range.mpr (by omega))
    rwa [show 1040 + (pc - 1040) = pc by omega] at this
  by_cases h1120 : pc < 1200
  · have := List.all_eq_true.mp opsLaw_1120 (pc - 1120) (List.mem_range.mpr (by omega))
    rwa [show 1120 + (pc - 1120) = pc by omega] at this
  by_cases h1200 : pc < 1280
  · have := List.all_eq_true.mp opsLaw_1200 (pc - 1200) (List.mem_range.mpr (by omega))
    rwa [show 1200 + (pc - 1200) = pc by omega] at this
  by_cases h1280 : pc < 1283
  · have := List.all_eq_true.mp opsLaw_1280 (pc - 1280) (List.mem_range.mpr (by omega))
    rwa [show 1280 + (pc - 1280) = pc by omega] at this
  omega
theorem opsOk_all (mi : Nat) (h : mi < 163) : opsOk mi = true := by
  by_cases h20 : mi < 20
  · have := List.all_eq_true.mp opsOk_0 (mi - 0) (List.mem_range.mpr (by omega))
    rwa [show 0 + (mi - 0) = mi by omega] at this
  by_cases h40 : mi < 40
  · have := List.all_eq_true.mp opsOk_20 (mi - 20) (List.mem_range.mpr (by omega))
    rwa [show 20 + (mi - 20) = mi by omega] at this
  by_cases h60 : mi < 60
  · have := List.all_eq_true.mp opsOk_40 (mi - 40) (List.mem_range.mpr (by omega))
    rwa [show 40 + (mi - 40) = mi by omega] at this
  by_cases h80 : mi < 80
  · have := List.all_eq_true.mp opsOk_60 (mi - 60) (List.mem_range.mpr (by omega))
    rwa [show 60 + (mi - 60) = mi by omega] at this
  by_cases h100 : mi < 100
  · have := List.all_eq_true.mp opsOk_80 (mi - 80) (List.mem_range.mpr (by omega))
    rwa [show 80 + (mi - 80) = mi by omega] at this
  by_cases h115 : mi < 115
  · have := List.all_eq_true.mp opsOk_100 (mi - 100) (List.mem_range.mpr (by omega))
    rwa [show 100 + (mi - 100) = mi by omega] at this
  by_cases h130 : mi < 130
  · have := List.all_eq_true.mp opsOk_115 (mi - 115) (List.mem_range.mpr (by omega))
    rwa [show 115 + (mi - 115) = mi by omega] at this
  by_cases h148 : mi < 148
  · have := List.all_eq_true.mp opsOk_130 (mi - 130) (List.mem_range.mpr (by omega))
    rwa [show 130 + (mi - 130) = mi by omega] at this
  by_cases h162 : mi < 162
  · have := List.all_eq_true.mp opsOk_148 (mi - 148) (List.mem_range.mpr (by omega))
    rwa [show 148 + (mi - 148) = mi by omega] at this
  rw [show mi = 162 by omega]
  exact opsOk_162
