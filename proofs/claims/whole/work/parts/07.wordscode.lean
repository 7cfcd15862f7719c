def codeW (x : Nat) : Cond := match mHh x with
  | [] => .code (mName x) (mCode x) (mMaxL x) (mRet x)
  | h :: t => .codeWith (mName x) (mCode x) (mMaxL x) (mRet x) (h :: t)
def mWs (x : Nat) : List Cond := codeW x :: wG
set_option maxRecDepth 100000 in
theorem cw_0 : codeW 0 ∈ tables_1 := List.mem_of_getElem? (i := 151) rfl
set_option maxRecDepth 100000 in
theorem cw_1 : codeW 1 ∈ tables_1 := List.mem_of_getElem? (i := 504) rfl
set_option maxRecDepth 100000 in
theorem cw_2 : codeW 2 ∈ tables_1 := List.mem_of_getElem? (i := 747) rfl
set_option maxRecDepth 100000 in
theorem cw_3 : codeW 3 ∈ tables_1 := List.mem_of_getElem? (i := 763) rfl
set_option maxRecDepth 100000 in
theorem cw_4 : codeW 4 ∈ tables_1 := List.mem_of_getElem? (i := 809) rfl
set_option maxRecDepth 100000 in
theorem cw_5 : codeW 5 ∈ tables_1 := List.mem_of_getElem? (i := 710) rfl
set_option maxRecDepth 100000 in
theorem cw_6 : codeW 6 ∈ tables_1 := List.mem_of_getElem? (i := 715) rfl
set_option maxRecDepth 100000 in
theorem cw_7 : codeW 7 ∈ tables_1 := List.mem_of_getElem? (i := 727) rfl
set_option maxRecDepth 100000 in
theorem cw_8 : codeW 8 ∈ tables_1 := List.mem_of_getElem? (i := 755) rfl
set_option maxRecDepth 100000 in
theorem cw_9 : codeW 9 ∈ tables_1 := List.mem_of_getElem? (i := 775) rfl
set_option maxRecDepth 100000 in
theorem cw_10 : codeW 10 ∈ tables_1 := List.mem_of_getElem? (i := 627) rfl
set_option maxRecDepth 100000 in
theorem cw_11 : codeW 11 ∈ tables_1 := List.mem_of_getElem? (i := 800) rfl
set_option maxRecDepth 100000 in
theorem cw_12 : codeW 12 ∈ tables_1 := List.mem_of_getElem? (i := 837) rfl
set_option maxRecDepth 100000 in
theorem cw_13 : codeW 13 ∈ tables_1 := List.mem_of_getElem? (i := 784) rfl
set_option maxRecDepth 100000 in
theorem cw_14 : codeW 14 ∈ tables_1 := List.mem_of_getElem? (i := 85) rfl
set_option maxRecDepth 100000 in
theorem cw_15 : codeW 15 ∈ tables_1 := List.mem_of_getElem? (i := 679) rfl
set_option maxRecDepth 100000 in
theorem cw_16 : codeW 16 ∈ tables_1 := List.mem_of_getElem? (i := 833) rfl
set_option maxRecDepth 100000 in
theorem cw_17 : codeW 17 ∈ tables_1 := List.mem_of_getElem? (i := 645) rfl
set_option maxRecDepth 100000 in
theorem cw_18 : codeW 18 ∈ tables_1 := List.mem_of_getElem? (i := 650) rfl
set_option maxRecDepth 100000 in
theorem cw_19 : codeW 19 ∈ tables_1 := List.mem_of_getElem? (i := 661) rfl
set_option maxRecDepth 100000 in
theorem cw_20 : codeW 20 ∈ tables_1 := List.mem_of_getElem? (i := 671) rfl
set_option maxRecDepth 100000 in
theorem cw_21 : codeW 21 ∈ tables_1 := List.mem_of_getElem? (i := 231) rfl
set_option maxRecDepth 100000 in
theorem cw_22 : codeW 22 ∈ tables_1 := List.mem_of_getElem? (i := 899) rfl
set_option maxRecDepth 100000 in
theorem cw_23 : codeW 23 ∈ tables_1 := List.mem_of_getElem? (i := 829) rfl
set_option maxRecDepth 100000 in
theorem cw_24 : codeW 24 ∈ tables_1 := List.mem_of_getElem? (i := 719) rfl
set_option maxRecDepth 100000 in
theorem cw_25 : codeW 25 ∈ tables_1 := List.mem_of_getElem? (i := 723) rfl
set_option maxRecDepth 100000 in
theorem cw_26 : codeW 26 ∈ tables_1 := List.mem_of_getElem? (i := 915) rfl
set_option maxRecDepth 100000 in
theorem cw_27 : codeW 27 ∈ tables_1 := List.mem_of_getElem? (i := 928) rfl
set_option maxRecDepth 100000 in
theorem cw_28 : codeW 28 ∈ tables_1 := List.mem_of_getElem? (i := 932) rfl
set_option maxRecDepth 100000 in
theorem cw_29 : codeW 29 ∈ tables_1 := List.mem_of_getElem? (i := 53) rfl
set_option maxRecDepth 100000 in
theorem cw_30 : codeW 30 ∈ tables_1 := List.mem_of_getElem? (i := 631) rfl
set_option maxRecDepth 100000 in
theorem cw_31 : codeW 31 ∈ tables_1 := List.mem_of_getElem? (i := 515) rfl
set_option maxRecDepth 100000 in
theorem cw_32 : codeW 32 ∈ tables_1 := List.mem_of_getElem? (i := 527) rfl
set_option maxRecDepth 100000 in
theorem cw_33 : codeW 33 ∈ tables_1 := List.mem_of_getElem? (i := 601) rfl
set_option maxRecDepth 100000 in
theorem cw_34 : codeW 34 ∈ tables_1 := List.mem_of_getElem? (i := 604) rfl
set_option maxRecDepth 100000 in
theorem cw_35 : codeW 35 ∈ tables_1 := List.mem_of_getElem? (i := 116) rfl
set_option maxRecDepth 100000 in
theorem cw_36 : codeW 36 ∈ tables_1 := List.mem_of_getElem? (i := 457) rfl
set_option maxRecDepth 100000 in
theorem cw_37 : codeW 37 ∈ tables_1 := List.mem_of_getElem? (i := 461) rfl
set_option maxRecDepth 100000 in
theorem cw_38 : codeW 38 ∈ tables_1 := List.mem_of_getElem? (i := 696) rfl
set_option maxRecDepth 100000 in
theorem cw_39 : codeW 39 ∈ tables_1 := List.mem_of_getElem? (i := 735) rfl
set_option maxRecDepth 100000 in
theorem cw_40 : codeW 40 ∈ tables_1 := List.mem_of_getElem? (i := 952) rfl
set_option maxRecDepth 100000 in
theorem cw_41 : codeW 41 ∈ tables_1 := List.mem_of_getElem? (i := 817) rfl
set_option maxRecDepth 100000 in
theorem cw_42 : codeW 42 ∈ tables_1 := List.mem_of_getElem? (i := 821) rfl
set_option maxRecDepth 100000 in
theorem cw_43 : codeW 43 ∈ tables_1 := List.mem_of_getElem? (i := 34) rfl
set_option maxRecDepth 100000 in
theorem cw_44 : codeW 44 ∈ tables_1 := List.mem_of_getElem? (i := 337) rfl
set_option maxRecDepth 100000 in
theorem cw_45 : codeW 45 ∈ tables_1 := List.mem_of_getElem? (i := 519) rfl
set_option maxRecDepth 100000 in
theorem cw_46 : codeW 46 ∈ tables_1 := List.mem_of_getElem? (i := 613) rfl
set_option maxRecDepth 100000 in
theorem cw_47 : codeW 47 ∈ tables_1 := List.mem_of_getElem? (i := 597) rfl
set_option maxRecDepth 100000 in
theorem cw_48 : codeW 48 ∈ tables_1 := List.mem_of_getElem? (i := 532) rfl
set_option maxRecDepth 100000 in
theorem cw_49 : codeW 49 ∈ tables_1 := List.mem_of_getElem? (i := 665) rfl
set_option maxRecDepth 100000 in
theorem cw_50 : codeW 50 ∈ tables_1 := List.mem_of_getElem? (i := 654) rfl
set_option maxRecDepth 100000 in
theorem cw_51 : codeW 51 ∈ tables_1 := List.mem_of_getElem? (i := 593) rfl
set_option maxRecDepth 100000 in
theorem cw_52 : codeW 52 ∈ tables_1 := List.mem_of_getElem? (i := 536) rfl
set_option maxRecDepth 100000 in
theorem cw_53 : codeW 53 ∈ tables_1 := List.mem_of_getElem? (i := 540) rfl
set_option maxRecDepth 100000 in
theorem cw_54 : codeW 54 ∈ tables_1 := List.mem_of_getElem? (i := 523) rfl
set_option maxRecDepth 100000 in
theorem cw_55 : codeW 55 ∈ tables_1 := List.mem_of_getElem? (i := 26) rfl
set_option maxRecDepth 100000 in
theorem cw_56 : codeW 56 ∈ tables_1 := List.mem_of_getElem? (i := 333) rfl
set_option maxRecDepth 100000 in
theorem cw_57 : codeW 57 ∈ tables_1 := List.mem_of_getElem? (i := 341) rfl
set_option maxRecDepth 100000 in
theorem cw_58 : codeW 58 ∈ tables_1 := List.mem_of_getElem? (i := 363) rfl
set_option maxRecDepth 100000 in
theorem cw_59 : codeW 59 ∈ tables_1 := List.mem_of_getElem? (i := 469) rfl
set_option maxRecDepth 100000 in
theorem cw_60 : codeW 60 ∈ tables_1 := List.mem_of_getElem? (i := 498) rfl
set_option maxRecDepth 100000 in
theorem cw_61 : codeW 61 ∈ tables_1 := List.mem_of_getElem? (i := 511) rfl
set_option maxRecDepth 100000 in
theorem cw_62 : codeW 62 ∈ tables_1 := List.mem_of_getElem? (i := 641) rfl
set_option maxRecDepth 100000 in
theorem cw_63 : codeW 63 ∈ tables_1 := List.mem_of_getElem? (i := 345) rfl
set_option maxRecDepth 100000 in
theorem cw_64 : codeW 64 ∈ tables_1 := List.mem_of_getElem? (i := 687) rfl
set_option maxRecDepth 100000 in
theorem cw_65 : codeW 65 ∈ tables_1 := List.mem_of_getElem? (i := 845) rfl
set_option maxRecDepth 100000 in
theorem cw_66 : codeW 66 ∈ tables_1 := List.mem_of_getElem? (i := 872) rfl
set_option maxRecDepth 100000 in
theorem cw_67 : codeW 67 ∈ tables_1 := List.mem_of_getElem? (i := 880) rfl
set_option maxRecDepth 100000 in
theorem cw_68 : codeW 68 ∈ tables_1 := List.mem_of_getElem? (i := 888) rfl
set_option maxRecDepth 100000 in
theorem cw_69 : codeW 69 ∈ tables_1 := List.mem_of_getElem? (i := 895) rfl
set_option maxRecDepth 100000 in
theorem cw_70 : codeW 70 ∈ tables_1 := List.mem_of_getElem? (i := 908) rfl
set_option maxRecDepth 100000 in
theorem cw_71 : codeW 71 ∈ tables_1 := List.mem_of_getElem? (i := 923) rfl
set_option maxRecDepth 100000 in
theorem cw_72 : codeW 72 ∈ tables_1 := List.mem_of_getElem? (i := 939) rfl
set_option maxRecDepth 100000 in
theorem cw_73 : codeW 73 ∈ tables_1 := List.mem_of_getElem? (i := 349) rfl
set_option maxRecDepth 100000 in
theorem cw_74 : codeW 74 ∈ tables_1 := List.mem_of_getElem? (i := 369) rfl
set_option maxRecDepth 100000 in
theorem cw_75 : codeW 75 ∈ tables_1 := List.mem_of_getElem? (i := 366) rfl
set_option maxRecDepth 100000 in
theorem cw_76 : codeW 76 ∈ tables_1 := List.mem_of_getElem? (i := 473) rfl
set_option maxRecDepth 100000 in
theorem cw_77 : codeW 77 ∈ tables_1 := List.mem_of_getElem? (i := 621) rfl
set_option maxRecDepth 100000 in
theorem cw_78 : codeW 78 ∈ tables_1 := List.mem_of_getElem? (i := 617) rfl
set_option maxRecDepth 100000 in
theorem cw_79 : codeW 79 ∈ tables_1 := List.mem_of_getElem? (i := 849) rfl
set_option maxRecDepth 100000 in
theorem cw_80 : codeW 80 ∈ tables_1 := List.mem_of_getElem? (i := 353) rfl
set_option maxRecDepth 100000 in
theorem cw_81 : codeW 81 ∈ tables_1 := List.mem_of_getElem? (i := 944) rfl
set_option maxRecDepth 100000 in
theorem cw_82 : codeW 82 ∈ tables_1 := List.mem_of_getElem? (i := 948) rfl
set_option maxRecDepth 100000 in
theorem cw_83 : codeW 83 ∈ tables_1 := List.mem_of_getElem? (i := 692) rfl
set_option maxRecDepth 100000 in
theorem cw_84 : codeW 84 ∈ tables_1 := List.mem_of_getElem? (i := 706) rfl
set_option maxRecDepth 100000 in
theorem cw_85 : codeW 85 ∈ tables_1 := List.mem_of_getElem? (i := 731) rfl
set_option maxRecDepth 100000 in
theorem cw_86 : codeW 86 ∈ tables_1 := List.mem_of_getElem? (i := 739) rfl
set_option maxRecDepth 100000 in
theorem cw_87 : codeW 87 ∈ tables_1 := List.mem_of_getElem? (i := 743) rfl
set_option maxRecDepth 100000 in
theorem cw_88 : codeW 88 ∈ tables_1 := List.mem_of_getElem? (i := 751) rfl
set_option maxRecDepth 100000 in
theorem cw_89 : codeW 89 ∈ tables_1 := List.mem_of_getElem? (i := 759) rfl
set_option maxRecDepth 100000 in
theorem cw_90 : codeW 90 ∈ tables_1 := List.mem_of_getElem? (i := 767) rfl
set_option maxRecDepth 100000 in
theorem cw_91 : codeW 91 ∈ tables_1 := List.mem_of_getElem? (i := 771) rfl
set_option maxRecDepth 100000 in
theorem cw_92 : codeW 92 ∈ tables_1 := List.mem_of_getElem? (i := 780) rfl
set_option maxRecDepth 100000 in
theorem cw_93 : codeW 93 ∈ tables_1 := List.mem_of_getElem? (i := 788) rfl
set_option maxRecDepth 100000 in
theorem cw_94 : codeW 94 ∈ tables_1 := List.mem_of_getElem? (i := 792) rfl
set_option maxRecDepth 100000 in
theorem cw_95 : codeW 95 ∈ tables_1 := List.mem_of_getElem? (i := 796) rfl
set_option maxRecDepth 100000 in
theorem cw_96 : codeW 96 ∈ tables_1 := List.mem_of_getElem? (i := 805) rfl
set_option maxRecDepth 100000 in
theorem cw_97 : codeW 97 ∈ tables_1 := List.mem_of_getElem? (i := 813) rfl
set_option maxRecDepth 100000 in
theorem cw_98 : codeW 98 ∈ tables_1 := List.mem_of_getElem? (i := 957) rfl
set_option maxRecDepth 100000 in
theorem cw_99 : codeW 99 ∈ tables_1 := List.mem_of_getElem? (i := 1117) rfl
set_option maxRecDepth 100000 in
theorem cw_100 : codeW 100 ∈ tables_1 := List.mem_of_getElem? (i := 1133) rfl
set_option maxRecDepth 100000 in
theorem cw_101 : codeW 101 ∈ tables_1 := List.mem_of_getElem? (i := 1125) rfl
set_option maxRecDepth 100000 in
theorem cw_102 : codeW 102 ∈ tables_1 := List.mem_of_getElem? (i := 1141) rfl
set_option maxRecDepth 100000 in
theorem cw_103 : codeW 103 ∈ tables_1 := List.mem_of_getElem? (i := 1226) rfl
set_option maxRecDepth 100000 in
theorem cw_104 : codeW 104 ∈ tables_1 := List.mem_of_getElem? (i := 1170) rfl
set_option maxRecDepth 100000 in
theorem cw_105 : codeW 105 ∈ tables_1 := List.mem_of_getElem? (i := 1121) rfl
set_option maxRecDepth 100000 in
theorem cw_106 : codeW 106 ∈ tables_1 := List.mem_of_getElem? (i := 1137) rfl
set_option maxRecDepth 100000 in
theorem cw_107 : codeW 107 ∈ tables_1 := List.mem_of_getElem? (i := 1146) rfl
set_option maxRecDepth 100000 in
theorem cw_108 : codeW 108 ∈ tables_1 := List.mem_of_getElem? (i := 1198) rfl
set_option maxRecDepth 100000 in
theorem cw_109 : codeW 109 ∈ tables_1 := List.mem_of_getElem? (i := 1162) rfl
set_option maxRecDepth 100000 in
theorem cw_110 : codeW 110 ∈ tables_1 := List.mem_of_getElem? (i := 1158) rfl
set_option maxRecDepth 100000 in
theorem cw_111 : codeW 111 ∈ tables_1 := List.mem_of_getElem? (i := 1166) rfl
set_option maxRecDepth 100000 in
theorem cw_112 : codeW 112 ∈ tables_1 := List.mem_of_getElem? (i := 1174) rfl
set_option maxRecDepth 100000 in
theorem cw_113 : codeW 113 ∈ tables_1 := List.mem_of_getElem? (i := 1182) rfl
set_option maxRecDepth 100000 in
theorem cw_114 : codeW 114 ∈ tables_1 := List.mem_of_getElem? (i := 1178) rfl
set_option maxRecDepth 100000 in
theorem cw_115 : codeW 115 ∈ tables_1 := List.mem_of_getElem? (i := 1206) rfl
set_option maxRecDepth 100000 in
theorem cw_116 : codeW 116 ∈ tables_1 := List.mem_of_getElem? (i := 1202) rfl
set_option maxRecDepth 100000 in
theorem cw_117 : codeW 117 ∈ tables_1 := List.mem_of_getElem? (i := 1194) rfl
set_option maxRecDepth 100000 in
theorem cw_118 : codeW 118 ∈ tables_1 := List.mem_of_getElem? (i := 1190) rfl
set_option maxRecDepth 100000 in
theorem cw_119 : codeW 119 ∈ tables_1 := List.mem_of_getElem? (i := 1186) rfl
set_option maxRecDepth 100000 in
theorem cw_120 : codeW 120 ∈ tables_1 := List.mem_of_getElem? (i := 1151) rfl
set_option maxRecDepth 100000 in
theorem cw_121 : codeW 121 ∈ tables_1 := List.mem_of_getElem? (i := 1210) rfl
set_option maxRecDepth 100000 in
theorem cw_122 : codeW 122 ∈ tables_1 := List.mem_of_getElem? (i := 1214) rfl
set_option maxRecDepth 100000 in
theorem cw_123 : codeW 123 ∈ tables_1 := List.mem_of_getElem? (i := 1238) rfl
set_option maxRecDepth 100000 in
theorem cw_124 : codeW 124 ∈ tables_1 := List.mem_of_getElem? (i := 1246) rfl
set_option maxRecDepth 100000 in
theorem cw_125 : codeW 125 ∈ tables_1 := List.mem_of_getElem? (i := 1263) rfl
set_option maxRecDepth 100000 in
theorem cw_126 : codeW 126 ∈ tables_1 := List.mem_of_getElem? (i := 1249) rfl
set_option maxRecDepth 100000 in
theorem cw_127 : codeW 127 ∈ tables_1 := List.mem_of_getElem? (i := 1242) rfl
set_option maxRecDepth 100000 in
theorem cw_128 : codeW 128 ∈ tables_1 := List.mem_of_getElem? (i := 1278) rfl
set_option maxRecDepth 100000 in
theorem cw_129 : codeW 129 ∈ tables_1 := List.mem_of_getElem? (i := 1274) rfl
set_option maxRecDepth 100000 in
theorem cw_130 : codeW 130 ∈ tables_1 := List.mem_of_getElem? (i := 1269) rfl
set_option maxRecDepth 100000 in
theorem cw_131 : codeW 131 ∈ tables_1 := List.mem_of_getElem? (i := 1234) rfl
set_option maxRecDepth 100000 in
theorem cw_132 : codeW 132 ∈ tables_1 := List.mem_of_getElem? (i := 1230) rfl
set_option maxRecDepth 100000 in
theorem cw_133 : codeW 133 ∈ tables_1 := List.mem_of_getElem? (i := 1222) rfl
set_option maxRecDepth 100000 in
theorem cw_134 : codeW 134 ∈ tables_1 := List.mem_of_getElem? (i := 1218) rfl
set_option maxRecDepth 100000 in
theorem cw_135 : codeW 135 ∈ tables_1 := List.mem_of_getElem? (i := 1286) rfl
set_option maxRecDepth 100000 in
theorem cw_136 : codeW 136 ∈ tables_1 := List.mem_of_getElem? (i := 1282) rfl
set_option maxRecDepth 100000 in
theorem cw_137 : codeW 137 ∈ tables_1 := List.mem_of_getElem? (i := 1290) rfl
set_option maxRecDepth 100000 in
theorem cw_138 : codeW 138 ∈ tables_1 := List.mem_of_getElem? (i := 1294) rfl
set_option maxRecDepth 100000 in
theorem cw_139 : codeW 139 ∈ tables_1 := List.mem_of_getElem? (i := 1298) rfl
set_option maxRecDepth 100000 in
theorem cw_140 : codeW 140 ∈ tables_1 := List.mem_of_getElem? (i := 1302) rfl
set_option maxRecDepth 100000 in
theorem cw_141 : codeW 141 ∈ tables_1 := List.mem_of_getElem? (i := 1306) rfl
set_option maxRecDepth 100000 in
theorem cw_142 : codeW 142 ∈ tables_1 := List.mem_of_getElem? (i := 1314) rfl
set_option maxRecDepth 100000 in
theorem cw_143 : codeW 143 ∈ tables_1 := List.mem_of_getElem? (i := 1310) rfl
set_option maxRecDepth 100000 in
theorem cw_144 : codeW 144 ∈ tables_1 := List.mem_of_getElem? (i := 1318) rfl
set_option maxRecDepth 100000 in
theorem cw_145 : codeW 145 ∈ tables_1 := List.mem_of_getElem? (i := 1324) rfl
set_option maxRecDepth 100000 in
theorem cw_146 : codeW 146 ∈ tables_1 := List.mem_of_getElem? (i := 1329) rfl
set_option maxRecDepth 100000 in
theorem cw_147 : codeW 147 ∈ tables_1 := List.mem_of_getElem? (i := 1334) rfl
set_option maxRecDepth 100000 in
theorem cw_148 : codeW 148 ∈ tables_1 := List.mem_of_getElem? (i := 357) rfl
set_option maxRecDepth 100000 in
theorem cw_149 : codeW 149 ∈ tables_1 := List.mem_of_getElem? (i := 464) rfl
set_option maxRecDepth 100000 in
theorem cw_150 : codeW 150 ∈ tables_1 := List.mem_of_getElem? (i := 494) rfl
set_option maxRecDepth 100000 in
theorem cw_151 : codeW 151 ∈ tables_1 := List.mem_of_getElem? (i := 507) rfl
set_option maxRecDepth 100000 in
theorem cw_152 : codeW 152 ∈ tables_1 := List.mem_of_getElem? (i := 637) rfl
set_option maxRecDepth 100000 in
theorem cw_153 : codeW 153 ∈ tables_1 := List.mem_of_getElem? (i := 683) rfl
set_option maxRecDepth 100000 in
theorem cw_154 : codeW 154 ∈ tables_1 := List.mem_of_getElem? (i := 840) rfl
set_option maxRecDepth 100000 in
theorem cw_155 : codeW 155 ∈ tables_1 := List.mem_of_getElem? (i := 868) rfl
set_option maxRecDepth 100000 in
theorem cw_156 : codeW 156 ∈ tables_1 := List.mem_of_getElem? (i := 876) rfl
set_option maxRecDepth 100000 in
theorem cw_157 : codeW 157 ∈ tables_1 := List.mem_of_getElem? (i := 884) rfl
set_option maxRecDepth 100000 in
theorem cw_158 : codeW 158 ∈ tables_1 := List.mem_of_getElem? (i := 891) rfl
set_option maxRecDepth 100000 in
theorem cw_159 : codeW 159 ∈ tables_1 := List.mem_of_getElem? (i := 904) rfl
set_option maxRecDepth 100000 in
theorem cw_160 : codeW 160 ∈ tables_1 := List.mem_of_getElem? (i := 919) rfl
set_option maxRecDepth 100000 in
theorem cw_161 : codeW 161 ∈ tables_1 := List.mem_of_getElem? (i := 935) rfl
theorem cw_all : ∀ x, x < 162 → codeW x ∈ tables_1
  | 0, _ => cw_0
  | 1, _ => cw_1
  | 2, _ => cw_2
  | 3, _ => cw_3
  | 4, _ => cw_4
  | 5, _ => cw_5
  | 6, _ => cw_6
  | 7, _ => cw_7
  | 8, _ => cw_8
  | 9, _ => cw_9
  | 10, _ => cw_10
  | 11, _ => cw_11
  | 12, _ => cw_12
  | 13, _ => cw_13
  | 14, _ => cw_14
  | 15, _ => cw_15
  | 16, _ => cw_16
  | 17, _ => cw_17
  | 18, _ => cw_18
  | 19, _ => cw_19
  | 20, _ => cw_20
  | 21, _ => cw_21
  | 22, _ => cw_22
  | 23, _ => cw_23
  | 24, _ => cw_24
  | 25, _ => cw_25
  | 26, _ => cw_26
  | 27, _ => cw_27
  | 28, _ => cw_28
  | 29, _ => cw_29
  | 30, _ => cw_30
  | 31, _ => cw_31
  | 32, _ => cw_32
  | 33, _ => cw_33
  | 34, _ => cw_34
  | 35, _ => cw_35
  | 36, _ => cw_36
  | 37, _ => cw_37
  | 38, _ => cw_38
  | 39, _ => cw_39
  | 40, _ => cw_40
  | 41, _ => cw_41
  | 42, _ => cw_42
  | 43, _ => cw_43
  | 44, _ => cw_44
  | 45, _ => cw_45
  | 46, _ => cw_46
  | 47, _ => cw_47
  | 48, _ => cw_48
  | 49, _ => cw_49
  | 50, _ => cw_50
  | 51, _ => cw_51
  | 52, _ => cw_52
  | 53, _ => cw_53
  | 54, _ => cw_54
  | 55, _ => cw_55
  | 56, _ => cw_56
  | 57, _ => cw_57
  | 58, _ => cw_58
  | 59, _ => cw_59
  | 60, _ => cw_60
  | 61, _ => cw_61
  | 62, _ => cw_62
  | 63, _ => cw_63
  | 64, _ => cw_64
  | 65, _ => cw_65
  | 66, _ => cw_66
  | 67, _ => cw_67
  | 68, _ => cw_68
  | 69, _ => cw_69
  | 70, _ => cw_70
  | 71, _ => cw_71
  | 72, _ => cw_72
  | 73, _ => cw_73
  | 74, _ => cw_74
  | 75, _ => cw_75
  | 76, _ => cw_76
  | 77, _ => cw_77
  | 78, _ => cw_78
  | 79, _ => cw_79
  | 80, _ => cw_80
  | 81, _ => cw_81
  | 82, _ => cw_82
  | 83, _ => cw_83
  | 84, _ => cw_84
  | 85, _ => cw_85
  | 86, _ => cw_86
  | 87, _ => cw_87
  | 88, _ => cw_88
  | 89, _ => cw_89
  | 90, _ => cw_90
  | 91, _ => cw_91
  | 92, _ => cw_92
  | 93, _ => cw_93
  | 94, _ => cw_94
  | 95, _ => cw_95
  | 96, _ => cw_96
  | 97, _ => cw_97
  | 98, _ => cw_98
  | 99, _ => cw_99
  | 100, _ => cw_100
  | 101, _ => cw_101
  | 102, _ => cw_102
  | 103, _ => cw_103
  | 104, _ => cw_104
  | 105, _ => cw_105
  | 106, _ => cw_106
  | 107, _ => cw_107
  | 108, _ => cw_108
  | 109, _ => cw_109
  | 110, _ => cw_110
  | 111, _ => cw_111
  | 112, _ => cw_112
  | 113, _ => cw_113
  | 114, _ => cw_114
  | 115, _ => cw_115
  | 116, _ => cw_116
  | 117, _ => cw_117
  | 118, _ => cw_118
  | 119, _ => cw_119
  | 120, _ => cw_120
  | 121, _ => cw_121
  | 122, _ => cw_122
  | 123, _ => cw_123
  | 124, _ => cw_124
  | 125, _ => cw_125
  | 126, _ => cw_126
  | 127, _ => cw_127
  | 128, _ => cw_128
  | 129, _ => cw_129
  | 130, _ => cw_130
  | 131, _ => cw_131
  | 132, _ => cw_132
  | 133, _ => cw_133
  | 134, _ => cw_134
  | 135, _ => cw_135
  | 136, _ => cw_136
  | 137, _ => cw_137
  | 138, _ => cw_138
  | 139, _ => cw_139
  | 140, _ => cw_140
  | 141, _ => cw_141
  | 142, _ => cw_142
  | 143, _ => cw_143
  | 144, _ => cw_144
  | 145, _ => cw_145
  | 146, _ => cw_146
  | 147, _ => cw_147
  | 148, _ => cw_148
  | 149, _ => cw_149
  | 150, _ => cw_150
  | 151, _ => cw_151
  | 152, _ => cw_152
  | 153, _ => cw_153
  | 154, _ => cw_154
  | 155, _ => cw_155
  | 156, _ => cw_156
  | 157, _ => cw_157
  | 158, _ => cw_158
  | 159, _ => cw_159
  | 160, _ => cw_160
  | 161, _ => cw_161
  | n + 162, h => absurd h (by omega)
theorem codeW_in {x : Nat} (h : x < 162) : codeW x ∈ wG := by
  refine List.mem_filter.mpr ⟨List.mem_append_right _ (cw_all x h), ?_⟩
  unfold codeW
  split <;> rfl
