theorem wt_26 : Cond.methodLink "UnlikeLoaves" 1 Lib.objectInit ∈ mU := lt_1 26 rfl rfl
theorem wt_27 : Cond.instanceMethod Lib.objectInit ∈ mU := lt_1 27 rfl rfl
theorem wt_28 : Cond.code Lib.objectInit ⟨#[0xb1]⟩ 1 none ∈ mU := lt_1 28 rfl rfl
theorem wt_29 : Cond.classLink "UnlikeLoaves" 13 "UnlikeLoaves$Tape" ∈ mU := lt_1 29 rfl rfl
theorem wt_30 : Cond.instantiable "UnlikeLoaves$Tape" (mN 10) ∈ mU := lt_1 30 rfl rfl
theorem wt_32 : Cond.instanceMethod yX10_init ∈ mU := lt_1 32 rfl rfl
theorem wt_33 : Cond.code yX10_init cX10_init 1 none ∈ mU := lt_1 33 rfl rfl
theorem wt_34 : Cond.methodLink "UnlikeLoaves$Tape" 3 Lib.objectInit ∈ mU := lt_1 34 rfl rfl
theorem wt_48 : Cond.arrayClass (newarray.typeOf (natyp 0)) ∈ mU := lt_1 48 rfl rfl
theorem wt_49 : Cond.classLink "UnlikeLoaves" 20 "UnlikeLoaves$Scanner" ∈ mU := lt_1 49 rfl rfl
theorem wt_50 : Cond.instantiable "UnlikeLoaves$Scanner" (mN 8) ∈ mU := lt_1 50 rfl rfl
theorem wt_51 : Cond.methodLink "UnlikeLoaves" 22 yX8_init ∈ mU := lt_1 51 rfl rfl
theorem wt_52 : Cond.instanceMethod yX8_init ∈ mU := lt_1 52 rfl rfl
theorem wt_53 : Cond.code yX8_init cX8_init 2 none ∈ mU := lt_1 53 rfl rfl
theorem wt_54 : Cond.methodLink "UnlikeLoaves$Scanner" 3 Lib.objectInit ∈ mU := lt_1 54 rfl rfl
theorem wt_78 : Cond.classLink "UnlikeLoaves" 29 "UnlikeLoaves$Phrases" ∈ mU := lt_1 78 rfl rfl
theorem wt_79 : Cond.instantiable "UnlikeLoaves$Phrases" (mN 6) ∈ mU := lt_1 79 rfl rfl
theorem wt_80 : Cond.methodLink "UnlikeLoaves" 31 yX6_init ∈ mU := lt_1 80 rfl rfl
theorem wt_81 : Cond.instanceMethod yX6_init ∈ mU := lt_1 81 rfl rfl
theorem wt_82 : Cond.code yX6_init cX6_init 2 none ∈ mU := lt_1 82 rfl rfl
theorem wt_83 : Cond.methodLink "UnlikeLoaves$Phrases" 3 Lib.objectInit ∈ mU := lt_1 83 rfl rfl
theorem wt_94 : Cond.classLink "UnlikeLoaves" 38 "UnlikeLoaves$OfficeReader" ∈ mU := lt_1 94 rfl rfl
theorem wt_95 : Cond.instantiable "UnlikeLoaves$OfficeReader" (mN 4) ∈ mU := lt_1 95 rfl rfl
theorem wt_96 : Cond.methodLink "UnlikeLoaves" 40 yX4_init ∈ mU := lt_1 96 rfl rfl
theorem wt_97 : Cond.instanceMethod yX4_init ∈ mU := lt_1 97 rfl rfl
theorem wt_98 : Cond.code yX4_init cX4_init 3 none ∈ mU := lt_1 98 rfl rfl
theorem wt_99 : Cond.methodLink "UnlikeLoaves$OfficeReader" 3 Lib.objectInit ∈ mU := lt_1 99 rfl rfl
theorem wt_100 : Cond.classLink "UnlikeLoaves$OfficeReader" 9 "UnlikeLoaves$Rules" ∈ mU := lt_1 100 rfl rfl
theorem wt_101 : Cond.instantiable "UnlikeLoaves$Rules" (mN 7) ∈ mU := lt_1 101 rfl rfl
theorem wt_103 : Cond.instanceMethod yX7_init ∈ mU := lt_1 103 rfl rfl
theorem wt_104 : Cond.code yX7_init cX7_init 1 none ∈ mU := lt_1 104 rfl rfl
theorem wt_105 : Cond.methodLink "UnlikeLoaves$Rules" 3 Lib.objectInit ∈ mU := lt_1 105 rfl rfl
theorem wt_106 : Cond.classLink "UnlikeLoaves$Rules" 47 "UnlikeLoaves$Formula" ∈ mU := lt_1 106 rfl rfl
theorem wt_107 : Cond.instantiable "UnlikeLoaves$Formula" (mN 2) ∈ mU := lt_1 107 rfl rfl
theorem wt_109 : Cond.instanceMethod yX2_init ∈ mU := lt_1 109 rfl rfl
theorem wt_110 : Cond.code yX2_init cX2_init 1 none ∈ mU := lt_1 110 rfl rfl
theorem wt_111 : Cond.methodLink "UnlikeLoaves$Formula" 5 Lib.objectInit ∈ mU := lt_1 111 rfl rfl
theorem wt_218 : Cond.classLink "UnlikeLoaves" 47 "UnlikeLoaves$Rules" ∈ mU := lt_1 218 rfl rfl
theorem wt_220 : Cond.classLink "UnlikeLoaves" 54 "UnlikeLoaves$Finder" ∈ mU := lt_1 220 rfl rfl
theorem wt_221 : Cond.instantiable "UnlikeLoaves$Finder" (mN 1) ∈ mU := lt_1 221 rfl rfl
theorem wt_222 : Cond.methodLink "UnlikeLoaves" 56 yX1_init ∈ mU := lt_1 222 rfl rfl
theorem wt_223 : Cond.instanceMethod yX1_init ∈ mU := lt_1 223 rfl rfl
theorem wt_224 : Cond.code yX1_init cX1_init 3 none ∈ mU := lt_1 224 rfl rfl
theorem wt_225 : Cond.methodLink "UnlikeLoaves$Finder" 3 Lib.objectInit ∈ mU := lt_1 225 rfl rfl
theorem wt_253 : Cond.arrayClass (newarray.typeOf (natyp 1)) ∈ mU := lt_2 13 rfl rfl
theorem wt_254 : Cond.classLink "UnlikeLoaves" 63 "UnlikeLoaves$State" ∈ mU := lt_2 14 rfl rfl
theorem wt_255 : Cond.instantiable "UnlikeLoaves$State" (mN 9) ∈ mU := lt_2 15 rfl rfl
theorem wt_257 : Cond.instanceMethod yX9_init ∈ mU := lt_2 17 rfl rfl
theorem wt_258 : Cond.code yX9_init cX9_init 1 none ∈ mU := lt_2 18 rfl rfl
theorem wt_259 : Cond.methodLink "UnlikeLoaves$State" 3 Lib.objectInit ∈ mU := lt_2 19 rfl rfl
theorem wt_292 : Cond.classLink "UnlikeLoaves" 70 "UnlikeLoaves$History" ∈ mU := lt_2 52 rfl rfl
theorem wt_293 : Cond.instantiable "UnlikeLoaves$History" (mN 3) ∈ mU := lt_2 53 rfl rfl
theorem wt_294 : Cond.methodLink "UnlikeLoaves" 72 yX3_init ∈ mU := lt_2 54 rfl rfl
theorem wt_295 : Cond.instanceMethod yX3_init ∈ mU := lt_2 55 rfl rfl
theorem wt_296 : Cond.code yX3_init cX3_init 2 none ∈ mU := lt_2 56 rfl rfl
theorem wt_297 : Cond.methodLink "UnlikeLoaves$History" 1 Lib.objectInit ∈ mU := lt_2 57 rfl rfl
theorem wt_298 : Cond.classLink "UnlikeLoaves$History" 9 "UnlikeLoaves$State" ∈ mU := lt_2 58 rfl rfl
theorem wt_312 : Cond.classLink "UnlikeLoaves" 77 "UnlikeLoaves$Course" ∈ mU := lt_2 72 rfl rfl
theorem wt_313 : Cond.instantiable "UnlikeLoaves$Course" (mN 0) ∈ mU := lt_2 73 rfl rfl
theorem wt_314 : Cond.methodLink "UnlikeLoaves" 79 yX0_init ∈ mU := lt_2 74 rfl rfl
theorem wt_315 : Cond.instanceMethod yX0_init ∈ mU := lt_2 75 rfl rfl
theorem wt_316 : Cond.code yX0_init cX0_init 2 none ∈ mU := lt_2 76 rfl rfl
theorem wt_317 : Cond.methodLink "UnlikeLoaves$Course" 3 Lib.objectInit ∈ mU := lt_2 77 rfl rfl
theorem wt_325 : Cond.classLink "UnlikeLoaves" 84 "UnlikeLoaves$Outlook" ∈ mU := lt_2 85 rfl rfl
theorem wt_326 : Cond.instantiable "UnlikeLoaves$Outlook" (mN 5) ∈ mU := lt_2 86 rfl rfl
theorem wt_327 : Cond.methodLink "UnlikeLoaves" 86 yX5_init ∈ mU := lt_2 87 rfl rfl
theorem wt_328 : Cond.instanceMethod yX5_init ∈ mU := lt_2 88 rfl rfl
theorem wt_329 : Cond.code yX5_init cX5_init 4 none ∈ mU := lt_2 89 rfl rfl
theorem wt_330 : Cond.methodLink "UnlikeLoaves$Outlook" 3 Lib.objectInit ∈ mU := lt_2 90 rfl rfl
theorem wt_331 : Cond.classLink "UnlikeLoaves$Outlook" 9 "UnlikeLoaves$State" ∈ mU := lt_2 91 rfl rfl
theorem wt_377 : Cond.classLink "UnlikeLoaves" 93 "UnlikeLoaves$Formula" ∈ mU := lt_2 137 rfl rfl
theorem wt_1262 : Cond.methodLink "UnlikeLoavesModel" 1 Lib.objectInit ∈ mU := lt_6 62 rfl rfl
theorem wt_1600 : Cond.arrayClass (newarray.typeOf (natyp 2)) ∈ mU := lt_7 160 rfl rfl
theorem ks_192 : (Int16.ofInt (192)).toInt32 = (192 : Int32) := by decide +kernel
theorem kb_36 : (Int8.ofInt (36)).toInt32 = (36 : Int32) := by decide +kernel
theorem ks_961 : (Int16.ofInt (961)).toInt32 = (961 : Int32) := by decide +kernel
theorem kb_69 : (Int8.ofInt (69)).toInt32 = (69 : Int32) := by decide +kernel
theorem kb_102 : (Int8.ofInt (102)).toInt32 = (102 : Int32) := by decide +kernel
theorem kb_105 : (Int8.ofInt (105)).toInt32 = (105 : Int32) := by decide +kernel
theorem kb_110 : (Int8.ofInt (110)).toInt32 = (110 : Int32) := by decide +kernel
theorem kb_101 : (Int8.ofInt (101)).toInt32 = (101 : Int32) := by decide +kernel
theorem kb_115 : (Int8.ofInt (115)).toInt32 = (115 : Int32) := by decide +kernel
theorem kb_116 : (Int8.ofInt (116)).toInt32 = (116 : Int32) := by decide +kernel
theorem kb_109 : (Int8.ofInt (109)).toInt32 = (109 : Int32) := by decide +kernel
theorem kb_111 : (Int8.ofInt (111)).toInt32 = (111 : Int32) := by decide +kernel
theorem kb_112 : (Int8.ofInt (112)).toInt32 = (112 : Int32) := by decide +kernel
theorem kb_114 : (Int8.ofInt (114)).toInt32 = (114 : Int32) := by decide +kernel
theorem kb_117 : (Int8.ofInt (117)).toInt32 = (117 : Int32) := by decide +kernel
theorem kb_104 : (Int8.ofInt (104)).toInt32 = (104 : Int32) := by decide +kernel
theorem kb_118 : (Int8.ofInt (118)).toInt32 = (118 : Int32) := by decide +kernel
theorem kb_98 : (Int8.ofInt (98)).toInt32 = (98 : Int32) := by decide +kernel
theorem kb_121 : (Int8.ofInt (121)).toInt32 = (121 : Int32) := by decide +kernel
theorem kb_107 : (Int8.ofInt (107)).toInt32 = (107 : Int32) := by decide +kernel
theorem kb_108 : (Int8.ofInt (108)).toInt32 = (108 : Int32) := by decide +kernel
theorem kb_103 : (Int8.ofInt (103)).toInt32 = (103 : Int32) := by decide +kernel
theorem kb_119 : (Int8.ofInt (119)).toInt32 = (119 : Int32) := by decide +kernel
theorem ks_3200 : (Int16.ofInt (3200)).toInt32 = (3200 : Int32) := by decide +kernel
theorem ks_12000 : (Int16.ofInt (12000)).toInt32 = (12000 : Int32) := by decide +kernel
theorem ks_3160 : (Int16.ofInt (3160)).toInt32 = (3160 : Int32) := by decide +kernel
theorem ks_1700 : (Int16.ofInt (1700)).toInt32 = (1700 : Int32) := by decide +kernel
theorem pd_48 : (parseMethodDescriptor "(LUnlikeLoaves$Tape;)V").map (fun d => d.parameters.length) = some 1 := by decide +kernel
theorem pd_49 : (parseMethodDescriptor "(LUnlikeLoaves$Scanner;)V").map (fun d => d.parameters.length) = some 1 := by decide +kernel
theorem pd_50 : (parseMethodDescriptor "(LUnlikeLoaves$Scanner;LUnlikeLoaves$Phrases;)V").map (fun d => d.parameters.length) = some 2 := by decide +kernel
theorem pd_51 : (parseMethodDescriptor "(LUnlikeLoaves$Rules;LUnlikeLoaves$Course;LUnlikeLoaves$State;)V").map (fun d => d.parameters.length) = some 3 := by decide +kernel
theorem dX0_init_0 : decode cX0_init 0 = .ok (.aload_n 0, 1) := by decide +kernel
theorem dX0_init_1 : decode cX0_init 1 = .ok (.invokespecial 3, 3) := by decide +kernel
theorem dX0_init_4 : decode cX0_init 4 = .ok (.aload_n 0, 1) := by decide +kernel
theorem dX0_init_5 : decode cX0_init 5 = .ok (.bipush 36, 2) := by decide +kernel
theorem dX0_init_7 : decode cX0_init 7 = .ok (.newarray .int, 2) := by decide +kernel
theorem dX0_init_9 : decode cX0_init 9 = .ok (.putfield 11, 3) := by decide +kernel
theorem dX0_init_12 : decode cX0_init 12 = .ok (.aload_n 0, 1) := by decide +kernel
theorem dX0_init_13 : decode cX0_init 13 = .ok (.aload_n 1, 1) := by decide +kernel
theorem dX0_init_14 : decode cX0_init 14 = .ok (.putfield 17, 3) := by decide +kernel
theorem dX0_init_17 : decode cX0_init 17 = .ok (.return_, 1) := by decide +kernel
theorem dX10_init_0 : decode cX10_init 0 = .ok (.aload_n 0, 1) := by decide +kernel
theorem dX10_init_1 : decode cX10_init 1 = .ok (.invokespecial 3, 3) := by decide +kernel
theorem dX10_init_4 : decode cX10_init 4 = .ok (.aload_n 0, 1) := by decide +kernel
theorem dX10_init_5 : decode cX10_init 5 = .ok (.sipush 1600, 3) := by decide +kernel
theorem dX10_init_8 : decode cX10_init 8 = .ok (.newarray .int, 2) := by decide +kernel
theorem dX10_init_10 : decode cX10_init 10 = .ok (.putfield 9, 3) := by decide +kernel
theorem dX10_init_13 : decode cX10_init 13 = .ok (.aload_n 0, 1) := by decide +kernel
theorem dX10_init_14 : decode cX10_init 14 = .ok (.iconst 0, 1) := by decide +kernel
theorem dX10_init_15 : decode cX10_init 15 = .ok (.putfield 15, 3) := by decide +kernel
theorem dX10_init_18 : decode cX10_init 18 = .ok (.return_, 1) := by decide +kernel
theorem dX11_init_0 : decode cX11_init 0 = .ok (.aload_n 0, 1) := by decide +kernel
theorem dX11_init_1 : decode cX11_init 1 = .ok (.invokespecial 1, 3) := by decide +kernel
theorem dX11_init_4 : decode cX11_init 4 = .ok (.aload_n 0, 1) := by decide +kernel
theorem dX11_init_5 : decode cX11_init 5 = .ok (.bipush 6, 2) := by decide +kernel
theorem dX11_init_7 : decode cX11_init 7 = .ok (.newarray .int, 2) := by decide +kernel
theorem dX11_init_9 : decode cX11_init 9 = .ok (.putfield 7, 3) := by decide +kernel
theorem dX11_init_12 : decode cX11_init 12 = .ok (.aload_n 0, 1) := by decide +kernel
theorem dX11_init_13 : decode cX11_init 13 = .ok (.new 13, 3) := by decide +kernel
theorem dX11_init_16 : decode cX11_init 16 = .ok (.dup, 1) := by decide +kernel
theorem dX11_init_17 : decode cX11_init 17 = .ok (.invokespecial 15, 3) := by decide +kernel
theorem dX11_init_20 : decode cX11_init 20 = .ok (.putfield 16, 3) := by decide +kernel
theorem dX11_init_23 : decode cX11_init 23 = .ok (.aload_n 0, 1) := by decide +kernel
theorem dX11_init_24 : decode cX11_init 24 = .ok (.new 20, 3) := by decide +kernel
theorem dX11_init_27 : decode cX11_init 27 = .ok (.dup, 1) := by decide +kernel
theorem dX11_init_28 : decode cX11_init 28 = .ok (.aload_n 0, 1) := by decide +kernel
theorem dX11_init_29 : decode cX11_init 29 = .ok (.getfield 16, 3) := by decide +kernel
theorem dX11_init_32 : decode cX11_init 32 = .ok (.invokespecial 22, 3) := by decide +kernel
theorem dX11_init_35 : decode cX11_init 35 = .ok (.putfield 25, 3) := by decide +kernel
theorem dX11_init_38 : decode cX11_init 38 = .ok (.aload_n 0, 1) := by decide +kernel
theorem dX11_init_39 : decode cX11_init 39 = .ok (.new 29, 3) := by decide +kernel
theorem dX11_init_42 : decode cX11_init 42 = .ok (.dup, 1) := by decide +kernel
theorem dX11_init_43 : decode cX11_init 43 = .ok (.aload_n 0, 1) := by decide +kernel
theorem dX11_init_44 : decode cX11_init 44 = .ok (.getfield 25, 3) := by decide +kernel
theorem dX11_init_47 : decode cX11_init 47 = .ok (.invokespecial 31, 3) := by decide +kernel
theorem dX11_init_50 : decode cX11_init 50 = .ok (.putfield 34, 3) := by decide +kernel
theorem dX11_init_53 : decode cX11_init 53 = .ok (.aload_n 0, 1) := by decide +kernel
theorem dX11_init_54 : decode cX11_init 54 = .ok (.new 38, 3) := by decide +kernel
theorem dX11_init_57 : decode cX11_init 57 = .ok (.dup, 1) := by decide +kernel
theorem dX11_init_58 : decode cX11_init 58 = .ok (.aload_n 0, 1) := by decide +kernel
theorem dX11_init_59 : decode cX11_init 59 = .ok (.getfield 25, 3) := by decide +kernel
theorem dX11_init_62 : decode cX11_init 62 = .ok (.aload_n 0, 1) := by decide +kernel
theorem dX11_init_63 : decode cX11_init 63 = .ok (.getfield 34, 3) := by decide +kernel
theorem dX11_init_66 : decode cX11_init 66 = .ok (.invokespecial 40, 3) := by decide +kernel
theorem dX11_init_69 : decode cX11_init 69 = .ok (.putfield 43, 3) := by decide +kernel
theorem dX11_init_72 : decode cX11_init 72 = .ok (.aload_n 0, 1) := by decide +kernel
theorem dX11_init_73 : decode cX11_init 73 = .ok (.new 47, 3) := by decide +kernel
theorem dX11_init_76 : decode cX11_init 76 = .ok (.dup, 1) := by decide +kernel
theorem dX11_init_77 : decode cX11_init 77 = .ok (.invokespecial 49, 3) := by decide +kernel
theorem dX11_init_80 : decode cX11_init 80 = .ok (.putfield 50, 3) := by decide +kernel
theorem dX11_init_83 : decode cX11_init 83 = .ok (.aload_n 0, 1) := by decide +kernel
theorem dX11_init_84 : decode cX11_init 84 = .ok (.new 54, 3) := by decide +kernel
theorem dX11_init_87 : decode cX11_init 87 = .ok (.dup, 1) := by decide +kernel
theorem dX11_init_88 : decode cX11_init 88 = .ok (.aload_n 0, 1) := by decide +kernel
theorem dX11_init_89 : decode cX11_init 89 = .ok (.getfield 50, 3) := by decide +kernel
theorem dX11_init_92 : decode cX11_init 92 = .ok (.invokespecial 56, 3) := by decide +kernel
theorem dX11_init_95 : decode cX11_init 95 = .ok (.putfield 59, 3) := by decide +kernel
theorem dX11_init_98 : decode cX11_init 98 = .ok (.aload_n 0, 1) := by decide +kernel
theorem dX11_init_99 : decode cX11_init 99 = .ok (.new 63, 3) := by decide +kernel
theorem dX11_init_102 : decode cX11_init 102 = .ok (.dup, 1) := by decide +kernel
theorem dX11_init_103 : decode cX11_init 103 = .ok (.invokespecial 65, 3) := by decide +kernel
theorem dX11_init_106 : decode cX11_init 106 = .ok (.putfield 66, 3) := by decide +kernel
theorem dX11_init_109 : decode cX11_init 109 = .ok (.aload_n 0, 1) := by decide +kernel
theorem dX11_init_110 : decode cX11_init 110 = .ok (.new 70, 3) := by decide +kernel
theorem dX11_init_113 : decode cX11_init 113 = .ok (.dup, 1) := by decide +kernel
theorem dX11_init_114 : decode cX11_init 114 = .ok (.invokespecial 72, 3) := by decide +kernel
theorem dX11_init_117 : decode cX11_init 117 = .ok (.putfield 73, 3) := by decide +kernel
theorem dX11_init_120 : decode cX11_init 120 = .ok (.aload_n 0, 1) := by decide +kernel
theorem dX11_init_121 : decode cX11_init 121 = .ok (.new 77, 3) := by decide +kernel
theorem dX11_init_124 : decode cX11_init 124 = .ok (.dup, 1) := by decide +kernel
theorem dX11_init_125 : decode cX11_init 125 = .ok (.aload_n 0, 1) := by decide +kernel
theorem dX11_init_126 : decode cX11_init 126 = .ok (.getfield 50, 3) := by decide +kernel
theorem dX11_init_129 : decode cX11_init 129 = .ok (.invokespecial 79, 3) := by decide +kernel
theorem dX11_init_132 : decode cX11_init 132 = .ok (.putfield 80, 3) := by decide +kernel
theorem dX11_init_135 : decode cX11_init 135 = .ok (.aload_n 0, 1) := by decide +kernel
theorem dX11_init_136 : decode cX11_init 136 = .ok (.new 84, 3) := by decide +kernel
theorem dX11_init_139 : decode cX11_init 139 = .ok (.dup, 1) := by decide +kernel
theorem dX11_init_140 : decode cX11_init 140 = .ok (.aload_n 0, 1) := by decide +kernel
theorem dX11_init_141 : decode cX11_init 141 = .ok (.getfield 50, 3) := by decide +kernel
theorem dX11_init_144 : decode cX11_init 144 = .ok (.aload_n 0, 1) := by decide +kernel
theorem dX11_init_145 : decode cX11_init 145 = .ok (.getfield 80, 3) := by decide +kernel
theorem dX11_init_148 : decode cX11_init 148 = .ok (.aload_n 0, 1) := by decide +kernel
theorem dX11_init_149 : decode cX11_init 149 = .ok (.getfield 66, 3) := by decide +kernel
theorem dX11_init_152 : decode cX11_init 152 = .ok (.invokespecial 86, 3) := by decide +kernel
theorem dX11_init_155 : decode cX11_init 155 = .ok (.putfield 89, 3) := by decide +kernel
theorem dX11_init_158 : decode cX11_init 158 = .ok (.aload_n 0, 1) := by decide +kernel
theorem dX11_init_159 : decode cX11_init 159 = .ok (.new 93, 3) := by decide +kernel
theorem dX11_init_162 : decode cX11_init 162 = .ok (.dup, 1) := by decide +kernel
theorem dX11_init_163 : decode cX11_init 163 = .ok (.invokespecial 95, 3) := by decide +kernel
theorem dX11_init_166 : decode cX11_init 166 = .ok (.putfield 96, 3) := by decide +kernel
theorem dX11_init_169 : decode cX11_init 169 = .ok (.aload_n 0, 1) := by decide +kernel
theorem dX11_init_170 : decode cX11_init 170 = .ok (.bipush 36, 2) := by decide +kernel
theorem dX11_init_172 : decode cX11_init 172 = .ok (.newarray .int, 2) := by decide +kernel
theorem dX11_init_174 : decode cX11_init 174 = .ok (.putfield 100, 3) := by decide +kernel
theorem dX11_init_177 : decode cX11_init 177 = .ok (.aload_n 0, 1) := by decide +kernel
theorem dX11_init_178 : decode cX11_init 178 = .ok (.bipush 69, 2) := by decide +kernel
theorem dX11_init_180 : decode cX11_init 180 = .ok (.newarray .int, 2) := by decide +kernel
theorem dX11_init_182 : decode cX11_init 182 = .ok (.putfield 103, 3) := by decide +kernel
theorem dX11_init_185 : decode cX11_init 185 = .ok (.aload_n 0, 1) := by decide +kernel
theorem dX11_init_186 : decode cX11_init 186 = .ok (.iconst 0, 1) := by decide +kernel
theorem dX11_init_187 : decode cX11_init 187 = .ok (.putfield 106, 3) := by decide +kernel
theorem dX11_init_190 : decode cX11_init 190 = .ok (.aload_n 0, 1) := by decide +kernel
theorem dX11_init_191 : decode cX11_init 191 = .ok (.iconst 1, 1) := by decide +kernel
theorem dX11_init_192 : decode cX11_init 192 = .ok (.putfield 110, 3) := by decide +kernel
theorem dX11_init_195 : decode cX11_init 195 = .ok (.aload_n 0, 1) := by decide +kernel
theorem dX11_init_196 : decode cX11_init 196 = .ok (.iconst 0, 1) := by decide +kernel
theorem dX11_init_197 : decode cX11_init 197 = .ok (.putfield 113, 3) := by decide +kernel
theorem dX11_init_200 : decode cX11_init 200 = .ok (.aload_n 0, 1) := by decide +kernel
theorem dX11_init_201 : decode cX11_init 201 = .ok (.iconst (-1), 1) := by decide +kernel
theorem dX11_init_202 : decode cX11_init 202 = .ok (.putfield 116, 3) := by decide +kernel
theorem dX11_init_205 : decode cX11_init 205 = .ok (.return_, 1) := by decide +kernel
theorem dX12_init_0 : decode cX12_init 0 = .ok (.aload_n 0, 1) := by decide +kernel
theorem dX12_init_1 : decode cX12_init 1 = .ok (.invokespecial 1, 3) := by decide +kernel
theorem dX12_init_4 : decode cX12_init 4 = .ok (.aload_n 0, 1) := by decide +kernel
theorem dX12_init_5 : decode cX12_init 5 = .ok (.sipush 1600, 3) := by decide +kernel
theorem dX12_init_8 : decode cX12_init 8 = .ok (.newarray .int, 2) := by decide +kernel
theorem dX12_init_10 : decode cX12_init 10 = .ok (.putfield 7, 3) := by decide +kernel
theorem dX12_init_13 : decode cX12_init 13 = .ok (.aload_n 0, 1) := by decide +kernel
theorem dX12_init_14 : decode cX12_init 14 = .ok (.iconst (-1), 1) := by decide +kernel
theorem dX12_init_15 : decode cX12_init 15 = .ok (.putfield 13, 3) := by decide +kernel
theorem dX12_init_18 : decode cX12_init 18 = .ok (.aload_n 0, 1) := by decide +kernel
theorem dX12_init_19 : decode cX12_init 19 = .ok (.bipush 6, 2) := by decide +kernel
theorem dX12_init_21 : decode cX12_init 21 = .ok (.newarray .int, 2) := by decide +kernel
theorem dX12_init_23 : decode cX12_init 23 = .ok (.putfield 17, 3) := by decide +kernel
theorem dX12_init_26 : decode cX12_init 26 = .ok (.aload_n 0, 1) := by decide +kernel
theorem dX12_init_27 : decode cX12_init 27 = .ok (.bipush 6, 2) := by decide +kernel
theorem dX12_init_29 : decode cX12_init 29 = .ok (.newarray .char, 2) := by decide +kernel
theorem dX12_init_31 : decode cX12_init 31 = .ok (.dup, 1) := by decide +kernel
theorem dX12_init_32 : decode cX12_init 32 = .ok (.iconst 0, 1) := by decide +kernel
theorem dX12_init_33 : decode cX12_init 33 = .ok (.bipush 102, 2) := by decide +kernel
theorem dX12_init_35 : decode cX12_init 35 = .ok (.castore, 1) := by decide +kernel
theorem dX12_init_36 : decode cX12_init 36 = .ok (.dup, 1) := by decide +kernel
theorem dX12_init_37 : decode cX12_init 37 = .ok (.iconst 1, 1) := by decide +kernel
theorem dX12_init_38 : decode cX12_init 38 = .ok (.bipush 105, 2) := by decide +kernel
theorem dX12_init_40 : decode cX12_init 40 = .ok (.castore, 1) := by decide +kernel
theorem dX12_init_41 : decode cX12_init 41 = .ok (.dup, 1) := by decide +kernel
theorem dX12_init_42 : decode cX12_init 42 = .ok (.iconst 2, 1) := by decide +kernel
theorem dX12_init_43 : decode cX12_init 43 = .ok (.bipush 110, 2) := by decide +kernel
theorem dX12_init_45 : decode cX12_init 45 = .ok (.castore, 1) := by decide +kernel
theorem dX12_init_46 : decode cX12_init 46 = .ok (.dup, 1) := by decide +kernel
theorem dX12_init_47 : decode cX12_init 47 = .ok (.iconst 3, 1) := by decide +kernel
theorem dX12_init_48 : decode cX12_init 48 = .ok (.bipush 101, 2) := by decide +kernel
theorem dX12_init_50 : decode cX12_init 50 = .ok (.castore, 1) := by decide +kernel
theorem dX12_init_51 : decode cX12_init 51 = .ok (.dup, 1) := by decide +kernel
theorem dX12_init_52 : decode cX12_init 52 = .ok (.iconst 4, 1) := by decide +kernel
theorem dX12_init_53 : decode cX12_init 53 = .ok (.bipush 115, 2) := by decide +kernel
theorem dX12_init_55 : decode cX12_init 55 = .ok (.castore, 1) := by decide +kernel
theorem dX12_init_56 : decode cX12_init 56 = .ok (.dup, 1) := by decide +kernel
theorem dX12_init_57 : decode cX12_init 57 = .ok (.iconst 5, 1) := by decide +kernel
theorem dX12_init_58 : decode cX12_init 58 = .ok (.bipush 116, 2) := by decide +kernel
theorem dX12_init_60 : decode cX12_init 60 = .ok (.castore, 1) := by decide +kernel
theorem dX12_init_61 : decode cX12_init 61 = .ok (.putfield 20, 3) := by decide +kernel
theorem dX12_init_64 : decode cX12_init 64 = .ok (.aload_n 0, 1) := by decide +kernel
theorem dX12_init_65 : decode cX12_init 65 = .ok (.iconst 4, 1) := by decide +kernel
theorem dX12_init_66 : decode cX12_init 66 = .ok (.newarray .char, 2) := by decide +kernel
theorem dX12_init_68 : decode cX12_init 68 = .ok (.dup, 1) := by decide +kernel
theorem dX12_init_69 : decode cX12_init 69 = .ok (.iconst 0, 1) := by decide +kernel
theorem dX12_init_70 : decode cX12_init 70 = .ok (.bipush 109, 2) := by decide +kernel
theorem dX12_init_72 : decode cX12_init 72 = .ok (.castore, 1) := by decide +kernel
theorem dX12_init_73 : decode cX12_init 73 = .ok (.dup, 1) := by decide +kernel
theorem dX12_init_74 : decode cX12_init 74 = .ok (.iconst 1, 1) := by decide +kernel
theorem dX12_init_75 : decode cX12_init 75 = .ok (.bipush 111, 2) := by decide +kernel
theorem dX12_init_77 : decode cX12_init 77 = .ok (.castore, 1) := by decide +kernel
theorem dX12_init_78 : decode cX12_init 78 = .ok (.dup, 1) := by decide +kernel
theorem dX12_init_79 : decode cX12_init 79 = .ok (.iconst 2, 1) := by decide +kernel
theorem dX12_init_80 : decode cX12_init 80 = .ok (.bipush 115, 2) := by decide +kernel
theorem dX12_init_82 : decode cX12_init 82 = .ok (.castore, 1) := by decide +kernel
theorem dX12_init_83 : decode cX12_init 83 = .ok (.dup, 1) := by decide +kernel
theorem dX12_init_84 : decode cX12_init 84 = .ok (.iconst 3, 1) := by decide +kernel
theorem dX12_init_85 : decode cX12_init 85 = .ok (.bipush 116, 2) := by decide +kernel
theorem dX12_init_87 : decode cX12_init 87 = .ok (.castore, 1) := by decide +kernel
theorem dX12_init_88 : decode cX12_init 88 = .ok (.putfield 24, 3) := by decide +kernel
theorem dX12_init_91 : decode cX12_init 91 = .ok (.aload_n 0, 1) := by decide +kernel
theorem dX12_init_92 : decode cX12_init 92 = .ok (.bipush 6, 2) := by decide +kernel
theorem dX12_init_94 : decode cX12_init 94 = .ok (.newarray .char, 2) := by decide +kernel
theorem dX12_init_96 : decode cX12_init 96 = .ok (.dup, 1) := by decide +kernel
theorem dX12_init_97 : decode cX12_init 97 = .ok (.iconst 0, 1) := by decide +kernel
theorem dX12_init_98 : decode cX12_init 98 = .ok (.bipush 112, 2) := by decide +kernel
theorem dX12_init_100 : decode cX12_init 100 = .ok (.castore, 1) := by decide +kernel
theorem dX12_init_101 : decode cX12_init 101 = .ok (.dup, 1) := by decide +kernel
theorem dX12_init_102 : decode cX12_init 102 = .ok (.iconst 1, 1) := by decide +kernel
theorem dX12_init_103 : decode cX12_init 103 = .ok (.bipush 101, 2) := by decide +kernel
theorem dX12_init_105 : decode cX12_init 105 = .ok (.castore, 1) := by decide +kernel
theorem dX12_init_106 : decode cX12_init 106 = .ok (.dup, 1) := by decide +kernel
theorem dX12_init_107 : decode cX12_init 107 = .ok (.iconst 2, 1) := by decide +kernel
theorem dX12_init_108 : decode cX12_init 108 = .ok (.bipush 114, 2) := by decide +kernel
theorem dX12_init_110 : decode cX12_init 110 = .ok (.castore, 1) := by decide +kernel
theorem dX12_init_111 : decode cX12_init 111 = .ok (.dup, 1) := by decide +kernel
theorem dX12_init_112 : decode cX12_init 112 = .ok (.iconst 3, 1) := by decide +kernel
theorem dX12_init_113 : decode cX12_init 113 = .ok (.bipush 115, 2) := by decide +kernel
theorem dX12_init_115 : decode cX12_init 115 = .ok (.castore, 1) := by decide +kernel
theorem dX12_init_116 : decode cX12_init 116 = .ok (.dup, 1) := by decide +kernel
theorem dX12_init_117 : decode cX12_init 117 = .ok (.iconst 4, 1) := by decide +kernel
theorem dX12_init_118 : decode cX12_init 118 = .ok (.bipush 111, 2) := by decide +kernel
theorem dX12_init_120 : decode cX12_init 120 = .ok (.castore, 1) := by decide +kernel
theorem dX12_init_121 : decode cX12_init 121 = .ok (.dup, 1) := by decide +kernel
theorem dX12_init_122 : decode cX12_init 122 = .ok (.iconst 5, 1) := by decide +kernel
theorem dX12_init_123 : decode cX12_init 123 = .ok (.bipush 110, 2) := by decide +kernel
theorem dX12_init_125 : decode cX12_init 125 = .ok (.castore, 1) := by decide +kernel
theorem dX12_init_126 : decode cX12_init 126 = .ok (.putfield 27, 3) := by decide +kernel
theorem dX12_init_129 : decode cX12_init 129 = .ok (.aload_n 0, 1) := by decide +kernel
theorem dX12_init_130 : decode cX12_init 130 = .ok (.iconst 3, 1) := by decide +kernel
theorem dX12_init_131 : decode cX12_init 131 = .ok (.newarray .char, 2) := by decide +kernel
theorem dX12_init_133 : decode cX12_init 133 = .ok (.dup, 1) := by decide +kernel
theorem dX12_init_134 : decode cX12_init 134 = .ok (.iconst 0, 1) := by decide +kernel
theorem dX12_init_135 : decode cX12_init 135 = .ok (.bipush 100, 2) := by decide +kernel
theorem dX12_init_137 : decode cX12_init 137 = .ok (.castore, 1) := by decide +kernel
theorem dX12_init_138 : decode cX12_init 138 = .ok (.dup, 1) := by decide +kernel
theorem dX12_init_139 : decode cX12_init 139 = .ok (.iconst 1, 1) := by decide +kernel
theorem dX12_init_140 : decode cX12_init 140 = .ok (.bipush 117, 2) := by decide +kernel
theorem dX12_init_142 : decode cX12_init 142 = .ok (.castore, 1) := by decide +kernel
theorem dX12_init_143 : decode cX12_init 143 = .ok (.dup, 1) := by decide +kernel
theorem dX12_init_144 : decode cX12_init 144 = .ok (.iconst 2, 1) := by decide +kernel
theorem dX12_init_145 : decode cX12_init 145 = .ok (.bipush 101, 2) := by decide +kernel
theorem dX12_init_147 : decode cX12_init 147 = .ok (.castore, 1) := by decide +kernel
theorem dX12_init_148 : decode cX12_init 148 = .ok (.putfield 30, 3) := by decide +kernel
theorem dX12_init_151 : decode cX12_init 151 = .ok (.aload_n 0, 1) := by decide +kernel
theorem dX12_init_152 : decode cX12_init 152 = .ok (.iconst 2, 1) := by decide +kernel
theorem dX12_init_153 : decode cX12_init 153 = .ok (.newarray .char, 2) := by decide +kernel
theorem dX12_init_155 : decode cX12_init 155 = .ok (.dup, 1) := by decide +kernel
theorem dX12_init_156 : decode cX12_init 156 = .ok (.iconst 0, 1) := by decide +kernel
theorem dX12_init_157 : decode cX12_init 157 = .ok (.bipush 111, 2) := by decide +kernel
theorem dX12_init_159 : decode cX12_init 159 = .ok (.castore, 1) := by decide +kernel
theorem dX12_init_160 : decode cX12_init 160 = .ok (.dup, 1) := by decide +kernel
theorem dX12_init_161 : decode cX12_init 161 = .ok (.iconst 1, 1) := by decide +kernel
theorem dX12_init_162 : decode cX12_init 162 = .ok (.bipush 102, 2) := by decide +kernel
theorem dX12_init_164 : decode cX12_init 164 = .ok (.castore, 1) := by decide +kernel
theorem dX12_init_165 : decode cX12_init 165 = .ok (.putfield 33, 3) := by decide +kernel
theorem dX12_init_168 : decode cX12_init 168 = .ok (.aload_n 0, 1) := by decide +kernel
theorem dX12_init_169 : decode cX12_init 169 = .ok (.iconst 4, 1) := by decide +kernel
theorem dX12_init_170 : decode cX12_init 170 = .ok (.newarray .char, 2) := by decide +kernel
theorem dX12_init_172 : decode cX12_init 172 = .ok (.dup, 1) := by decide +kernel
theorem dX12_init_173 : decode cX12_init 173 = .ok (.iconst 0, 1) := by decide +kernel
theorem dX12_init_174 : decode cX12_init 174 = .ok (.bipush 104, 2) := by decide +kernel
theorem dX12_init_176 : decode cX12_init 176 = .ok (.castore, 1) := by decide +kernel
theorem dX12_init_177 : decode cX12_init 177 = .ok (.dup, 1) := by decide +kernel
theorem dX12_init_178 : decode cX12_init 178 = .ok (.iconst 1, 1) := by decide +kernel
theorem dX12_init_179 : decode cX12_init 179 = .ok (.bipush 97, 2) := by decide +kernel
theorem dX12_init_181 : decode cX12_init 181 = .ok (.castore, 1) := by decide +kernel
theorem dX12_init_182 : decode cX12_init 182 = .ok (.dup, 1) := by decide +kernel
theorem dX12_init_183 : decode cX12_init 183 = .ok (.iconst 2, 1) := by decide +kernel
theorem dX12_init_184 : decode cX12_init 184 = .ok (.bipush 118, 2) := by decide +kernel
theorem dX12_init_186 : decode cX12_init 186 = .ok (.castore, 1) := by decide +kernel
theorem dX12_init_187 : decode cX12_init 187 = .ok (.dup, 1) := by decide +kernel
theorem dX12_init_188 : decode cX12_init 188 = .ok (.iconst 3, 1) := by decide +kernel
theorem dX12_init_189 : decode cX12_init 189 = .ok (.bipush 101, 2) := by decide +kernel
theorem dX12_init_191 : decode cX12_init 191 = .ok (.castore, 1) := by decide +kernel
theorem dX12_init_192 : decode cX12_init 192 = .ok (.putfield 36, 3) := by decide +kernel
theorem dX12_init_195 : decode cX12_init 195 = .ok (.aload_n 0, 1) := by decide +kernel
theorem dX12_init_196 : decode cX12_init 196 = .ok (.iconst 2, 1) := by decide +kernel
theorem dX12_init_197 : decode cX12_init 197 = .ok (.newarray .char, 2) := by decide +kernel
theorem dX12_init_199 : decode cX12_init 199 = .ok (.dup, 1) := by decide +kernel
theorem dX12_init_200 : decode cX12_init 200 = .ok (.iconst 0, 1) := by decide +kernel
theorem dX12_init_201 : decode cX12_init 201 = .ok (.bipush 98, 2) := by decide +kernel
theorem dX12_init_203 : decode cX12_init 203 = .ok (.castore, 1) := by decide +kernel
theorem dX12_init_204 : decode cX12_init 204 = .ok (.dup, 1) := by decide +kernel
theorem dX12_init_205 : decode cX12_init 205 = .ok (.iconst 1, 1) := by decide +kernel
theorem dX12_init_206 : decode cX12_init 206 = .ok (.bipush 121, 2) := by decide +kernel
theorem dX12_init_208 : decode cX12_init 208 = .ok (.castore, 1) := by decide +kernel
theorem dX12_init_209 : decode cX12_init 209 = .ok (.putfield 39, 3) := by decide +kernel
theorem dX12_init_212 : decode cX12_init 212 = .ok (.aload_n 0, 1) := by decide +kernel
theorem dX12_init_213 : decode cX12_init 213 = .ok (.iconst 5, 1) := by decide +kernel
theorem dX12_init_214 : decode cX12_init 214 = .ok (.newarray .char, 2) := by decide +kernel
theorem dX12_init_216 : decode cX12_init 216 = .ok (.dup, 1) := by decide +kernel
theorem dX12_init_217 : decode cX12_init 217 = .ok (.iconst 0, 1) := by decide +kernel
theorem dX12_init_218 : decode cX12_init 218 = .ok (.bipush 98, 2) := by decide +kernel
theorem dX12_init_220 : decode cX12_init 220 = .ok (.castore, 1) := by decide +kernel
theorem dX12_init_221 : decode cX12_init 221 = .ok (.dup, 1) := by decide +kernel
theorem dX12_init_222 : decode cX12_init 222 = .ok (.iconst 1, 1) := by decide +kernel
theorem dX12_init_223 : decode cX12_init 223 = .ok (.bipush 97, 2) := by decide +kernel
theorem dX12_init_225 : decode cX12_init 225 = .ok (.castore, 1) := by decide +kernel
theorem dX12_init_226 : decode cX12_init 226 = .ok (.dup, 1) := by decide +kernel
theorem dX12_init_227 : decode cX12_init 227 = .ok (.iconst 2, 1) := by decide +kernel
theorem dX12_init_228 : decode cX12_init 228 = .ok (.bipush 107, 2) := by decide +kernel
theorem dX12_init_230 : decode cX12_init 230 = .ok (.castore, 1) := by decide +kernel
theorem dX12_init_231 : decode cX12_init 231 = .ok (.dup, 1) := by decide +kernel
theorem dX12_init_232 : decode cX12_init 232 = .ok (.iconst 3, 1) := by decide +kernel
theorem dX12_init_233 : decode cX12_init 233 = .ok (.bipush 101, 2) := by decide +kernel
theorem dX12_init_235 : decode cX12_init 235 = .ok (.castore, 1) := by decide +kernel
theorem dX12_init_236 : decode cX12_init 236 = .ok (.dup, 1) := by decide +kernel
theorem dX12_init_237 : decode cX12_init 237 = .ok (.iconst 4, 1) := by decide +kernel
theorem dX12_init_238 : decode cX12_init 238 = .ok (.bipush 115, 2) := by decide +kernel
theorem dX12_init_240 : decode cX12_init 240 = .ok (.castore, 1) := by decide +kernel
theorem dX12_init_241 : decode cX12_init 241 = .ok (.putfield 42, 3) := by decide +kernel
theorem dX12_init_244 : decode cX12_init 244 = .ok (.aload_n 0, 1) := by decide +kernel
theorem dX12_init_245 : decode cX12_init 245 = .ok (.iconst 5, 1) := by decide +kernel
theorem dX12_init_246 : decode cX12_init 246 = .ok (.newarray .char, 2) := by decide +kernel
theorem dX12_init_248 : decode cX12_init 248 = .ok (.dup, 1) := by decide +kernel
theorem dX12_init_249 : decode cX12_init 249 = .ok (.iconst 0, 1) := by decide +kernel
theorem dX12_init_250 : decode cX12_init 250 = .ok (.bipush 99, 2) := by decide +kernel
theorem dX12_init_252 : decode cX12_init 252 = .ok (.castore, 1) := by decide +kernel
theorem dX12_init_253 : decode cX12_init 253 = .ok (.dup, 1) := by decide +kernel
theorem dX12_init_254 : decode cX12_init 254 = .ok (.iconst 1, 1) := by decide +kernel
theorem dX12_init_255 : decode cX12_init 255 = .ok (.bipush 111, 2) := by decide +kernel
theorem dX12_init_257 : decode cX12_init 257 = .ok (.castore, 1) := by decide +kernel
theorem dX12_init_258 : decode cX12_init 258 = .ok (.dup, 1) := by decide +kernel
theorem dX12_init_259 : decode cX12_init 259 = .ok (.iconst 2, 1) := by decide +kernel
theorem dX12_init_260 : decode cX12_init 260 = .ok (.bipush 115, 2) := by decide +kernel
theorem dX12_init_262 : decode cX12_init 262 = .ok (.castore, 1) := by decide +kernel
theorem dX12_init_263 : decode cX12_init 263 = .ok (.dup, 1) := by decide +kernel
theorem dX12_init_264 : decode cX12_init 264 = .ok (.iconst 3, 1) := by decide +kernel
theorem dX12_init_265 : decode cX12_init 265 = .ok (.bipush 116, 2) := by decide +kernel
theorem dX12_init_267 : decode cX12_init 267 = .ok (.castore, 1) := by decide +kernel
theorem dX12_init_268 : decode cX12_init 268 = .ok (.dup, 1) := by decide +kernel
theorem dX12_init_269 : decode cX12_init 269 = .ok (.iconst 4, 1) := by decide +kernel
theorem dX12_init_270 : decode cX12_init 270 = .ok (.bipush 115, 2) := by decide +kernel
theorem dX12_init_272 : decode cX12_init 272 = .ok (.castore, 1) := by decide +kernel
theorem dX12_init_273 : decode cX12_init 273 = .ok (.putfield 45, 3) := by decide +kernel
theorem dX12_init_276 : decode cX12_init 276 = .ok (.aload_n 0, 1) := by decide +kernel
theorem dX12_init_277 : decode cX12_init 277 = .ok (.iconst 5, 1) := by decide +kernel
theorem dX12_init_278 : decode cX12_init 278 = .ok (.newarray .char, 2) := by decide +kernel
theorem dX12_init_280 : decode cX12_init 280 = .ok (.dup, 1) := by decide +kernel
theorem dX12_init_281 : decode cX12_init 281 = .ok (.iconst 0, 1) := by decide +kernel
theorem dX12_init_282 : decode cX12_init 282 = .ok (.bipush 108, 2) := by decide +kernel
theorem dX12_init_284 : decode cX12_init 284 = .ok (.castore, 1) := by decide +kernel
theorem dX12_init_285 : decode cX12_init 285 = .ok (.dup, 1) := by decide +kernel
theorem dX12_init_286 : decode cX12_init 286 = .ok (.iconst 1, 1) := by decide +kernel
theorem dX12_init_287 : decode cX12_init 287 = .ok (.bipush 105, 2) := by decide +kernel
theorem dX12_init_289 : decode cX12_init 289 = .ok (.castore, 1) := by decide +kernel
theorem dX12_init_290 : decode cX12_init 290 = .ok (.dup, 1) := by decide +kernel
theorem dX12_init_291 : decode cX12_init 291 = .ok (.iconst 2, 1) := by decide +kernel
theorem dX12_init_292 : decode cX12_init 292 = .ok (.bipush 107, 2) := by decide +kernel
theorem dX12_init_294 : decode cX12_init 294 = .ok (.castore, 1) := by decide +kernel
theorem dX12_init_295 : decode cX12_init 295 = .ok (.dup, 1) := by decide +kernel
theorem dX12_init_296 : decode cX12_init 296 = .ok (.iconst 3, 1) := by decide +kernel
theorem dX12_init_297 : decode cX12_init 297 = .ok (.bipush 101, 2) := by decide +kernel
theorem dX12_init_299 : decode cX12_init 299 = .ok (.castore, 1) := by decide +kernel
theorem dX12_init_300 : decode cX12_init 300 = .ok (.dup, 1) := by decide +kernel
theorem dX12_init_301 : decode cX12_init 301 = .ok (.iconst 4, 1) := by decide +kernel
theorem dX12_init_302 : decode cX12_init 302 = .ok (.bipush 115, 2) := by decide +kernel
theorem dX12_init_304 : decode cX12_init 304 = .ok (.castore, 1) := by decide +kernel
theorem dX12_init_305 : decode cX12_init 305 = .ok (.putfield 48, 3) := by decide +kernel
theorem dX12_init_308 : decode cX12_init 308 = .ok (.aload_n 0, 1) := by decide +kernel
theorem dX12_init_309 : decode cX12_init 309 = .ok (.iconst 4, 1) := by decide +kernel
theorem dX12_init_310 : decode cX12_init 310 = .ok (.newarray .char, 2) := by decide +kernel
theorem dX12_init_312 : decode cX12_init 312 = .ok (.dup, 1) := by decide +kernel
theorem dX12_init_313 : decode cX12_init 313 = .ok (.iconst 0, 1) := by decide +kernel
theorem dX12_init_314 : decode cX12_init 314 = .ok (.bipush 109, 2) := by decide +kernel
theorem dX12_init_316 : decode cX12_init 316 = .ok (.castore, 1) := by decide +kernel
theorem dX12_init_317 : decode cX12_init 317 = .ok (.dup, 1) := by decide +kernel
theorem dX12_init_318 : decode cX12_init 318 = .ok (.iconst 1, 1) := by decide +kernel
theorem dX12_init_319 : decode cX12_init 319 = .ok (.bipush 105, 2) := by decide +kernel
theorem dX12_init_321 : decode cX12_init 321 = .ok (.castore, 1) := by decide +kernel
theorem dX12_init_322 : decode cX12_init 322 = .ok (.dup, 1) := by decide +kernel
theorem dX12_init_323 : decode cX12_init 323 = .ok (.iconst 2, 1) := by decide +kernel
theorem dX12_init_324 : decode cX12_init 324 = .ok (.bipush 99, 2) := by decide +kernel
theorem dX12_init_326 : decode cX12_init 326 = .ok (.castore, 1) := by decide +kernel
theorem dX12_init_327 : decode cX12_init 327 = .ok (.dup, 1) := by decide +kernel
theorem dX12_init_328 : decode cX12_init 328 = .ok (.iconst 3, 1) := by decide +kernel
theorem dX12_init_329 : decode cX12_init 329 = .ok (.bipush 101, 2) := by decide +kernel
theorem dX12_init_331 : decode cX12_init 331 = .ok (.castore, 1) := by decide +kernel
theorem dX12_init_332 : decode cX12_init 332 = .ok (.putfield 51, 3) := by decide +kernel
theorem dX12_init_335 : decode cX12_init 335 = .ok (.aload_n 0, 1) := by decide +kernel
theorem dX12_init_336 : decode cX12_init 336 = .ok (.iconst 4, 1) := by decide +kernel
theorem dX12_init_337 : decode cX12_init 337 = .ok (.newarray .char, 2) := by decide +kernel
theorem dX12_init_339 : decode cX12_init 339 = .ok (.dup, 1) := by decide +kernel
theorem dX12_init_340 : decode cX12_init 340 = .ok (.iconst 0, 1) := by decide +kernel
theorem dX12_init_341 : decode cX12_init 341 = .ok (.bipush 115, 2) := by decide +kernel
theorem dX12_init_343 : decode cX12_init 343 = .ok (.castore, 1) := by decide +kernel
theorem dX12_init_344 : decode cX12_init 344 = .ok (.dup, 1) := by decide +kernel
theorem dX12_init_345 : decode cX12_init 345 = .ok (.iconst 1, 1) := by decide +kernel
theorem dX12_init_346 : decode cX12_init 346 = .ok (.bipush 105, 2) := by decide +kernel
theorem dX12_init_348 : decode cX12_init 348 = .ok (.castore, 1) := by decide +kernel
theorem dX12_init_349 : decode cX12_init 349 = .ok (.dup, 1) := by decide +kernel
theorem dX12_init_350 : decode cX12_init 350 = .ok (.iconst 2, 1) := by decide +kernel
theorem dX12_init_351 : decode cX12_init 351 = .ok (.bipush 122, 2) := by decide +kernel
theorem dX12_init_353 : decode cX12_init 353 = .ok (.castore, 1) := by decide +kernel
theorem dX12_init_354 : decode cX12_init 354 = .ok (.dup, 1) := by decide +kernel
theorem dX12_init_355 : decode cX12_init 355 = .ok (.iconst 3, 1) := by decide +kernel
theorem dX12_init_356 : decode cX12_init 356 = .ok (.bipush 101, 2) := by decide +kernel
theorem dX12_init_358 : decode cX12_init 358 = .ok (.castore, 1) := by decide +kernel
theorem dX12_init_359 : decode cX12_init 359 = .ok (.putfield 54, 3) := by decide +kernel
theorem dX12_init_362 : decode cX12_init 362 = .ok (.aload_n 0, 1) := by decide +kernel
theorem dX12_init_363 : decode cX12_init 363 = .ok (.iconst 5, 1) := by decide +kernel
theorem dX12_init_364 : decode cX12_init 364 = .ok (.newarray .char, 2) := by decide +kernel
theorem dX12_init_366 : decode cX12_init 366 = .ok (.dup, 1) := by decide +kernel
theorem dX12_init_367 : decode cX12_init 367 = .ok (.iconst 0, 1) := by decide +kernel
theorem dX12_init_368 : decode cX12_init 368 = .ok (.bipush 115, 2) := by decide +kernel
theorem dX12_init_370 : decode cX12_init 370 = .ok (.castore, 1) := by decide +kernel
theorem dX12_init_371 : decode cX12_init 371 = .ok (.dup, 1) := by decide +kernel
theorem dX12_init_372 : decode cX12_init 372 = .ok (.iconst 1, 1) := by decide +kernel
theorem dX12_init_373 : decode cX12_init 373 = .ok (.bipush 116, 2) := by decide +kernel
theorem dX12_init_375 : decode cX12_init 375 = .ok (.castore, 1) := by decide +kernel
theorem dX12_init_376 : decode cX12_init 376 = .ok (.dup, 1) := by decide +kernel
theorem dX12_init_377 : decode cX12_init 377 = .ok (.iconst 2, 1) := by decide +kernel
theorem dX12_init_378 : decode cX12_init 378 = .ok (.bipush 111, 2) := by decide +kernel
theorem dX12_init_380 : decode cX12_init 380 = .ok (.castore, 1) := by decide +kernel
theorem dX12_init_381 : decode cX12_init 381 = .ok (.dup, 1) := by decide +kernel
theorem dX12_init_382 : decode cX12_init 382 = .ok (.iconst 3, 1) := by decide +kernel
theorem dX12_init_383 : decode cX12_init 383 = .ok (.bipush 99, 2) := by decide +kernel
theorem dX12_init_385 : decode cX12_init 385 = .ok (.castore, 1) := by decide +kernel
theorem dX12_init_386 : decode cX12_init 386 = .ok (.dup, 1) := by decide +kernel
theorem dX12_init_387 : decode cX12_init 387 = .ok (.iconst 4, 1) := by decide +kernel
theorem dX12_init_388 : decode cX12_init 388 = .ok (.bipush 107, 2) := by decide +kernel
theorem dX12_init_390 : decode cX12_init 390 = .ok (.castore, 1) := by decide +kernel
theorem dX12_init_391 : decode cX12_init 391 = .ok (.putfield 57, 3) := by decide +kernel
theorem dX12_init_394 : decode cX12_init 394 = .ok (.aload_n 0, 1) := by decide +kernel
theorem dX12_init_395 : decode cX12_init 395 = .ok (.iconst 5, 1) := by decide +kernel
theorem dX12_init_396 : decode cX12_init 396 = .ok (.newarray .char, 2) := by decide +kernel
theorem dX12_init_398 : decode cX12_init 398 = .ok (.dup, 1) := by decide +kernel
theorem dX12_init_399 : decode cX12_init 399 = .ok (.iconst 0, 1) := by decide +kernel
theorem dX12_init_400 : decode cX12_init 400 = .ok (.bipush 112, 2) := by decide +kernel
theorem dX12_init_402 : decode cX12_init 402 = .ok (.castore, 1) := by decide +kernel
theorem dX12_init_403 : decode cX12_init 403 = .ok (.dup, 1) := by decide +kernel
theorem dX12_init_404 : decode cX12_init 404 = .ok (.iconst 1, 1) := by decide +kernel
theorem dX12_init_405 : decode cX12_init 405 = .ok (.bipush 108, 2) := by decide +kernel
theorem dX12_init_407 : decode cX12_init 407 = .ok (.castore, 1) := by decide +kernel
theorem dX12_init_408 : decode cX12_init 408 = .ok (.dup, 1) := by decide +kernel
theorem dX12_init_409 : decode cX12_init 409 = .ok (.iconst 2, 1) := by decide +kernel
theorem dX12_init_410 : decode cX12_init 410 = .ok (.bipush 97, 2) := by decide +kernel
theorem dX12_init_412 : decode cX12_init 412 = .ok (.castore, 1) := by decide +kernel
theorem dX12_init_413 : decode cX12_init 413 = .ok (.dup, 1) := by decide +kernel
theorem dX12_init_414 : decode cX12_init 414 = .ok (.iconst 3, 1) := by decide +kernel
theorem dX12_init_415 : decode cX12_init 415 = .ok (.bipush 99, 2) := by decide +kernel
theorem dX12_init_417 : decode cX12_init 417 = .ok (.castore, 1) := by decide +kernel
theorem dX12_init_418 : decode cX12_init 418 = .ok (.dup, 1) := by decide +kernel
theorem dX12_init_419 : decode cX12_init 419 = .ok (.iconst 4, 1) := by decide +kernel
theorem dX12_init_420 : decode cX12_init 420 = .ok (.bipush 101, 2) := by decide +kernel
theorem dX12_init_422 : decode cX12_init 422 = .ok (.castore, 1) := by decide +kernel
theorem dX12_init_423 : decode cX12_init 423 = .ok (.putfield 60, 3) := by decide +kernel
theorem dX12_init_426 : decode cX12_init 426 = .ok (.aload_n 0, 1) := by decide +kernel
theorem dX12_init_427 : decode cX12_init 427 = .ok (.iconst 3, 1) := by decide +kernel
theorem dX12_init_428 : decode cX12_init 428 = .ok (.newarray .char, 2) := by decide +kernel
theorem dX12_init_430 : decode cX12_init 430 = .ok (.dup, 1) := by decide +kernel
theorem dX12_init_431 : decode cX12_init 431 = .ok (.iconst 0, 1) := by decide +kernel
theorem dX12_init_432 : decode cX12_init 432 = .ok (.bipush 100, 2) := by decide +kernel
theorem dX12_init_434 : decode cX12_init 434 = .ok (.castore, 1) := by decide +kernel
theorem dX12_init_435 : decode cX12_init 435 = .ok (.dup, 1) := by decide +kernel
theorem dX12_init_436 : decode cX12_init 436 = .ok (.iconst 1, 1) := by decide +kernel
theorem dX12_init_437 : decode cX12_init 437 = .ok (.bipush 97, 2) := by decide +kernel
theorem dX12_init_439 : decode cX12_init 439 = .ok (.castore, 1) := by decide +kernel
theorem dX12_init_440 : decode cX12_init 440 = .ok (.dup, 1) := by decide +kernel
theorem dX12_init_441 : decode cX12_init 441 = .ok (.iconst 2, 1) := by decide +kernel
theorem dX12_init_442 : decode cX12_init 442 = .ok (.bipush 121, 2) := by decide +kernel
theorem dX12_init_444 : decode cX12_init 444 = .ok (.castore, 1) := by decide +kernel
theorem dX12_init_445 : decode cX12_init 445 = .ok (.putfield 63, 3) := by decide +kernel
theorem dX12_init_448 : decode cX12_init 448 = .ok (.aload_n 0, 1) := by decide +kernel
theorem dX12_init_449 : decode cX12_init 449 = .ok (.bipush 6, 2) := by decide +kernel
theorem dX12_init_451 : decode cX12_init 451 = .ok (.newarray .char, 2) := by decide +kernel
theorem dX12_init_453 : decode cX12_init 453 = .ok (.dup, 1) := by decide +kernel
theorem dX12_init_454 : decode cX12_init 454 = .ok (.iconst 0, 1) := by decide +kernel
theorem dX12_init_455 : decode cX12_init 455 = .ok (.bipush 104, 2) := by decide +kernel
theorem dX12_init_457 : decode cX12_init 457 = .ok (.castore, 1) := by decide +kernel
theorem dX12_init_458 : decode cX12_init 458 = .ok (.dup, 1) := by decide +kernel
theorem dX12_init_459 : decode cX12_init 459 = .ok (.iconst 1, 1) := by decide +kernel
theorem dX12_init_460 : decode cX12_init 460 = .ok (.bipush 117, 2) := by decide +kernel
theorem dX12_init_462 : decode cX12_init 462 = .ok (.castore, 1) := by decide +kernel
theorem dX12_init_463 : decode cX12_init 463 = .ok (.dup, 1) := by decide +kernel
theorem dX12_init_464 : decode cX12_init 464 = .ok (.iconst 2, 1) := by decide +kernel
theorem dX12_init_465 : decode cX12_init 465 = .ok (.bipush 110, 2) := by decide +kernel
theorem dX12_init_467 : decode cX12_init 467 = .ok (.castore, 1) := by decide +kernel
theorem dX12_init_468 : decode cX12_init 468 = .ok (.dup, 1) := by decide +kernel
theorem dX12_init_469 : decode cX12_init 469 = .ok (.iconst 3, 1) := by decide +kernel
theorem dX12_init_470 : decode cX12_init 470 = .ok (.bipush 103, 2) := by decide +kernel
theorem dX12_init_472 : decode cX12_init 472 = .ok (.castore, 1) := by decide +kernel
theorem dX12_init_473 : decode cX12_init 473 = .ok (.dup, 1) := by decide +kernel
theorem dX12_init_474 : decode cX12_init 474 = .ok (.iconst 4, 1) := by decide +kernel
theorem dX12_init_475 : decode cX12_init 475 = .ok (.bipush 101, 2) := by decide +kernel
theorem dX12_init_477 : decode cX12_init 477 = .ok (.castore, 1) := by decide +kernel
theorem dX12_init_478 : decode cX12_init 478 = .ok (.dup, 1) := by decide +kernel
theorem dX12_init_479 : decode cX12_init 479 = .ok (.iconst 5, 1) := by decide +kernel
theorem dX12_init_480 : decode cX12_init 480 = .ok (.bipush 114, 2) := by decide +kernel
theorem dX12_init_482 : decode cX12_init 482 = .ok (.castore, 1) := by decide +kernel
theorem dX12_init_483 : decode cX12_init 483 = .ok (.putfield 66, 3) := by decide +kernel
theorem dX12_init_486 : decode cX12_init 486 = .ok (.aload_n 0, 1) := by decide +kernel
theorem dX12_init_487 : decode cX12_init 487 = .ok (.bipush 6, 2) := by decide +kernel
theorem dX12_init_489 : decode cX12_init 489 = .ok (.newarray .char, 2) := by decide +kernel
theorem dX12_init_491 : decode cX12_init 491 = .ok (.dup, 1) := by decide +kernel
theorem dX12_init_492 : decode cX12_init 492 = .ok (.iconst 0, 1) := by decide +kernel
theorem dX12_init_493 : decode cX12_init 493 = .ok (.bipush 110, 2) := by decide +kernel
theorem dX12_init_495 : decode cX12_init 495 = .ok (.castore, 1) := by decide +kernel
theorem dX12_init_496 : decode cX12_init 496 = .ok (.dup, 1) := by decide +kernel
theorem dX12_init_497 : decode cX12_init 497 = .ok (.iconst 1, 1) := by decide +kernel
theorem dX12_init_498 : decode cX12_init 498 = .ok (.bipush 117, 2) := by decide +kernel
theorem dX12_init_500 : decode cX12_init 500 = .ok (.castore, 1) := by decide +kernel
theorem dX12_init_501 : decode cX12_init 501 = .ok (.dup, 1) := by decide +kernel
theorem dX12_init_502 : decode cX12_init 502 = .ok (.iconst 2, 1) := by decide +kernel
theorem dX12_init_503 : decode cX12_init 503 = .ok (.bipush 109, 2) := by decide +kernel
theorem dX12_init_505 : decode cX12_init 505 = .ok (.castore, 1) := by decide +kernel
theorem dX12_init_506 : decode cX12_init 506 = .ok (.dup, 1) := by decide +kernel
theorem dX12_init_507 : decode cX12_init 507 = .ok (.iconst 3, 1) := by decide +kernel
theorem dX12_init_508 : decode cX12_init 508 = .ok (.bipush 98, 2) := by decide +kernel
theorem dX12_init_510 : decode cX12_init 510 = .ok (.castore, 1) := by decide +kernel
theorem dX12_init_511 : decode cX12_init 511 = .ok (.dup, 1) := by decide +kernel
theorem dX12_init_512 : decode cX12_init 512 = .ok (.iconst 4, 1) := by decide +kernel
theorem dX12_init_513 : decode cX12_init 513 = .ok (.bipush 101, 2) := by decide +kernel
theorem dX12_init_515 : decode cX12_init 515 = .ok (.castore, 1) := by decide +kernel
theorem dX12_init_516 : decode cX12_init 516 = .ok (.dup, 1) := by decide +kernel
theorem dX12_init_517 : decode cX12_init 517 = .ok (.iconst 5, 1) := by decide +kernel
theorem dX12_init_518 : decode cX12_init 518 = .ok (.bipush 114, 2) := by decide +kernel
theorem dX12_init_520 : decode cX12_init 520 = .ok (.castore, 1) := by decide +kernel
theorem dX12_init_521 : decode cX12_init 521 = .ok (.putfield 69, 3) := by decide +kernel
theorem dX12_init_524 : decode cX12_init 524 = .ok (.aload_n 0, 1) := by decide +kernel
theorem dX12_init_525 : decode cX12_init 525 = .ok (.iconst 3, 1) := by decide +kernel
theorem dX12_init_526 : decode cX12_init 526 = .ok (.newarray .char, 2) := by decide +kernel
theorem dX12_init_528 : decode cX12_init 528 = .ok (.dup, 1) := by decide +kernel
theorem dX12_init_529 : decode cX12_init 529 = .ok (.iconst 0, 1) := by decide +kernel
theorem dX12_init_530 : decode cX12_init 530 = .ok (.bipush 116, 2) := by decide +kernel
theorem dX12_init_532 : decode cX12_init 532 = .ok (.castore, 1) := by decide +kernel
theorem dX12_init_533 : decode cX12_init 533 = .ok (.dup, 1) := by decide +kernel
theorem dX12_init_534 : decode cX12_init 534 = .ok (.iconst 1, 1) := by decide +kernel
theorem dX12_init_535 : decode cX12_init 535 = .ok (.bipush 111, 2) := by decide +kernel
theorem dX12_init_537 : decode cX12_init 537 = .ok (.castore, 1) := by decide +kernel
theorem dX12_init_538 : decode cX12_init 538 = .ok (.dup, 1) := by decide +kernel
theorem dX12_init_539 : decode cX12_init 539 = .ok (.iconst 2, 1) := by decide +kernel
theorem dX12_init_540 : decode cX12_init 540 = .ok (.bipush 112, 2) := by decide +kernel
theorem dX12_init_542 : decode cX12_init 542 = .ok (.castore, 1) := by decide +kernel
theorem dX12_init_543 : decode cX12_init 543 = .ok (.putfield 72, 3) := by decide +kernel
theorem dX12_init_546 : decode cX12_init 546 = .ok (.aload_n 0, 1) := by decide +kernel
theorem dX12_init_547 : decode cX12_init 547 = .ok (.bipush 6, 2) := by decide +kernel
theorem dX12_init_549 : decode cX12_init 549 = .ok (.newarray .char, 2) := by decide +kernel
theorem dX12_init_551 : decode cX12_init 551 = .ok (.dup, 1) := by decide +kernel
theorem dX12_init_552 : decode cX12_init 552 = .ok (.iconst 0, 1) := by decide +kernel
theorem dX12_init_553 : decode cX12_init 553 = .ok (.bipush 98, 2) := by decide +kernel
theorem dX12_init_555 : decode cX12_init 555 = .ok (.castore, 1) := by decide +kernel
theorem dX12_init_556 : decode cX12_init 556 = .ok (.dup, 1) := by decide +kernel
theorem dX12_init_557 : decode cX12_init 557 = .ok (.iconst 1, 1) := by decide +kernel
theorem dX12_init_558 : decode cX12_init 558 = .ok (.bipush 111, 2) := by decide +kernel
theorem dX12_init_560 : decode cX12_init 560 = .ok (.castore, 1) := by decide +kernel
theorem dX12_init_561 : decode cX12_init 561 = .ok (.dup, 1) := by decide +kernel
theorem dX12_init_562 : decode cX12_init 562 = .ok (.iconst 2, 1) := by decide +kernel
theorem dX12_init_563 : decode cX12_init 563 = .ok (.bipush 116, 2) := by decide +kernel
theorem dX12_init_565 : decode cX12_init 565 = .ok (.castore, 1) := by decide +kernel
theorem dX12_init_566 : decode cX12_init 566 = .ok (.dup, 1) := by decide +kernel
theorem dX12_init_567 : decode cX12_init 567 = .ok (.iconst 3, 1) := by decide +kernel
theorem dX12_init_568 : decode cX12_init 568 = .ok (.bipush 116, 2) := by decide +kernel
theorem dX12_init_570 : decode cX12_init 570 = .ok (.castore, 1) := by decide +kernel
theorem dX12_init_571 : decode cX12_init 571 = .ok (.dup, 1) := by decide +kernel
theorem dX12_init_572 : decode cX12_init 572 = .ok (.iconst 4, 1) := by decide +kernel
theorem dX12_init_573 : decode cX12_init 573 = .ok (.bipush 111, 2) := by decide +kernel
theorem dX12_init_575 : decode cX12_init 575 = .ok (.castore, 1) := by decide +kernel
theorem dX12_init_576 : decode cX12_init 576 = .ok (.dup, 1) := by decide +kernel
theorem dX12_init_577 : decode cX12_init 577 = .ok (.iconst 5, 1) := by decide +kernel
theorem dX12_init_578 : decode cX12_init 578 = .ok (.bipush 109, 2) := by decide +kernel
theorem dX12_init_580 : decode cX12_init 580 = .ok (.castore, 1) := by decide +kernel
theorem dX12_init_581 : decode cX12_init 581 = .ok (.putfield 75, 3) := by decide +kernel
theorem dX12_init_584 : decode cX12_init 584 = .ok (.aload_n 0, 1) := by decide +kernel
theorem dX12_init_585 : decode cX12_init 585 = .ok (.iconst 4, 1) := by decide +kernel
theorem dX12_init_586 : decode cX12_init 586 = .ok (.newarray .char, 2) := by decide +kernel
theorem dX12_init_588 : decode cX12_init 588 = .ok (.dup, 1) := by decide +kernel
theorem dX12_init_589 : decode cX12_init 589 = .ok (.iconst 0, 1) := by decide +kernel
theorem dX12_init_590 : decode cX12_init 590 = .ok (.bipush 119, 2) := by decide +kernel
theorem dX12_init_592 : decode cX12_init 592 = .ok (.castore, 1) := by decide +kernel
theorem dX12_init_593 : decode cX12_init 593 = .ok (.dup, 1) := by decide +kernel
theorem dX12_init_594 : decode cX12_init 594 = .ok (.iconst 1, 1) := by decide +kernel
theorem dX12_init_595 : decode cX12_init 595 = .ok (.bipush 97, 2) := by decide +kernel
theorem dX12_init_597 : decode cX12_init 597 = .ok (.castore, 1) := by decide +kernel
theorem dX12_init_598 : decode cX12_init 598 = .ok (.dup, 1) := by decide +kernel
theorem dX12_init_599 : decode cX12_init 599 = .ok (.iconst 2, 1) := by decide +kernel
theorem dX12_init_600 : decode cX12_init 600 = .ok (.bipush 121, 2) := by decide +kernel
theorem dX12_init_602 : decode cX12_init 602 = .ok (.castore, 1) := by decide +kernel
theorem dX12_init_603 : decode cX12_init 603 = .ok (.dup, 1) := by decide +kernel
theorem dX12_init_604 : decode cX12_init 604 = .ok (.iconst 3, 1) := by decide +kernel
theorem dX12_init_605 : decode cX12_init 605 = .ok (.bipush 115, 2) := by decide +kernel
theorem dX12_init_607 : decode cX12_init 607 = .ok (.castore, 1) := by decide +kernel
theorem dX12_init_608 : decode cX12_init 608 = .ok (.putfield 78, 3) := by decide +kernel
theorem dX12_init_611 : decode cX12_init 611 = .ok (.aload_n 0, 1) := by decide +kernel
theorem dX12_init_612 : decode cX12_init 612 = .ok (.iconst 3, 1) := by decide +kernel
theorem dX12_init_613 : decode cX12_init 613 = .ok (.newarray .char, 2) := by decide +kernel
theorem dX12_init_615 : decode cX12_init 615 = .ok (.dup, 1) := by decide +kernel
theorem dX12_init_616 : decode cX12_init 616 = .ok (.iconst 0, 1) := by decide +kernel
theorem dX12_init_617 : decode cX12_init 617 = .ok (.bipush 104, 2) := by decide +kernel
theorem dX12_init_619 : decode cX12_init 619 = .ok (.castore, 1) := by decide +kernel
theorem dX12_init_620 : decode cX12_init 620 = .ok (.dup, 1) := by decide +kernel
theorem dX12_init_621 : decode cX12_init 621 = .ok (.iconst 1, 1) := by decide +kernel
theorem dX12_init_622 : decode cX12_init 622 = .ok (.bipush 97, 2) := by decide +kernel
theorem dX12_init_624 : decode cX12_init 624 = .ok (.castore, 1) := by decide +kernel
theorem dX12_init_625 : decode cX12_init 625 = .ok (.dup, 1) := by decide +kernel
theorem dX12_init_626 : decode cX12_init 626 = .ok (.iconst 2, 1) := by decide +kernel
theorem dX12_init_627 : decode cX12_init 627 = .ok (.bipush 100, 2) := by decide +kernel
theorem dX12_init_629 : decode cX12_init 629 = .ok (.castore, 1) := by decide +kernel
theorem dX12_init_630 : decode cX12_init 630 = .ok (.putfield 81, 3) := by decide +kernel
theorem dX12_init_633 : decode cX12_init 633 = .ok (.aload_n 0, 1) := by decide +kernel
theorem dX12_init_634 : decode cX12_init 634 = .ok (.iconst 4, 1) := by decide +kernel
theorem dX12_init_635 : decode cX12_init 635 = .ok (.newarray .char, 2) := by decide +kernel
theorem dX12_init_637 : decode cX12_init 637 = .ok (.dup, 1) := by decide +kernel
theorem dX12_init_638 : decode cX12_init 638 = .ok (.iconst 0, 1) := by decide +kernel
theorem dX12_init_639 : decode cX12_init 639 = .ok (.bipush 102, 2) := by decide +kernel
theorem dX12_init_641 : decode cX12_init 641 = .ok (.castore, 1) := by decide +kernel
theorem dX12_init_642 : decode cX12_init 642 = .ok (.dup, 1) := by decide +kernel
theorem dX12_init_643 : decode cX12_init 643 = .ok (.iconst 1, 1) := by decide +kernel
theorem dX12_init_644 : decode cX12_init 644 = .ok (.bipush 105, 2) := by decide +kernel
theorem dX12_init_646 : decode cX12_init 646 = .ok (.castore, 1) := by decide +kernel
theorem dX12_init_647 : decode cX12_init 647 = .ok (.dup, 1) := by decide +kernel
theorem dX12_init_648 : decode cX12_init 648 = .ok (.iconst 2, 1) := by decide +kernel
theorem dX12_init_649 : decode cX12_init 649 = .ok (.bipush 116, 2) := by decide +kernel
theorem dX12_init_651 : decode cX12_init 651 = .ok (.castore, 1) := by decide +kernel
theorem dX12_init_652 : decode cX12_init 652 = .ok (.dup, 1) := by decide +kernel
theorem dX12_init_653 : decode cX12_init 653 = .ok (.iconst 3, 1) := by decide +kernel
theorem dX12_init_654 : decode cX12_init 654 = .ok (.bipush 115, 2) := by decide +kernel
theorem dX12_init_656 : decode cX12_init 656 = .ok (.castore, 1) := by decide +kernel
theorem dX12_init_657 : decode cX12_init 657 = .ok (.putfield 84, 3) := by decide +kernel
theorem dX12_init_660 : decode cX12_init 660 = .ok (.aload_n 0, 1) := by decide +kernel
theorem dX12_init_661 : decode cX12_init 661 = .ok (.iconst 2, 1) := by decide +kernel
theorem dX12_init_662 : decode cX12_init 662 = .ok (.newarray .char, 2) := by decide +kernel
theorem dX12_init_664 : decode cX12_init 664 = .ok (.dup, 1) := by decide +kernel
theorem dX12_init_665 : decode cX12_init 665 = .ok (.iconst 0, 1) := by decide +kernel
theorem dX12_init_666 : decode cX12_init 666 = .ok (.bipush 111, 2) := by decide +kernel
theorem dX12_init_668 : decode cX12_init 668 = .ok (.castore, 1) := by decide +kernel
theorem dX12_init_669 : decode cX12_init 669 = .ok (.dup, 1) := by decide +kernel
theorem dX12_init_670 : decode cX12_init 670 = .ok (.iconst 1, 1) := by decide +kernel
theorem dX12_init_671 : decode cX12_init 671 = .ok (.bipush 114, 2) := by decide +kernel
theorem dX12_init_673 : decode cX12_init 673 = .ok (.castore, 1) := by decide +kernel
theorem dX12_init_674 : decode cX12_init 674 = .ok (.putfield 87, 3) := by decide +kernel
theorem dX12_init_677 : decode cX12_init 677 = .ok (.aload_n 0, 1) := by decide +kernel
theorem dX12_init_678 : decode cX12_init 678 = .ok (.iconst 3, 1) := by decide +kernel
theorem dX12_init_679 : decode cX12_init 679 = .ok (.newarray .char, 2) := by decide +kernel
theorem dX12_init_681 : decode cX12_init 681 = .ok (.dup, 1) := by decide +kernel
theorem dX12_init_682 : decode cX12_init 682 = .ok (.iconst 0, 1) := by decide +kernel
theorem dX12_init_683 : decode cX12_init 683 = .ok (.bipush 97, 2) := by decide +kernel
theorem dX12_init_685 : decode cX12_init 685 = .ok (.castore, 1) := by decide +kernel
theorem dX12_init_686 : decode cX12_init 686 = .ok (.dup, 1) := by decide +kernel
theorem dX12_init_687 : decode cX12_init 687 = .ok (.iconst 1, 1) := by decide +kernel
theorem dX12_init_688 : decode cX12_init 688 = .ok (.bipush 110, 2) := by decide +kernel
theorem dX12_init_690 : decode cX12_init 690 = .ok (.castore, 1) := by decide +kernel
theorem dX12_init_691 : decode cX12_init 691 = .ok (.dup, 1) := by decide +kernel
theorem dX12_init_692 : decode cX12_init 692 = .ok (.iconst 2, 1) := by decide +kernel
theorem dX12_init_693 : decode cX12_init 693 = .ok (.bipush 100, 2) := by decide +kernel
theorem dX12_init_695 : decode cX12_init 695 = .ok (.castore, 1) := by decide +kernel
theorem dX12_init_696 : decode cX12_init 696 = .ok (.putfield 90, 3) := by decide +kernel
theorem dX12_init_699 : decode cX12_init 699 = .ok (.aload_n 0, 1) := by decide +kernel
theorem dX12_init_700 : decode cX12_init 700 = .ok (.iconst 3, 1) := by decide +kernel
theorem dX12_init_701 : decode cX12_init 701 = .ok (.newarray .char, 2) := by decide +kernel
theorem dX12_init_703 : decode cX12_init 703 = .ok (.dup, 1) := by decide +kernel
theorem dX12_init_704 : decode cX12_init 704 = .ok (.iconst 0, 1) := by decide +kernel
theorem dX12_init_705 : decode cX12_init 705 = .ok (.bipush 110, 2) := by decide +kernel
theorem dX12_init_707 : decode cX12_init 707 = .ok (.castore, 1) := by decide +kernel
theorem dX12_init_708 : decode cX12_init 708 = .ok (.dup, 1) := by decide +kernel
theorem dX12_init_709 : decode cX12_init 709 = .ok (.iconst 1, 1) := by decide +kernel
theorem dX12_init_710 : decode cX12_init 710 = .ok (.bipush 111, 2) := by decide +kernel
theorem dX12_init_712 : decode cX12_init 712 = .ok (.castore, 1) := by decide +kernel
theorem dX12_init_713 : decode cX12_init 713 = .ok (.dup, 1) := by decide +kernel
theorem dX12_init_714 : decode cX12_init 714 = .ok (.iconst 2, 1) := by decide +kernel
theorem dX12_init_715 : decode cX12_init 715 = .ok (.bipush 116, 2) := by decide +kernel
theorem dX12_init_717 : decode cX12_init 717 = .ok (.castore, 1) := by decide +kernel
theorem dX12_init_718 : decode cX12_init 718 = .ok (.putfield 93, 3) := by decide +kernel
theorem dX12_init_721 : decode cX12_init 721 = .ok (.aload_n 0, 1) := by decide +kernel
theorem dX12_init_722 : decode cX12_init 722 = .ok (.iconst 3, 1) := by decide +kernel
theorem dX12_init_723 : decode cX12_init 723 = .ok (.newarray .char, 2) := by decide +kernel
theorem dX12_init_725 : decode cX12_init 725 = .ok (.dup, 1) := by decide +kernel
theorem dX12_init_726 : decode cX12_init 726 = .ok (.iconst 0, 1) := by decide +kernel
theorem dX12_init_727 : decode cX12_init 727 = .ok (.bipush 97, 2) := by decide +kernel
theorem dX12_init_729 : decode cX12_init 729 = .ok (.castore, 1) := by decide +kernel
theorem dX12_init_730 : decode cX12_init 730 = .ok (.dup, 1) := by decide +kernel
theorem dX12_init_731 : decode cX12_init 731 = .ok (.iconst 1, 1) := by decide +kernel
theorem dX12_init_732 : decode cX12_init 732 = .ok (.bipush 108, 2) := by decide +kernel
theorem dX12_init_734 : decode cX12_init 734 = .ok (.castore, 1) := by decide +kernel
theorem dX12_init_735 : decode cX12_init 735 = .ok (.dup, 1) := by decide +kernel
theorem dX12_init_736 : decode cX12_init 736 = .ok (.iconst 2, 1) := by decide +kernel
theorem dX12_init_737 : decode cX12_init 737 = .ok (.bipush 108, 2) := by decide +kernel
theorem dX12_init_739 : decode cX12_init 739 = .ok (.castore, 1) := by decide +kernel
theorem dX12_init_740 : decode cX12_init 740 = .ok (.putfield 96, 3) := by decide +kernel
theorem dX12_init_743 : decode cX12_init 743 = .ok (.aload_n 0, 1) := by decide +kernel
theorem dX12_init_744 : decode cX12_init 744 = .ok (.iconst 3, 1) := by decide +kernel
theorem dX12_init_745 : decode cX12_init 745 = .ok (.newarray .char, 2) := by decide +kernel
theorem dX12_init_747 : decode cX12_init 747 = .ok (.dup, 1) := by decide +kernel
theorem dX12_init_748 : decode cX12_init 748 = .ok (.iconst 0, 1) := by decide +kernel
theorem dX12_init_749 : decode cX12_init 749 = .ok (.bipush 109, 2) := by decide +kernel
theorem dX12_init_751 : decode cX12_init 751 = .ok (.castore, 1) := by decide +kernel
theorem dX12_init_752 : decode cX12_init 752 = .ok (.dup, 1) := by decide +kernel
theorem dX12_init_753 : decode cX12_init 753 = .ok (.iconst 1, 1) := by decide +kernel
theorem dX12_init_754 : decode cX12_init 754 = .ok (.bipush 105, 2) := by decide +kernel
theorem dX12_init_756 : decode cX12_init 756 = .ok (.castore, 1) := by decide +kernel
theorem dX12_init_757 : decode cX12_init 757 = .ok (.dup, 1) := by decide +kernel
theorem dX12_init_758 : decode cX12_init 758 = .ok (.iconst 2, 1) := by decide +kernel
theorem dX12_init_759 : decode cX12_init 759 = .ok (.bipush 110, 2) := by decide +kernel
theorem dX12_init_761 : decode cX12_init 761 = .ok (.castore, 1) := by decide +kernel
theorem dX12_init_762 : decode cX12_init 762 = .ok (.putfield 99, 3) := by decide +kernel
theorem dX12_init_765 : decode cX12_init 765 = .ok (.aload_n 0, 1) := by decide +kernel
theorem dX12_init_766 : decode cX12_init 766 = .ok (.iconst 3, 1) := by decide +kernel
theorem dX12_init_767 : decode cX12_init 767 = .ok (.newarray .char, 2) := by decide +kernel
theorem dX12_init_769 : decode cX12_init 769 = .ok (.dup, 1) := by decide +kernel
theorem dX12_init_770 : decode cX12_init 770 = .ok (.iconst 0, 1) := by decide +kernel
theorem dX12_init_771 : decode cX12_init 771 = .ok (.bipush 109, 2) := by decide +kernel
theorem dX12_init_773 : decode cX12_init 773 = .ok (.castore, 1) := by decide +kernel
theorem dX12_init_774 : decode cX12_init 774 = .ok (.dup, 1) := by decide +kernel
theorem dX12_init_775 : decode cX12_init 775 = .ok (.iconst 1, 1) := by decide +kernel
theorem dX12_init_776 : decode cX12_init 776 = .ok (.bipush 97, 2) := by decide +kernel
theorem dX12_init_778 : decode cX12_init 778 = .ok (.castore, 1) := by decide +kernel
theorem dX12_init_779 : decode cX12_init 779 = .ok (.dup, 1) := by decide +kernel
theorem dX12_init_780 : decode cX12_init 780 = .ok (.iconst 2, 1) := by decide +kernel
theorem dX12_init_781 : decode cX12_init 781 = .ok (.bipush 120, 2) := by decide +kernel
theorem dX12_init_783 : decode cX12_init 783 = .ok (.castore, 1) := by decide +kernel
theorem dX12_init_784 : decode cX12_init 784 = .ok (.putfield 102, 3) := by decide +kernel
theorem dX12_init_787 : decode cX12_init 787 = .ok (.aload_n 0, 1) := by decide +kernel
theorem dX12_init_788 : decode cX12_init 788 = .ok (.bipush 10, 2) := by decide +kernel
theorem dX12_init_790 : decode cX12_init 790 = .ok (.newarray .int, 2) := by decide +kernel
theorem dX12_init_792 : decode cX12_init 792 = .ok (.putfield 105, 3) := by decide +kernel
theorem dX12_init_795 : decode cX12_init 795 = .ok (.aload_n 0, 1) := by decide +kernel
theorem dX12_init_796 : decode cX12_init 796 = .ok (.bipush 12, 2) := by decide +kernel
theorem dX12_init_798 : decode cX12_init 798 = .ok (.newarray .long, 2) := by decide +kernel
theorem dX12_init_800 : decode cX12_init 800 = .ok (.putfield 108, 3) := by decide +kernel
theorem dX12_init_803 : decode cX12_init 803 = .ok (.aload_n 0, 1) := by decide +kernel
theorem dX12_init_804 : decode cX12_init 804 = .ok (.bipush 24, 2) := by decide +kernel
theorem dX12_init_806 : decode cX12_init 806 = .ok (.newarray .int, 2) := by decide +kernel
theorem dX12_init_808 : decode cX12_init 808 = .ok (.putfield 112, 3) := by decide +kernel
theorem dX12_init_811 : decode cX12_init 811 = .ok (.aload_n 0, 1) := by decide +kernel
theorem dX12_init_812 : decode cX12_init 812 = .ok (.bipush 25, 2) := by decide +kernel
theorem dX12_init_814 : decode cX12_init 814 = .ok (.newarray .int, 2) := by decide +kernel
theorem dX12_init_816 : decode cX12_init 816 = .ok (.putfield 115, 3) := by decide +kernel
theorem dX12_init_819 : decode cX12_init 819 = .ok (.aload_n 0, 1) := by decide +kernel
theorem dX12_init_820 : decode cX12_init 820 = .ok (.iconst 4, 1) := by decide +kernel
theorem dX12_init_821 : decode cX12_init 821 = .ok (.newarray .int, 2) := by decide +kernel
theorem dX12_init_823 : decode cX12_init 823 = .ok (.dup, 1) := by decide +kernel
theorem dX12_init_824 : decode cX12_init 824 = .ok (.iconst 0, 1) := by decide +kernel
theorem dX12_init_825 : decode cX12_init 825 = .ok (.iconst (-1), 1) := by decide +kernel
theorem dX12_init_826 : decode cX12_init 826 = .ok (.iastore, 1) := by decide +kernel
theorem dX12_init_827 : decode cX12_init 827 = .ok (.dup, 1) := by decide +kernel
theorem dX12_init_828 : decode cX12_init 828 = .ok (.iconst 1, 1) := by decide +kernel
theorem dX12_init_829 : decode cX12_init 829 = .ok (.iconst (-1), 1) := by decide +kernel
theorem dX12_init_830 : decode cX12_init 830 = .ok (.iastore, 1) := by decide +kernel
theorem dX12_init_831 : decode cX12_init 831 = .ok (.dup, 1) := by decide +kernel
theorem dX12_init_832 : decode cX12_init 832 = .ok (.iconst 2, 1) := by decide +kernel
theorem dX12_init_833 : decode cX12_init 833 = .ok (.iconst (-1), 1) := by decide +kernel
theorem dX12_init_834 : decode cX12_init 834 = .ok (.iastore, 1) := by decide +kernel
theorem dX12_init_835 : decode cX12_init 835 = .ok (.dup, 1) := by decide +kernel
theorem dX12_init_836 : decode cX12_init 836 = .ok (.iconst 3, 1) := by decide +kernel
theorem dX12_init_837 : decode cX12_init 837 = .ok (.iconst (-1), 1) := by decide +kernel
theorem dX12_init_838 : decode cX12_init 838 = .ok (.iastore, 1) := by decide +kernel
theorem dX12_init_839 : decode cX12_init 839 = .ok (.putfield 118, 3) := by decide +kernel
theorem dX12_init_842 : decode cX12_init 842 = .ok (.aload_n 0, 1) := by decide +kernel
theorem dX12_init_843 : decode cX12_init 843 = .ok (.iconst 4, 1) := by decide +kernel
theorem dX12_init_844 : decode cX12_init 844 = .ok (.newarray .int, 2) := by decide +kernel
theorem dX12_init_846 : decode cX12_init 846 = .ok (.putfield 121, 3) := by decide +kernel
theorem dX12_init_849 : decode cX12_init 849 = .ok (.aload_n 0, 1) := by decide +kernel
theorem dX12_init_850 : decode cX12_init 850 = .ok (.sipush 3200, 3) := by decide +kernel
theorem dX12_init_853 : decode cX12_init 853 = .ok (.newarray .int, 2) := by decide +kernel
theorem dX12_init_855 : decode cX12_init 855 = .ok (.putfield 124, 3) := by decide +kernel
theorem dX12_init_858 : decode cX12_init 858 = .ok (.aload_n 0, 1) := by decide +kernel
theorem dX12_init_859 : decode cX12_init 859 = .ok (.sipush 158, 3) := by decide +kernel
theorem dX12_init_862 : decode cX12_init 862 = .ok (.newarray .int, 2) := by decide +kernel
theorem dX12_init_864 : decode cX12_init 864 = .ok (.putfield 127, 3) := by decide +kernel
theorem dX12_init_867 : decode cX12_init 867 = .ok (.aload_n 0, 1) := by decide +kernel
theorem dX12_init_868 : decode cX12_init 868 = .ok (.sipush 2000, 3) := by decide +kernel
theorem dX12_init_871 : decode cX12_init 871 = .ok (.newarray .int, 2) := by decide +kernel
theorem dX12_init_873 : decode cX12_init 873 = .ok (.putfield 130, 3) := by decide +kernel
theorem dX12_init_876 : decode cX12_init 876 = .ok (.aload_n 0, 1) := by decide +kernel
theorem dX12_init_877 : decode cX12_init 877 = .ok (.bipush 6, 2) := by decide +kernel
theorem dX12_init_879 : decode cX12_init 879 = .ok (.newarray .int, 2) := by decide +kernel
theorem dX12_init_881 : decode cX12_init 881 = .ok (.putfield 133, 3) := by decide +kernel
theorem dX12_init_884 : decode cX12_init 884 = .ok (.aload_n 0, 1) := by decide +kernel
theorem dX12_init_885 : decode cX12_init 885 = .ok (.bipush 6, 2) := by decide +kernel
theorem dX12_init_887 : decode cX12_init 887 = .ok (.newarray .long, 2) := by decide +kernel
theorem dX12_init_889 : decode cX12_init 889 = .ok (.putfield 136, 3) := by decide +kernel
theorem dX12_init_892 : decode cX12_init 892 = .ok (.aload_n 0, 1) := by decide +kernel
theorem dX12_init_893 : decode cX12_init 893 = .ok (.sipush 12000, 3) := by decide +kernel
theorem dX12_init_896 : decode cX12_init 896 = .ok (.newarray .int, 2) := by decide +kernel
theorem dX12_init_898 : decode cX12_init 898 = .ok (.putfield 139, 3) := by decide +kernel
theorem dX12_init_901 : decode cX12_init 901 = .ok (.aload_n 0, 1) := by decide +kernel
theorem dX12_init_902 : decode cX12_init 902 = .ok (.bipush 6, 2) := by decide +kernel
theorem dX12_init_904 : decode cX12_init 904 = .ok (.newarray .int, 2) := by decide +kernel
theorem dX12_init_906 : decode cX12_init 906 = .ok (.putfield 142, 3) := by decide +kernel
theorem dX12_init_909 : decode cX12_init 909 = .ok (.aload_n 0, 1) := by decide +kernel
theorem dX12_init_910 : decode cX12_init 910 = .ok (.bipush 6, 2) := by decide +kernel
theorem dX12_init_912 : decode cX12_init 912 = .ok (.newarray .int, 2) := by decide +kernel
theorem dX12_init_914 : decode cX12_init 914 = .ok (.putfield 145, 3) := by decide +kernel
theorem dX12_init_917 : decode cX12_init 917 = .ok (.aload_n 0, 1) := by decide +kernel
theorem dX12_init_918 : decode cX12_init 918 = .ok (.bipush 37, 2) := by decide +kernel
theorem dX12_init_920 : decode cX12_init 920 = .ok (.newarray .int, 2) := by decide +kernel
theorem dX12_init_922 : decode cX12_init 922 = .ok (.putfield 148, 3) := by decide +kernel
theorem dX12_init_925 : decode cX12_init 925 = .ok (.aload_n 0, 1) := by decide +kernel
theorem dX12_init_926 : decode cX12_init 926 = .ok (.bipush 7, 2) := by decide +kernel
theorem dX12_init_928 : decode cX12_init 928 = .ok (.newarray .int, 2) := by decide +kernel
theorem dX12_init_930 : decode cX12_init 930 = .ok (.putfield 151, 3) := by decide +kernel
theorem dX12_init_933 : decode cX12_init 933 = .ok (.aload_n 0, 1) := by decide +kernel
theorem dX12_init_934 : decode cX12_init 934 = .ok (.bipush 6, 2) := by decide +kernel
theorem dX12_init_936 : decode cX12_init 936 = .ok (.newarray .int, 2) := by decide +kernel
theorem dX12_init_938 : decode cX12_init 938 = .ok (.putfield 154, 3) := by decide +kernel
theorem dX12_init_941 : decode cX12_init 941 = .ok (.aload_n 0, 1) := by decide +kernel
theorem dX12_init_942 : decode cX12_init 942 = .ok (.bipush 48, 2) := by decide +kernel
theorem dX12_init_944 : decode cX12_init 944 = .ok (.newarray .int, 2) := by decide +kernel
theorem dX12_init_946 : decode cX12_init 946 = .ok (.putfield 157, 3) := by decide +kernel
theorem dX12_init_949 : decode cX12_init 949 = .ok (.aload_n 0, 1) := by decide +kernel
theorem dX12_init_950 : decode cX12_init 950 = .ok (.sipush 961, 3) := by decide +kernel
theorem dX12_init_953 : decode cX12_init 953 = .ok (.newarray .int, 2) := by decide +kernel
theorem dX12_init_955 : decode cX12_init 955 = .ok (.putfield 160, 3) := by decide +kernel
theorem dX12_init_958 : decode cX12_init 958 = .ok (.aload_n 0, 1) := by decide +kernel
theorem dX12_init_959 : decode cX12_init 959 = .ok (.sipush 3160, 3) := by decide +kernel
theorem dX12_init_962 : decode cX12_init 962 = .ok (.newarray .int, 2) := by decide +kernel
theorem dX12_init_964 : decode cX12_init 964 = .ok (.putfield 163, 3) := by decide +kernel
theorem dX12_init_967 : decode cX12_init 967 = .ok (.aload_n 0, 1) := by decide +kernel
theorem dX12_init_968 : decode cX12_init 968 = .ok (.lconst 1, 1) := by decide +kernel
theorem dX12_init_969 : decode cX12_init 969 = .ok (.putfield 166, 3) := by decide +kernel
theorem dX12_init_972 : decode cX12_init 972 = .ok (.aload_n 0, 1) := by decide +kernel
theorem dX12_init_973 : decode cX12_init 973 = .ok (.iconst 5, 1) := by decide +kernel
theorem dX12_init_974 : decode cX12_init 974 = .ok (.newarray .char, 2) := by decide +kernel
theorem dX12_init_976 : decode cX12_init 976 = .ok (.dup, 1) := by decide +kernel
theorem dX12_init_977 : decode cX12_init 977 = .ok (.iconst 0, 1) := by decide +kernel
theorem dX12_init_978 : decode cX12_init 978 = .ok (.bipush 102, 2) := by decide +kernel
theorem dX12_init_980 : decode cX12_init 980 = .ok (.castore, 1) := by decide +kernel
theorem dX12_init_981 : decode cX12_init 981 = .ok (.dup, 1) := by decide +kernel
theorem dX12_init_982 : decode cX12_init 982 = .ok (.iconst 1, 1) := by decide +kernel
theorem dX12_init_983 : decode cX12_init 983 = .ok (.bipush 105, 2) := by decide +kernel
theorem dX12_init_985 : decode cX12_init 985 = .ok (.castore, 1) := by decide +kernel
theorem dX12_init_986 : decode cX12_init 986 = .ok (.dup, 1) := by decide +kernel
theorem dX12_init_987 : decode cX12_init 987 = .ok (.iconst 2, 1) := by decide +kernel
theorem dX12_init_988 : decode cX12_init 988 = .ok (.bipush 114, 2) := by decide +kernel
theorem dX12_init_990 : decode cX12_init 990 = .ok (.castore, 1) := by decide +kernel
theorem dX12_init_991 : decode cX12_init 991 = .ok (.dup, 1) := by decide +kernel
theorem dX12_init_992 : decode cX12_init 992 = .ok (.iconst 3, 1) := by decide +kernel
theorem dX12_init_993 : decode cX12_init 993 = .ok (.bipush 115, 2) := by decide +kernel
theorem dX12_init_995 : decode cX12_init 995 = .ok (.castore, 1) := by decide +kernel
theorem dX12_init_996 : decode cX12_init 996 = .ok (.dup, 1) := by decide +kernel
theorem dX12_init_997 : decode cX12_init 997 = .ok (.iconst 4, 1) := by decide +kernel
theorem dX12_init_998 : decode cX12_init 998 = .ok (.bipush 116, 2) := by decide +kernel
theorem dX12_init_1000 : decode cX12_init 1000 = .ok (.castore, 1) := by decide +kernel
theorem dX12_init_1001 : decode cX12_init 1001 = .ok (.putfield 170, 3) := by decide +kernel
theorem dX12_init_1004 : decode cX12_init 1004 = .ok (.aload_n 0, 1) := by decide +kernel
theorem dX12_init_1005 : decode cX12_init 1005 = .ok (.iconst 4, 1) := by decide +kernel
theorem dX12_init_1006 : decode cX12_init 1006 = .ok (.newarray .char, 2) := by decide +kernel
theorem dX12_init_1008 : decode cX12_init 1008 = .ok (.dup, 1) := by decide +kernel
theorem dX12_init_1009 : decode cX12_init 1009 = .ok (.iconst 0, 1) := by decide +kernel
theorem dX12_init_1010 : decode cX12_init 1010 = .ok (.bipush 108, 2) := by decide +kernel
theorem dX12_init_1012 : decode cX12_init 1012 = .ok (.castore, 1) := by decide +kernel
theorem dX12_init_1013 : decode cX12_init 1013 = .ok (.dup, 1) := by decide +kernel
theorem dX12_init_1014 : decode cX12_init 1014 = .ok (.iconst 1, 1) := by decide +kernel
theorem dX12_init_1015 : decode cX12_init 1015 = .ok (.bipush 97, 2) := by decide +kernel
theorem dX12_init_1017 : decode cX12_init 1017 = .ok (.castore, 1) := by decide +kernel
theorem dX12_init_1018 : decode cX12_init 1018 = .ok (.dup, 1) := by decide +kernel
theorem dX12_init_1019 : decode cX12_init 1019 = .ok (.iconst 2, 1) := by decide +kernel
theorem dX12_init_1020 : decode cX12_init 1020 = .ok (.bipush 115, 2) := by decide +kernel
theorem dX12_init_1022 : decode cX12_init 1022 = .ok (.castore, 1) := by decide +kernel
theorem dX12_init_1023 : decode cX12_init 1023 = .ok (.dup, 1) := by decide +kernel
theorem dX12_init_1024 : decode cX12_init 1024 = .ok (.iconst 3, 1) := by decide +kernel
theorem dX12_init_1025 : decode cX12_init 1025 = .ok (.bipush 116, 2) := by decide +kernel
theorem dX12_init_1027 : decode cX12_init 1027 = .ok (.castore, 1) := by decide +kernel
theorem dX12_init_1028 : decode cX12_init 1028 = .ok (.putfield 173, 3) := by decide +kernel
theorem dX12_init_1031 : decode cX12_init 1031 = .ok (.aload_n 0, 1) := by decide +kernel
theorem dX12_init_1032 : decode cX12_init 1032 = .ok (.iconst 5, 1) := by decide +kernel
theorem dX12_init_1033 : decode cX12_init 1033 = .ok (.newarray .char, 2) := by decide +kernel
theorem dX12_init_1035 : decode cX12_init 1035 = .ok (.dup, 1) := by decide +kernel
theorem dX12_init_1036 : decode cX12_init 1036 = .ok (.iconst 0, 1) := by decide +kernel
theorem dX12_init_1037 : decode cX12_init 1037 = .ok (.bipush 111, 2) := by decide +kernel
theorem dX12_init_1039 : decode cX12_init 1039 = .ok (.castore, 1) := by decide +kernel
theorem dX12_init_1040 : decode cX12_init 1040 = .ok (.dup, 1) := by decide +kernel
theorem dX12_init_1041 : decode cX12_init 1041 = .ok (.iconst 1, 1) := by decide +kernel
theorem dX12_init_1042 : decode cX12_init 1042 = .ok (.bipush 102, 2) := by decide +kernel
theorem dX12_init_1044 : decode cX12_init 1044 = .ok (.castore, 1) := by decide +kernel
theorem dX12_init_1045 : decode cX12_init 1045 = .ok (.dup, 1) := by decide +kernel
theorem dX12_init_1046 : decode cX12_init 1046 = .ok (.iconst 2, 1) := by decide +kernel
theorem dX12_init_1047 : decode cX12_init 1047 = .ok (.bipush 116, 2) := by decide +kernel
theorem dX12_init_1049 : decode cX12_init 1049 = .ok (.castore, 1) := by decide +kernel
theorem dX12_init_1050 : decode cX12_init 1050 = .ok (.dup, 1) := by decide +kernel
theorem dX12_init_1051 : decode cX12_init 1051 = .ok (.iconst 3, 1) := by decide +kernel
theorem dX12_init_1052 : decode cX12_init 1052 = .ok (.bipush 101, 2) := by decide +kernel
theorem dX12_init_1054 : decode cX12_init 1054 = .ok (.castore, 1) := by decide +kernel
theorem dX12_init_1055 : decode cX12_init 1055 = .ok (.dup, 1) := by decide +kernel
theorem dX12_init_1056 : decode cX12_init 1056 = .ok (.iconst 4, 1) := by decide +kernel
theorem dX12_init_1057 : decode cX12_init 1057 = .ok (.bipush 110, 2) := by decide +kernel
theorem dX12_init_1059 : decode cX12_init 1059 = .ok (.castore, 1) := by decide +kernel
theorem dX12_init_1060 : decode cX12_init 1060 = .ok (.putfield 176, 3) := by decide +kernel
theorem dX12_init_1063 : decode cX12_init 1063 = .ok (.aload_n 0, 1) := by decide +kernel
theorem dX12_init_1064 : decode cX12_init 1064 = .ok (.iconst 5, 1) := by decide +kernel
theorem dX12_init_1065 : decode cX12_init 1065 = .ok (.newarray .char, 2) := by decide +kernel
theorem dX12_init_1067 : decode cX12_init 1067 = .ok (.dup, 1) := by decide +kernel
theorem dX12_init_1068 : decode cX12_init 1068 = .ok (.iconst 0, 1) := by decide +kernel
theorem dX12_init_1069 : decode cX12_init 1069 = .ok (.bipush 116, 2) := by decide +kernel
theorem dX12_init_1071 : decode cX12_init 1071 = .ok (.castore, 1) := by decide +kernel
theorem dX12_init_1072 : decode cX12_init 1072 = .ok (.dup, 1) := by decide +kernel
theorem dX12_init_1073 : decode cX12_init 1073 = .ok (.iconst 1, 1) := by decide +kernel
theorem dX12_init_1074 : decode cX12_init 1074 = .ok (.bipush 111, 2) := by decide +kernel
theorem dX12_init_1076 : decode cX12_init 1076 = .ok (.castore, 1) := by decide +kernel
theorem dX12_init_1077 : decode cX12_init 1077 = .ok (.dup, 1) := by decide +kernel
theorem dX12_init_1078 : decode cX12_init 1078 = .ok (.iconst 2, 1) := by decide +kernel
theorem dX12_init_1079 : decode cX12_init 1079 = .ok (.bipush 116, 2) := by decide +kernel
theorem dX12_init_1081 : decode cX12_init 1081 = .ok (.castore, 1) := by decide +kernel
theorem dX12_init_1082 : decode cX12_init 1082 = .ok (.dup, 1) := by decide +kernel
theorem dX12_init_1083 : decode cX12_init 1083 = .ok (.iconst 3, 1) := by decide +kernel
theorem dX12_init_1084 : decode cX12_init 1084 = .ok (.bipush 97, 2) := by decide +kernel
theorem dX12_init_1086 : decode cX12_init 1086 = .ok (.castore, 1) := by decide +kernel
theorem dX12_init_1087 : decode cX12_init 1087 = .ok (.dup, 1) := by decide +kernel
theorem dX12_init_1088 : decode cX12_init 1088 = .ok (.iconst 4, 1) := by decide +kernel
theorem dX12_init_1089 : decode cX12_init 1089 = .ok (.bipush 108, 2) := by decide +kernel
theorem dX12_init_1091 : decode cX12_init 1091 = .ok (.castore, 1) := by decide +kernel
theorem dX12_init_1092 : decode cX12_init 1092 = .ok (.putfield 179, 3) := by decide +kernel
theorem dX12_init_1095 : decode cX12_init 1095 = .ok (.aload_n 0, 1) := by decide +kernel
theorem dX12_init_1096 : decode cX12_init 1096 = .ok (.iconst 4, 1) := by decide +kernel
theorem dX12_init_1097 : decode cX12_init 1097 = .ok (.newarray .char, 2) := by decide +kernel
theorem dX12_init_1099 : decode cX12_init 1099 = .ok (.dup, 1) := by decide +kernel
theorem dX12_init_1100 : decode cX12_init 1100 = .ok (.iconst 0, 1) := by decide +kernel
theorem dX12_init_1101 : decode cX12_init 1101 = .ok (.bipush 109, 2) := by decide +kernel
theorem dX12_init_1103 : decode cX12_init 1103 = .ok (.castore, 1) := by decide +kernel
theorem dX12_init_1104 : decode cX12_init 1104 = .ok (.dup, 1) := by decide +kernel
theorem dX12_init_1105 : decode cX12_init 1105 = .ok (.iconst 1, 1) := by decide +kernel
theorem dX12_init_1106 : decode cX12_init 1106 = .ok (.bipush 111, 2) := by decide +kernel
theorem dX12_init_1108 : decode cX12_init 1108 = .ok (.castore, 1) := by decide +kernel
theorem dX12_init_1109 : decode cX12_init 1109 = .ok (.dup, 1) := by decide +kernel
theorem dX12_init_1110 : decode cX12_init 1110 = .ok (.iconst 2, 1) := by decide +kernel
theorem dX12_init_1111 : decode cX12_init 1111 = .ok (.bipush 115, 2) := by decide +kernel
theorem dX12_init_1113 : decode cX12_init 1113 = .ok (.castore, 1) := by decide +kernel
theorem dX12_init_1114 : decode cX12_init 1114 = .ok (.dup, 1) := by decide +kernel
theorem dX12_init_1115 : decode cX12_init 1115 = .ok (.iconst 3, 1) := by decide +kernel
theorem dX12_init_1116 : decode cX12_init 1116 = .ok (.bipush 116, 2) := by decide +kernel
theorem dX12_init_1118 : decode cX12_init 1118 = .ok (.castore, 1) := by decide +kernel
theorem dX12_init_1119 : decode cX12_init 1119 = .ok (.putfield 182, 3) := by decide +kernel
theorem dX12_init_1122 : decode cX12_init 1122 = .ok (.aload_n 0, 1) := by decide +kernel
theorem dX12_init_1123 : decode cX12_init 1123 = .ok (.iconst 5, 1) := by decide +kernel
theorem dX12_init_1124 : decode cX12_init 1124 = .ok (.newarray .char, 2) := by decide +kernel
theorem dX12_init_1126 : decode cX12_init 1126 = .ok (.dup, 1) := by decide +kernel
theorem dX12_init_1127 : decode cX12_init 1127 = .ok (.iconst 0, 1) := by decide +kernel
theorem dX12_init_1128 : decode cX12_init 1128 = .ok (.bipush 108, 2) := by decide +kernel
theorem dX12_init_1130 : decode cX12_init 1130 = .ok (.castore, 1) := by decide +kernel
theorem dX12_init_1131 : decode cX12_init 1131 = .ok (.dup, 1) := by decide +kernel
theorem dX12_init_1132 : decode cX12_init 1132 = .ok (.iconst 1, 1) := by decide +kernel
theorem dX12_init_1133 : decode cX12_init 1133 = .ok (.bipush 101, 2) := by decide +kernel
theorem dX12_init_1135 : decode cX12_init 1135 = .ok (.castore, 1) := by decide +kernel
theorem dX12_init_1136 : decode cX12_init 1136 = .ok (.dup, 1) := by decide +kernel
theorem dX12_init_1137 : decode cX12_init 1137 = .ok (.iconst 2, 1) := by decide +kernel
theorem dX12_init_1138 : decode cX12_init 1138 = .ok (.bipush 97, 2) := by decide +kernel
theorem dX12_init_1140 : decode cX12_init 1140 = .ok (.castore, 1) := by decide +kernel
theorem dX12_init_1141 : decode cX12_init 1141 = .ok (.dup, 1) := by decide +kernel
theorem dX12_init_1142 : decode cX12_init 1142 = .ok (.iconst 3, 1) := by decide +kernel
theorem dX12_init_1143 : decode cX12_init 1143 = .ok (.bipush 115, 2) := by decide +kernel
theorem dX12_init_1145 : decode cX12_init 1145 = .ok (.castore, 1) := by decide +kernel
theorem dX12_init_1146 : decode cX12_init 1146 = .ok (.dup, 1) := by decide +kernel
theorem dX12_init_1147 : decode cX12_init 1147 = .ok (.iconst 4, 1) := by decide +kernel
theorem dX12_init_1148 : decode cX12_init 1148 = .ok (.bipush 116, 2) := by decide +kernel
theorem dX12_init_1150 : decode cX12_init 1150 = .ok (.castore, 1) := by decide +kernel
theorem dX12_init_1151 : decode cX12_init 1151 = .ok (.putfield 185, 3) := by decide +kernel
theorem dX12_init_1154 : decode cX12_init 1154 = .ok (.aload_n 0, 1) := by decide +kernel
theorem dX12_init_1155 : decode cX12_init 1155 = .ok (.iconst 3, 1) := by decide +kernel
theorem dX12_init_1156 : decode cX12_init 1156 = .ok (.newarray .char, 2) := by decide +kernel
theorem dX12_init_1158 : decode cX12_init 1158 = .ok (.dup, 1) := by decide +kernel
theorem dX12_init_1159 : decode cX12_init 1159 = .ok (.iconst 0, 1) := by decide +kernel
theorem dX12_init_1160 : decode cX12_init 1160 = .ok (.bipush 110, 2) := by decide +kernel
theorem dX12_init_1162 : decode cX12_init 1162 = .ok (.castore, 1) := by decide +kernel
theorem dX12_init_1163 : decode cX12_init 1163 = .ok (.dup, 1) := by decide +kernel
theorem dX12_init_1164 : decode cX12_init 1164 = .ok (.iconst 1, 1) := by decide +kernel
theorem dX12_init_1165 : decode cX12_init 1165 = .ok (.bipush 111, 2) := by decide +kernel
theorem dX12_init_1167 : decode cX12_init 1167 = .ok (.castore, 1) := by decide +kernel
theorem dX12_init_1168 : decode cX12_init 1168 = .ok (.dup, 1) := by decide +kernel
theorem dX12_init_1169 : decode cX12_init 1169 = .ok (.iconst 2, 1) := by decide +kernel
theorem dX12_init_1170 : decode cX12_init 1170 = .ok (.bipush 116, 2) := by decide +kernel
theorem dX12_init_1172 : decode cX12_init 1172 = .ok (.castore, 1) := by decide +kernel
theorem dX12_init_1173 : decode cX12_init 1173 = .ok (.putfield 188, 3) := by decide +kernel
theorem dX12_init_1176 : decode cX12_init 1176 = .ok (.aload_n 0, 1) := by decide +kernel
theorem dX12_init_1177 : decode cX12_init 1177 = .ok (.iconst 3, 1) := by decide +kernel
theorem dX12_init_1178 : decode cX12_init 1178 = .ok (.newarray .char, 2) := by decide +kernel
theorem dX12_init_1180 : decode cX12_init 1180 = .ok (.dup, 1) := by decide +kernel
theorem dX12_init_1181 : decode cX12_init 1181 = .ok (.iconst 0, 1) := by decide +kernel
theorem dX12_init_1182 : decode cX12_init 1182 = .ok (.bipush 97, 2) := by decide +kernel
theorem dX12_init_1184 : decode cX12_init 1184 = .ok (.castore, 1) := by decide +kernel
theorem dX12_init_1185 : decode cX12_init 1185 = .ok (.dup, 1) := by decide +kernel
theorem dX12_init_1186 : decode cX12_init 1186 = .ok (.iconst 1, 1) := by decide +kernel
theorem dX12_init_1187 : decode cX12_init 1187 = .ok (.bipush 110, 2) := by decide +kernel
theorem dX12_init_1189 : decode cX12_init 1189 = .ok (.castore, 1) := by decide +kernel
theorem dX12_init_1190 : decode cX12_init 1190 = .ok (.dup, 1) := by decide +kernel
theorem dX12_init_1191 : decode cX12_init 1191 = .ok (.iconst 2, 1) := by decide +kernel
theorem dX12_init_1192 : decode cX12_init 1192 = .ok (.bipush 100, 2) := by decide +kernel
theorem dX12_init_1194 : decode cX12_init 1194 = .ok (.castore, 1) := by decide +kernel
theorem dX12_init_1195 : decode cX12_init 1195 = .ok (.putfield 191, 3) := by decide +kernel
theorem dX12_init_1198 : decode cX12_init 1198 = .ok (.aload_n 0, 1) := by decide +kernel
theorem dX12_init_1199 : decode cX12_init 1199 = .ok (.iconst 2, 1) := by decide +kernel
theorem dX12_init_1200 : decode cX12_init 1200 = .ok (.newarray .char, 2) := by decide +kernel
theorem dX12_init_1202 : decode cX12_init 1202 = .ok (.dup, 1) := by decide +kernel
theorem dX12_init_1203 : decode cX12_init 1203 = .ok (.iconst 0, 1) := by decide +kernel
theorem dX12_init_1204 : decode cX12_init 1204 = .ok (.bipush 111, 2) := by decide +kernel
theorem dX12_init_1206 : decode cX12_init 1206 = .ok (.castore, 1) := by decide +kernel
theorem dX12_init_1207 : decode cX12_init 1207 = .ok (.dup, 1) := by decide +kernel
theorem dX12_init_1208 : decode cX12_init 1208 = .ok (.iconst 1, 1) := by decide +kernel
theorem dX12_init_1209 : decode cX12_init 1209 = .ok (.bipush 114, 2) := by decide +kernel
theorem dX12_init_1211 : decode cX12_init 1211 = .ok (.castore, 1) := by decide +kernel
theorem dX12_init_1212 : decode cX12_init 1212 = .ok (.putfield 194, 3) := by decide +kernel
theorem dX12_init_1215 : decode cX12_init 1215 = .ok (.aload_n 0, 1) := by decide +kernel
theorem dX12_init_1216 : decode cX12_init 1216 = .ok (.iconst 3, 1) := by decide +kernel
theorem dX12_init_1217 : decode cX12_init 1217 = .ok (.newarray .char, 2) := by decide +kernel
theorem dX12_init_1219 : decode cX12_init 1219 = .ok (.dup, 1) := by decide +kernel
theorem dX12_init_1220 : decode cX12_init 1220 = .ok (.iconst 0, 1) := by decide +kernel
theorem dX12_init_1221 : decode cX12_init 1221 = .ok (.bipush 97, 2) := by decide +kernel
theorem dX12_init_1223 : decode cX12_init 1223 = .ok (.castore, 1) := by decide +kernel
theorem dX12_init_1224 : decode cX12_init 1224 = .ok (.dup, 1) := by decide +kernel
theorem dX12_init_1225 : decode cX12_init 1225 = .ok (.iconst 1, 1) := by decide +kernel
theorem dX12_init_1226 : decode cX12_init 1226 = .ok (.bipush 108, 2) := by decide +kernel
theorem dX12_init_1228 : decode cX12_init 1228 = .ok (.castore, 1) := by decide +kernel
theorem dX12_init_1229 : decode cX12_init 1229 = .ok (.dup, 1) := by decide +kernel
theorem dX12_init_1230 : decode cX12_init 1230 = .ok (.iconst 2, 1) := by decide +kernel
theorem dX12_init_1231 : decode cX12_init 1231 = .ok (.bipush 108, 2) := by decide +kernel
theorem dX12_init_1233 : decode cX12_init 1233 = .ok (.castore, 1) := by decide +kernel
theorem dX12_init_1234 : decode cX12_init 1234 = .ok (.putfield 197, 3) := by decide +kernel
theorem dX12_init_1237 : decode cX12_init 1237 = .ok (.aload_n 0, 1) := by decide +kernel
theorem dX12_init_1238 : decode cX12_init 1238 = .ok (.iconst 3, 1) := by decide +kernel
theorem dX12_init_1239 : decode cX12_init 1239 = .ok (.newarray .char, 2) := by decide +kernel
theorem dX12_init_1241 : decode cX12_init 1241 = .ok (.dup, 1) := by decide +kernel
theorem dX12_init_1242 : decode cX12_init 1242 = .ok (.iconst 0, 1) := by decide +kernel
theorem dX12_init_1243 : decode cX12_init 1243 = .ok (.bipush 109, 2) := by decide +kernel
theorem dX12_init_1245 : decode cX12_init 1245 = .ok (.castore, 1) := by decide +kernel
theorem dX12_init_1246 : decode cX12_init 1246 = .ok (.dup, 1) := by decide +kernel
theorem dX12_init_1247 : decode cX12_init 1247 = .ok (.iconst 1, 1) := by decide +kernel
theorem dX12_init_1248 : decode cX12_init 1248 = .ok (.bipush 105, 2) := by decide +kernel
theorem dX12_init_1250 : decode cX12_init 1250 = .ok (.castore, 1) := by decide +kernel
theorem dX12_init_1251 : decode cX12_init 1251 = .ok (.dup, 1) := by decide +kernel
theorem dX12_init_1252 : decode cX12_init 1252 = .ok (.iconst 2, 1) := by decide +kernel
theorem dX12_init_1253 : decode cX12_init 1253 = .ok (.bipush 110, 2) := by decide +kernel
theorem dX12_init_1255 : decode cX12_init 1255 = .ok (.castore, 1) := by decide +kernel
theorem dX12_init_1256 : decode cX12_init 1256 = .ok (.putfield 200, 3) := by decide +kernel
theorem dX12_init_1259 : decode cX12_init 1259 = .ok (.aload_n 0, 1) := by decide +kernel
theorem dX12_init_1260 : decode cX12_init 1260 = .ok (.iconst 3, 1) := by decide +kernel
theorem dX12_init_1261 : decode cX12_init 1261 = .ok (.newarray .char, 2) := by decide +kernel
theorem dX12_init_1263 : decode cX12_init 1263 = .ok (.dup, 1) := by decide +kernel
theorem dX12_init_1264 : decode cX12_init 1264 = .ok (.iconst 0, 1) := by decide +kernel
theorem dX12_init_1265 : decode cX12_init 1265 = .ok (.bipush 109, 2) := by decide +kernel
theorem dX12_init_1267 : decode cX12_init 1267 = .ok (.castore, 1) := by decide +kernel
theorem dX12_init_1268 : decode cX12_init 1268 = .ok (.dup, 1) := by decide +kernel
theorem dX12_init_1269 : decode cX12_init 1269 = .ok (.iconst 1, 1) := by decide +kernel
theorem dX12_init_1270 : decode cX12_init 1270 = .ok (.bipush 97, 2) := by decide +kernel
theorem dX12_init_1272 : decode cX12_init 1272 = .ok (.castore, 1) := by decide +kernel
theorem dX12_init_1273 : decode cX12_init 1273 = .ok (.dup, 1) := by decide +kernel
theorem dX12_init_1274 : decode cX12_init 1274 = .ok (.iconst 2, 1) := by decide +kernel
theorem dX12_init_1275 : decode cX12_init 1275 = .ok (.bipush 120, 2) := by decide +kernel
theorem dX12_init_1277 : decode cX12_init 1277 = .ok (.castore, 1) := by decide +kernel
theorem dX12_init_1278 : decode cX12_init 1278 = .ok (.putfield 203, 3) := by decide +kernel
theorem dX12_init_1281 : decode cX12_init 1281 = .ok (.aload_n 0, 1) := by decide +kernel
theorem dX12_init_1282 : decode cX12_init 1282 = .ok (.iconst 4, 1) := by decide +kernel
theorem dX12_init_1283 : decode cX12_init 1283 = .ok (.newarray .char, 2) := by decide +kernel
theorem dX12_init_1285 : decode cX12_init 1285 = .ok (.dup, 1) := by decide +kernel
theorem dX12_init_1286 : decode cX12_init 1286 = .ok (.iconst 0, 1) := by decide +kernel
theorem dX12_init_1287 : decode cX12_init 1287 = .ok (.bipush 115, 2) := by decide +kernel
theorem dX12_init_1289 : decode cX12_init 1289 = .ok (.castore, 1) := by decide +kernel
theorem dX12_init_1290 : decode cX12_init 1290 = .ok (.dup, 1) := by decide +kernel
theorem dX12_init_1291 : decode cX12_init 1291 = .ok (.iconst 1, 1) := by decide +kernel
theorem dX12_init_1292 : decode cX12_init 1292 = .ok (.bipush 105, 2) := by decide +kernel
theorem dX12_init_1294 : decode cX12_init 1294 = .ok (.castore, 1) := by decide +kernel
theorem dX12_init_1295 : decode cX12_init 1295 = .ok (.dup, 1) := by decide +kernel
theorem dX12_init_1296 : decode cX12_init 1296 = .ok (.iconst 2, 1) := by decide +kernel
theorem dX12_init_1297 : decode cX12_init 1297 = .ok (.bipush 122, 2) := by decide +kernel
theorem dX12_init_1299 : decode cX12_init 1299 = .ok (.castore, 1) := by decide +kernel
theorem dX12_init_1300 : decode cX12_init 1300 = .ok (.dup, 1) := by decide +kernel
theorem dX12_init_1301 : decode cX12_init 1301 = .ok (.iconst 3, 1) := by decide +kernel
theorem dX12_init_1302 : decode cX12_init 1302 = .ok (.bipush 101, 2) := by decide +kernel
theorem dX12_init_1304 : decode cX12_init 1304 = .ok (.castore, 1) := by decide +kernel
theorem dX12_init_1305 : decode cX12_init 1305 = .ok (.putfield 206, 3) := by decide +kernel
theorem dX12_init_1308 : decode cX12_init 1308 = .ok (.aload_n 0, 1) := by decide +kernel
theorem dX12_init_1309 : decode cX12_init 1309 = .ok (.iconst 5, 1) := by decide +kernel
theorem dX12_init_1310 : decode cX12_init 1310 = .ok (.newarray .char, 2) := by decide +kernel
theorem dX12_init_1312 : decode cX12_init 1312 = .ok (.dup, 1) := by decide +kernel
theorem dX12_init_1313 : decode cX12_init 1313 = .ok (.iconst 0, 1) := by decide +kernel
theorem dX12_init_1314 : decode cX12_init 1314 = .ok (.bipush 115, 2) := by decide +kernel
theorem dX12_init_1316 : decode cX12_init 1316 = .ok (.castore, 1) := by decide +kernel
theorem dX12_init_1317 : decode cX12_init 1317 = .ok (.dup, 1) := by decide +kernel
theorem dX12_init_1318 : decode cX12_init 1318 = .ok (.iconst 1, 1) := by decide +kernel
theorem dX12_init_1319 : decode cX12_init 1319 = .ok (.bipush 116, 2) := by decide +kernel
theorem dX12_init_1321 : decode cX12_init 1321 = .ok (.castore, 1) := by decide +kernel
theorem dX12_init_1322 : decode cX12_init 1322 = .ok (.dup, 1) := by decide +kernel
theorem dX12_init_1323 : decode cX12_init 1323 = .ok (.iconst 2, 1) := by decide +kernel
theorem dX12_init_1324 : decode cX12_init 1324 = .ok (.bipush 111, 2) := by decide +kernel
theorem dX12_init_1326 : decode cX12_init 1326 = .ok (.castore, 1) := by decide +kernel
theorem dX12_init_1327 : decode cX12_init 1327 = .ok (.dup, 1) := by decide +kernel
theorem dX12_init_1328 : decode cX12_init 1328 = .ok (.iconst 3, 1) := by decide +kernel
theorem dX12_init_1329 : decode cX12_init 1329 = .ok (.bipush 99, 2) := by decide +kernel
theorem dX12_init_1331 : decode cX12_init 1331 = .ok (.castore, 1) := by decide +kernel
theorem dX12_init_1332 : decode cX12_init 1332 = .ok (.dup, 1) := by decide +kernel
theorem dX12_init_1333 : decode cX12_init 1333 = .ok (.iconst 4, 1) := by decide +kernel
theorem dX12_init_1334 : decode cX12_init 1334 = .ok (.bipush 107, 2) := by decide +kernel
theorem dX12_init_1336 : decode cX12_init 1336 = .ok (.castore, 1) := by decide +kernel
theorem dX12_init_1337 : decode cX12_init 1337 = .ok (.putfield 209, 3) := by decide +kernel
theorem dX12_init_1340 : decode cX12_init 1340 = .ok (.aload_n 0, 1) := by decide +kernel
theorem dX12_init_1341 : decode cX12_init 1341 = .ok (.iconst 3, 1) := by decide +kernel
theorem dX12_init_1342 : decode cX12_init 1342 = .ok (.newarray .char, 2) := by decide +kernel
theorem dX12_init_1344 : decode cX12_init 1344 = .ok (.dup, 1) := by decide +kernel
theorem dX12_init_1345 : decode cX12_init 1345 = .ok (.iconst 0, 1) := by decide +kernel
theorem dX12_init_1346 : decode cX12_init 1346 = .ok (.bipush 100, 2) := by decide +kernel
theorem dX12_init_1348 : decode cX12_init 1348 = .ok (.castore, 1) := by decide +kernel
theorem dX12_init_1349 : decode cX12_init 1349 = .ok (.dup, 1) := by decide +kernel
theorem dX12_init_1350 : decode cX12_init 1350 = .ok (.iconst 1, 1) := by decide +kernel
theorem dX12_init_1351 : decode cX12_init 1351 = .ok (.bipush 97, 2) := by decide +kernel
theorem dX12_init_1353 : decode cX12_init 1353 = .ok (.castore, 1) := by decide +kernel
theorem dX12_init_1354 : decode cX12_init 1354 = .ok (.dup, 1) := by decide +kernel
theorem dX12_init_1355 : decode cX12_init 1355 = .ok (.iconst 2, 1) := by decide +kernel
theorem dX12_init_1356 : decode cX12_init 1356 = .ok (.bipush 121, 2) := by decide +kernel
theorem dX12_init_1358 : decode cX12_init 1358 = .ok (.castore, 1) := by decide +kernel
theorem dX12_init_1359 : decode cX12_init 1359 = .ok (.putfield 212, 3) := by decide +kernel
theorem dX12_init_1362 : decode cX12_init 1362 = .ok (.aload_n 0, 1) := by decide +kernel
theorem dX12_init_1363 : decode cX12_init 1363 = .ok (.iconst 5, 1) := by decide +kernel
theorem dX12_init_1364 : decode cX12_init 1364 = .ok (.newarray .char, 2) := by decide +kernel
theorem dX12_init_1366 : decode cX12_init 1366 = .ok (.dup, 1) := by decide +kernel
theorem dX12_init_1367 : decode cX12_init 1367 = .ok (.iconst 0, 1) := by decide +kernel
theorem dX12_init_1368 : decode cX12_init 1368 = .ok (.bipush 112, 2) := by decide +kernel
theorem dX12_init_1370 : decode cX12_init 1370 = .ok (.castore, 1) := by decide +kernel
theorem dX12_init_1371 : decode cX12_init 1371 = .ok (.dup, 1) := by decide +kernel
theorem dX12_init_1372 : decode cX12_init 1372 = .ok (.iconst 1, 1) := by decide +kernel
theorem dX12_init_1373 : decode cX12_init 1373 = .ok (.bipush 108, 2) := by decide +kernel
theorem dX12_init_1375 : decode cX12_init 1375 = .ok (.castore, 1) := by decide +kernel
theorem dX12_init_1376 : decode cX12_init 1376 = .ok (.dup, 1) := by decide +kernel
theorem dX12_init_1377 : decode cX12_init 1377 = .ok (.iconst 2, 1) := by decide +kernel
theorem dX12_init_1378 : decode cX12_init 1378 = .ok (.bipush 97, 2) := by decide +kernel
theorem dX12_init_1380 : decode cX12_init 1380 = .ok (.castore, 1) := by decide +kernel
theorem dX12_init_1381 : decode cX12_init 1381 = .ok (.dup, 1) := by decide +kernel
theorem dX12_init_1382 : decode cX12_init 1382 = .ok (.iconst 3, 1) := by decide +kernel
theorem dX12_init_1383 : decode cX12_init 1383 = .ok (.bipush 99, 2) := by decide +kernel
theorem dX12_init_1385 : decode cX12_init 1385 = .ok (.castore, 1) := by decide +kernel
theorem dX12_init_1386 : decode cX12_init 1386 = .ok (.dup, 1) := by decide +kernel
theorem dX12_init_1387 : decode cX12_init 1387 = .ok (.iconst 4, 1) := by decide +kernel
theorem dX12_init_1388 : decode cX12_init 1388 = .ok (.bipush 101, 2) := by decide +kernel
theorem dX12_init_1390 : decode cX12_init 1390 = .ok (.castore, 1) := by decide +kernel
theorem dX12_init_1391 : decode cX12_init 1391 = .ok (.putfield 215, 3) := by decide +kernel
theorem dX12_init_1394 : decode cX12_init 1394 = .ok (.aload_n 0, 1) := by decide +kernel
theorem dX12_init_1395 : decode cX12_init 1395 = .ok (.bipush 6, 2) := by decide +kernel
theorem dX12_init_1397 : decode cX12_init 1397 = .ok (.newarray .char, 2) := by decide +kernel
theorem dX12_init_1399 : decode cX12_init 1399 = .ok (.dup, 1) := by decide +kernel
theorem dX12_init_1400 : decode cX12_init 1400 = .ok (.iconst 0, 1) := by decide +kernel
theorem dX12_init_1401 : decode cX12_init 1401 = .ok (.bipush 104, 2) := by decide +kernel
theorem dX12_init_1403 : decode cX12_init 1403 = .ok (.castore, 1) := by decide +kernel
theorem dX12_init_1404 : decode cX12_init 1404 = .ok (.dup, 1) := by decide +kernel
theorem dX12_init_1405 : decode cX12_init 1405 = .ok (.iconst 1, 1) := by decide +kernel
theorem dX12_init_1406 : decode cX12_init 1406 = .ok (.bipush 117, 2) := by decide +kernel
theorem dX12_init_1408 : decode cX12_init 1408 = .ok (.castore, 1) := by decide +kernel
theorem dX12_init_1409 : decode cX12_init 1409 = .ok (.dup, 1) := by decide +kernel
theorem dX12_init_1410 : decode cX12_init 1410 = .ok (.iconst 2, 1) := by decide +kernel
theorem dX12_init_1411 : decode cX12_init 1411 = .ok (.bipush 110, 2) := by decide +kernel
theorem dX12_init_1413 : decode cX12_init 1413 = .ok (.castore, 1) := by decide +kernel
theorem dX12_init_1414 : decode cX12_init 1414 = .ok (.dup, 1) := by decide +kernel
theorem dX12_init_1415 : decode cX12_init 1415 = .ok (.iconst 3, 1) := by decide +kernel
theorem dX12_init_1416 : decode cX12_init 1416 = .ok (.bipush 103, 2) := by decide +kernel
theorem dX12_init_1418 : decode cX12_init 1418 = .ok (.castore, 1) := by decide +kernel
theorem dX12_init_1419 : decode cX12_init 1419 = .ok (.dup, 1) := by decide +kernel
theorem dX12_init_1420 : decode cX12_init 1420 = .ok (.iconst 4, 1) := by decide +kernel
theorem dX12_init_1421 : decode cX12_init 1421 = .ok (.bipush 101, 2) := by decide +kernel
theorem dX12_init_1423 : decode cX12_init 1423 = .ok (.castore, 1) := by decide +kernel
theorem dX12_init_1424 : decode cX12_init 1424 = .ok (.dup, 1) := by decide +kernel
theorem dX12_init_1425 : decode cX12_init 1425 = .ok (.iconst 5, 1) := by decide +kernel
theorem dX12_init_1426 : decode cX12_init 1426 = .ok (.bipush 114, 2) := by decide +kernel
theorem dX12_init_1428 : decode cX12_init 1428 = .ok (.castore, 1) := by decide +kernel
theorem dX12_init_1429 : decode cX12_init 1429 = .ok (.putfield 218, 3) := by decide +kernel
theorem dX12_init_1432 : decode cX12_init 1432 = .ok (.aload_n 0, 1) := by decide +kernel
theorem dX12_init_1433 : decode cX12_init 1433 = .ok (.bipush 6, 2) := by decide +kernel
theorem dX12_init_1435 : decode cX12_init 1435 = .ok (.newarray .char, 2) := by decide +kernel
theorem dX12_init_1437 : decode cX12_init 1437 = .ok (.dup, 1) := by decide +kernel
theorem dX12_init_1438 : decode cX12_init 1438 = .ok (.iconst 0, 1) := by decide +kernel
theorem dX12_init_1439 : decode cX12_init 1439 = .ok (.bipush 110, 2) := by decide +kernel
theorem dX12_init_1441 : decode cX12_init 1441 = .ok (.castore, 1) := by decide +kernel
theorem dX12_init_1442 : decode cX12_init 1442 = .ok (.dup, 1) := by decide +kernel
theorem dX12_init_1443 : decode cX12_init 1443 = .ok (.iconst 1, 1) := by decide +kernel
theorem dX12_init_1444 : decode cX12_init 1444 = .ok (.bipush 117, 2) := by decide +kernel
theorem dX12_init_1446 : decode cX12_init 1446 = .ok (.castore, 1) := by decide +kernel
theorem dX12_init_1447 : decode cX12_init 1447 = .ok (.dup, 1) := by decide +kernel
theorem dX12_init_1448 : decode cX12_init 1448 = .ok (.iconst 2, 1) := by decide +kernel
theorem dX12_init_1449 : decode cX12_init 1449 = .ok (.bipush 109, 2) := by decide +kernel
theorem dX12_init_1451 : decode cX12_init 1451 = .ok (.castore, 1) := by decide +kernel
theorem dX12_init_1452 : decode cX12_init 1452 = .ok (.dup, 1) := by decide +kernel
theorem dX12_init_1453 : decode cX12_init 1453 = .ok (.iconst 3, 1) := by decide +kernel
theorem dX12_init_1454 : decode cX12_init 1454 = .ok (.bipush 98, 2) := by decide +kernel
theorem dX12_init_1456 : decode cX12_init 1456 = .ok (.castore, 1) := by decide +kernel
theorem dX12_init_1457 : decode cX12_init 1457 = .ok (.dup, 1) := by decide +kernel
theorem dX12_init_1458 : decode cX12_init 1458 = .ok (.iconst 4, 1) := by decide +kernel
theorem dX12_init_1459 : decode cX12_init 1459 = .ok (.bipush 101, 2) := by decide +kernel
theorem dX12_init_1461 : decode cX12_init 1461 = .ok (.castore, 1) := by decide +kernel
theorem dX12_init_1462 : decode cX12_init 1462 = .ok (.dup, 1) := by decide +kernel
theorem dX12_init_1463 : decode cX12_init 1463 = .ok (.iconst 5, 1) := by decide +kernel
theorem dX12_init_1464 : decode cX12_init 1464 = .ok (.bipush 114, 2) := by decide +kernel
theorem dX12_init_1466 : decode cX12_init 1466 = .ok (.castore, 1) := by decide +kernel
theorem dX12_init_1467 : decode cX12_init 1467 = .ok (.putfield 221, 3) := by decide +kernel
theorem dX12_init_1470 : decode cX12_init 1470 = .ok (.aload_n 0, 1) := by decide +kernel
theorem dX12_init_1471 : decode cX12_init 1471 = .ok (.iconst 3, 1) := by decide +kernel
theorem dX12_init_1472 : decode cX12_init 1472 = .ok (.newarray .char, 2) := by decide +kernel
theorem dX12_init_1474 : decode cX12_init 1474 = .ok (.dup, 1) := by decide +kernel
theorem dX12_init_1475 : decode cX12_init 1475 = .ok (.iconst 0, 1) := by decide +kernel
theorem dX12_init_1476 : decode cX12_init 1476 = .ok (.bipush 116, 2) := by decide +kernel
theorem dX12_init_1478 : decode cX12_init 1478 = .ok (.castore, 1) := by decide +kernel
theorem dX12_init_1479 : decode cX12_init 1479 = .ok (.dup, 1) := by decide +kernel
theorem dX12_init_1480 : decode cX12_init 1480 = .ok (.iconst 1, 1) := by decide +kernel
theorem dX12_init_1481 : decode cX12_init 1481 = .ok (.bipush 111, 2) := by decide +kernel
theorem dX12_init_1483 : decode cX12_init 1483 = .ok (.castore, 1) := by decide +kernel
theorem dX12_init_1484 : decode cX12_init 1484 = .ok (.dup, 1) := by decide +kernel
theorem dX12_init_1485 : decode cX12_init 1485 = .ok (.iconst 2, 1) := by decide +kernel
theorem dX12_init_1486 : decode cX12_init 1486 = .ok (.bipush 112, 2) := by decide +kernel
theorem dX12_init_1488 : decode cX12_init 1488 = .ok (.castore, 1) := by decide +kernel
theorem dX12_init_1489 : decode cX12_init 1489 = .ok (.putfield 224, 3) := by decide +kernel
theorem dX12_init_1492 : decode cX12_init 1492 = .ok (.aload_n 0, 1) := by decide +kernel
theorem dX12_init_1493 : decode cX12_init 1493 = .ok (.bipush 6, 2) := by decide +kernel
theorem dX12_init_1495 : decode cX12_init 1495 = .ok (.newarray .char, 2) := by decide +kernel
theorem dX12_init_1497 : decode cX12_init 1497 = .ok (.dup, 1) := by decide +kernel
theorem dX12_init_1498 : decode cX12_init 1498 = .ok (.iconst 0, 1) := by decide +kernel
theorem dX12_init_1499 : decode cX12_init 1499 = .ok (.bipush 98, 2) := by decide +kernel
theorem dX12_init_1501 : decode cX12_init 1501 = .ok (.castore, 1) := by decide +kernel
theorem dX12_init_1502 : decode cX12_init 1502 = .ok (.dup, 1) := by decide +kernel
theorem dX12_init_1503 : decode cX12_init 1503 = .ok (.iconst 1, 1) := by decide +kernel
theorem dX12_init_1504 : decode cX12_init 1504 = .ok (.bipush 111, 2) := by decide +kernel
theorem dX12_init_1506 : decode cX12_init 1506 = .ok (.castore, 1) := by decide +kernel
theorem dX12_init_1507 : decode cX12_init 1507 = .ok (.dup, 1) := by decide +kernel
theorem dX12_init_1508 : decode cX12_init 1508 = .ok (.iconst 2, 1) := by decide +kernel
theorem dX12_init_1509 : decode cX12_init 1509 = .ok (.bipush 116, 2) := by decide +kernel
theorem dX12_init_1511 : decode cX12_init 1511 = .ok (.castore, 1) := by decide +kernel
theorem dX12_init_1512 : decode cX12_init 1512 = .ok (.dup, 1) := by decide +kernel
theorem dX12_init_1513 : decode cX12_init 1513 = .ok (.iconst 3, 1) := by decide +kernel
theorem dX12_init_1514 : decode cX12_init 1514 = .ok (.bipush 116, 2) := by decide +kernel
theorem dX12_init_1516 : decode cX12_init 1516 = .ok (.castore, 1) := by decide +kernel
theorem dX12_init_1517 : decode cX12_init 1517 = .ok (.dup, 1) := by decide +kernel
theorem dX12_init_1518 : decode cX12_init 1518 = .ok (.iconst 4, 1) := by decide +kernel
theorem dX12_init_1519 : decode cX12_init 1519 = .ok (.bipush 111, 2) := by decide +kernel
theorem dX12_init_1521 : decode cX12_init 1521 = .ok (.castore, 1) := by decide +kernel
theorem dX12_init_1522 : decode cX12_init 1522 = .ok (.dup, 1) := by decide +kernel
theorem dX12_init_1523 : decode cX12_init 1523 = .ok (.iconst 5, 1) := by decide +kernel
theorem dX12_init_1524 : decode cX12_init 1524 = .ok (.bipush 109, 2) := by decide +kernel
theorem dX12_init_1526 : decode cX12_init 1526 = .ok (.castore, 1) := by decide +kernel
theorem dX12_init_1527 : decode cX12_init 1527 = .ok (.putfield 227, 3) := by decide +kernel
theorem dX12_init_1530 : decode cX12_init 1530 = .ok (.aload_n 0, 1) := by decide +kernel
theorem dX12_init_1531 : decode cX12_init 1531 = .ok (.iconst 4, 1) := by decide +kernel
theorem dX12_init_1532 : decode cX12_init 1532 = .ok (.newarray .char, 2) := by decide +kernel
theorem dX12_init_1534 : decode cX12_init 1534 = .ok (.dup, 1) := by decide +kernel
theorem dX12_init_1535 : decode cX12_init 1535 = .ok (.iconst 0, 1) := by decide +kernel
theorem dX12_init_1536 : decode cX12_init 1536 = .ok (.bipush 119, 2) := by decide +kernel
theorem dX12_init_1538 : decode cX12_init 1538 = .ok (.castore, 1) := by decide +kernel
theorem dX12_init_1539 : decode cX12_init 1539 = .ok (.dup, 1) := by decide +kernel
theorem dX12_init_1540 : decode cX12_init 1540 = .ok (.iconst 1, 1) := by decide +kernel
theorem dX12_init_1541 : decode cX12_init 1541 = .ok (.bipush 97, 2) := by decide +kernel
theorem dX12_init_1543 : decode cX12_init 1543 = .ok (.castore, 1) := by decide +kernel
theorem dX12_init_1544 : decode cX12_init 1544 = .ok (.dup, 1) := by decide +kernel
theorem dX12_init_1545 : decode cX12_init 1545 = .ok (.iconst 2, 1) := by decide +kernel
theorem dX12_init_1546 : decode cX12_init 1546 = .ok (.bipush 121, 2) := by decide +kernel
theorem dX12_init_1548 : decode cX12_init 1548 = .ok (.castore, 1) := by decide +kernel
theorem dX12_init_1549 : decode cX12_init 1549 = .ok (.dup, 1) := by decide +kernel
theorem dX12_init_1550 : decode cX12_init 1550 = .ok (.iconst 3, 1) := by decide +kernel
theorem dX12_init_1551 : decode cX12_init 1551 = .ok (.bipush 115, 2) := by decide +kernel
theorem dX12_init_1553 : decode cX12_init 1553 = .ok (.castore, 1) := by decide +kernel
theorem dX12_init_1554 : decode cX12_init 1554 = .ok (.putfield 230, 3) := by decide +kernel
theorem dX12_init_1557 : decode cX12_init 1557 = .ok (.aload_n 0, 1) := by decide +kernel
theorem dX12_init_1558 : decode cX12_init 1558 = .ok (.iconst 3, 1) := by decide +kernel
theorem dX12_init_1559 : decode cX12_init 1559 = .ok (.newarray .char, 2) := by decide +kernel
theorem dX12_init_1561 : decode cX12_init 1561 = .ok (.dup, 1) := by decide +kernel
theorem dX12_init_1562 : decode cX12_init 1562 = .ok (.iconst 0, 1) := by decide +kernel
theorem dX12_init_1563 : decode cX12_init 1563 = .ok (.bipush 104, 2) := by decide +kernel
theorem dX12_init_1565 : decode cX12_init 1565 = .ok (.castore, 1) := by decide +kernel
theorem dX12_init_1566 : decode cX12_init 1566 = .ok (.dup, 1) := by decide +kernel
theorem dX12_init_1567 : decode cX12_init 1567 = .ok (.iconst 1, 1) := by decide +kernel
theorem dX12_init_1568 : decode cX12_init 1568 = .ok (.bipush 97, 2) := by decide +kernel
theorem dX12_init_1570 : decode cX12_init 1570 = .ok (.castore, 1) := by decide +kernel
theorem dX12_init_1571 : decode cX12_init 1571 = .ok (.dup, 1) := by decide +kernel
theorem dX12_init_1572 : decode cX12_init 1572 = .ok (.iconst 2, 1) := by decide +kernel
theorem dX12_init_1573 : decode cX12_init 1573 = .ok (.bipush 100, 2) := by decide +kernel
theorem dX12_init_1575 : decode cX12_init 1575 = .ok (.castore, 1) := by decide +kernel
theorem dX12_init_1576 : decode cX12_init 1576 = .ok (.putfield 233, 3) := by decide +kernel
theorem dX12_init_1579 : decode cX12_init 1579 = .ok (.aload_n 0, 1) := by decide +kernel
theorem dX12_init_1580 : decode cX12_init 1580 = .ok (.iconst 5, 1) := by decide +kernel
theorem dX12_init_1581 : decode cX12_init 1581 = .ok (.newarray .char, 2) := by decide +kernel
theorem dX12_init_1583 : decode cX12_init 1583 = .ok (.dup, 1) := by decide +kernel
theorem dX12_init_1584 : decode cX12_init 1584 = .ok (.iconst 0, 1) := by decide +kernel
theorem dX12_init_1585 : decode cX12_init 1585 = .ok (.bipush 115, 2) := by decide +kernel
theorem dX12_init_1587 : decode cX12_init 1587 = .ok (.castore, 1) := by decide +kernel
theorem dX12_init_1588 : decode cX12_init 1588 = .ok (.dup, 1) := by decide +kernel
theorem dX12_init_1589 : decode cX12_init 1589 = .ok (.iconst 1, 1) := by decide +kernel
theorem dX12_init_1590 : decode cX12_init 1590 = .ok (.bipush 116, 2) := by decide +kernel
theorem dX12_init_1592 : decode cX12_init 1592 = .ok (.castore, 1) := by decide +kernel
theorem dX12_init_1593 : decode cX12_init 1593 = .ok (.dup, 1) := by decide +kernel
theorem dX12_init_1594 : decode cX12_init 1594 = .ok (.iconst 2, 1) := by decide +kernel
theorem dX12_init_1595 : decode cX12_init 1595 = .ok (.bipush 111, 2) := by decide +kernel
theorem dX12_init_1597 : decode cX12_init 1597 = .ok (.castore, 1) := by decide +kernel
theorem dX12_init_1598 : decode cX12_init 1598 = .ok (.dup, 1) := by decide +kernel
theorem dX12_init_1599 : decode cX12_init 1599 = .ok (.iconst 3, 1) := by decide +kernel
theorem dX12_init_1600 : decode cX12_init 1600 = .ok (.bipush 99, 2) := by decide +kernel
theorem dX12_init_1602 : decode cX12_init 1602 = .ok (.castore, 1) := by decide +kernel
theorem dX12_init_1603 : decode cX12_init 1603 = .ok (.dup, 1) := by decide +kernel
theorem dX12_init_1604 : decode cX12_init 1604 = .ok (.iconst 4, 1) := by decide +kernel
theorem dX12_init_1605 : decode cX12_init 1605 = .ok (.bipush 107, 2) := by decide +kernel
theorem dX12_init_1607 : decode cX12_init 1607 = .ok (.castore, 1) := by decide +kernel
theorem dX12_init_1608 : decode cX12_init 1608 = .ok (.putfield 236, 3) := by decide +kernel
theorem dX12_init_1611 : decode cX12_init 1611 = .ok (.aload_n 0, 1) := by decide +kernel
theorem dX12_init_1612 : decode cX12_init 1612 = .ok (.iconst 4, 1) := by decide +kernel
theorem dX12_init_1613 : decode cX12_init 1613 = .ok (.newarray .char, 2) := by decide +kernel
theorem dX12_init_1615 : decode cX12_init 1615 = .ok (.dup, 1) := by decide +kernel
theorem dX12_init_1616 : decode cX12_init 1616 = .ok (.iconst 0, 1) := by decide +kernel
theorem dX12_init_1617 : decode cX12_init 1617 = .ok (.bipush 102, 2) := by decide +kernel
theorem dX12_init_1619 : decode cX12_init 1619 = .ok (.castore, 1) := by decide +kernel
theorem dX12_init_1620 : decode cX12_init 1620 = .ok (.dup, 1) := by decide +kernel
theorem dX12_init_1621 : decode cX12_init 1621 = .ok (.iconst 1, 1) := by decide +kernel
theorem dX12_init_1622 : decode cX12_init 1622 = .ok (.bipush 105, 2) := by decide +kernel
theorem dX12_init_1624 : decode cX12_init 1624 = .ok (.castore, 1) := by decide +kernel
theorem dX12_init_1625 : decode cX12_init 1625 = .ok (.dup, 1) := by decide +kernel
theorem dX12_init_1626 : decode cX12_init 1626 = .ok (.iconst 2, 1) := by decide +kernel
theorem dX12_init_1627 : decode cX12_init 1627 = .ok (.bipush 116, 2) := by decide +kernel
theorem dX12_init_1629 : decode cX12_init 1629 = .ok (.castore, 1) := by decide +kernel
theorem dX12_init_1630 : decode cX12_init 1630 = .ok (.dup, 1) := by decide +kernel
theorem dX12_init_1631 : decode cX12_init 1631 = .ok (.iconst 3, 1) := by decide +kernel
theorem dX12_init_1632 : decode cX12_init 1632 = .ok (.bipush 115, 2) := by decide +kernel
theorem dX12_init_1634 : decode cX12_init 1634 = .ok (.castore, 1) := by decide +kernel
theorem dX12_init_1635 : decode cX12_init 1635 = .ok (.putfield 239, 3) := by decide +kernel
theorem dX12_init_1638 : decode cX12_init 1638 = .ok (.aload_n 0, 1) := by decide +kernel
theorem dX12_init_1639 : decode cX12_init 1639 = .ok (.sipush 1700, 3) := by decide +kernel
theorem dX12_init_1642 : decode cX12_init 1642 = .ok (.newarray .int, 2) := by decide +kernel
theorem dX12_init_1644 : decode cX12_init 1644 = .ok (.putfield 242, 3) := by decide +kernel
theorem dX12_init_1647 : decode cX12_init 1647 = .ok (.aload_n 0, 1) := by decide +kernel
theorem dX12_init_1648 : decode cX12_init 1648 = .ok (.sipush 1700, 3) := by decide +kernel
theorem dX12_init_1651 : decode cX12_init 1651 = .ok (.newarray .int, 2) := by decide +kernel
theorem dX12_init_1653 : decode cX12_init 1653 = .ok (.putfield 245, 3) := by decide +kernel
theorem dX12_init_1656 : decode cX12_init 1656 = .ok (.aload_n 0, 1) := by decide +kernel
theorem dX12_init_1657 : decode cX12_init 1657 = .ok (.sipush 1700, 3) := by decide +kernel
theorem dX12_init_1660 : decode cX12_init 1660 = .ok (.newarray .long, 2) := by decide +kernel
theorem dX12_init_1662 : decode cX12_init 1662 = .ok (.putfield 248, 3) := by decide +kernel
theorem dX12_init_1665 : decode cX12_init 1665 = .ok (.aload_n 0, 1) := by decide +kernel
theorem dX12_init_1666 : decode cX12_init 1666 = .ok (.bipush 69, 2) := by decide +kernel
theorem dX12_init_1668 : decode cX12_init 1668 = .ok (.newarray .int, 2) := by decide +kernel
theorem dX12_init_1670 : decode cX12_init 1670 = .ok (.putfield 251, 3) := by decide +kernel
theorem dX12_init_1673 : decode cX12_init 1673 = .ok (.return_, 1) := by decide +kernel
theorem dX1_init_0 : decode cX1_init 0 = .ok (.aload_n 0, 1) := by decide +kernel
theorem dX1_init_1 : decode cX1_init 1 = .ok (.invokespecial 3, 3) := by decide +kernel
theorem dX1_init_4 : decode cX1_init 4 = .ok (.aload_n 0, 1) := by decide +kernel
theorem dX1_init_5 : decode cX1_init 5 = .ok (.bipush 25, 2) := by decide +kernel
theorem dX1_init_7 : decode cX1_init 7 = .ok (.newarray .long, 2) := by decide +kernel
theorem dX1_init_9 : decode cX1_init 9 = .ok (.putfield 9, 3) := by decide +kernel
theorem dX1_init_12 : decode cX1_init 12 = .ok (.aload_n 0, 1) := by decide +kernel
theorem dX1_init_13 : decode cX1_init 13 = .ok (.bipush 32, 2) := by decide +kernel
theorem dX1_init_15 : decode cX1_init 15 = .ok (.newarray .int, 2) := by decide +kernel
theorem dX1_init_17 : decode cX1_init 17 = .ok (.putfield 15, 3) := by decide +kernel
theorem dX1_init_20 : decode cX1_init 20 = .ok (.aload_n 0, 1) := by decide +kernel
theorem dX1_init_21 : decode cX1_init 21 = .ok (.iconst 0, 1) := by decide +kernel
theorem dX1_init_22 : decode cX1_init 22 = .ok (.putfield 19, 3) := by decide +kernel
theorem dX1_init_25 : decode cX1_init 25 = .ok (.aload_n 0, 1) := by decide +kernel
theorem dX1_init_26 : decode cX1_init 26 = .ok (.iconst (-1), 1) := by decide +kernel
theorem dX1_init_27 : decode cX1_init 27 = .ok (.putfield 23, 3) := by decide +kernel
theorem dX1_init_30 : decode cX1_init 30 = .ok (.aload_n 0, 1) := by decide +kernel
theorem dX1_init_31 : decode cX1_init 31 = .ok (.iconst (-1), 1) := by decide +kernel
theorem dX1_init_32 : decode cX1_init 32 = .ok (.putfield 26, 3) := by decide +kernel
theorem dX1_init_35 : decode cX1_init 35 = .ok (.aload_n 0, 1) := by decide +kernel
theorem dX1_init_36 : decode cX1_init 36 = .ok (.lconst 0, 1) := by decide +kernel
theorem dX1_init_37 : decode cX1_init 37 = .ok (.putfield 29, 3) := by decide +kernel
theorem dX1_init_40 : decode cX1_init 40 = .ok (.aload_n 0, 1) := by decide +kernel
theorem dX1_init_41 : decode cX1_init 41 = .ok (.aload_n 1, 1) := by decide +kernel
theorem dX1_init_42 : decode cX1_init 42 = .ok (.putfield 33, 3) := by decide +kernel
theorem dX1_init_45 : decode cX1_init 45 = .ok (.iconst 1, 1) := by decide +kernel
theorem dX1_init_46 : decode cX1_init 46 = .ok (.istore_n 2, 1) := by decide +kernel
theorem dX1_init_47 : decode cX1_init 47 = .ok (.iload_n 2, 1) := by decide +kernel
theorem dX1_init_48 : decode cX1_init 48 = .ok (.bipush 24, 2) := by decide +kernel
theorem dX1_init_50 : decode cX1_init 50 = .ok (.if_icmp .gt 21, 3) := by decide +kernel
theorem dX1_init_53 : decode cX1_init 53 = .ok (.aload_n 0, 1) := by decide +kernel
theorem dX1_init_54 : decode cX1_init 54 = .ok (.getfield 9, 3) := by decide +kernel
theorem dX1_init_57 : decode cX1_init 57 = .ok (.iload_n 2, 1) := by decide +kernel
theorem dX1_init_58 : decode cX1_init 58 = .ok (.ldc2_w 37, 3) := by decide +kernel
theorem dX1_init_61 : decode cX1_init 61 = .ok (.iload_n 2, 1) := by decide +kernel
theorem dX1_init_62 : decode cX1_init 62 = .ok (.i2l, 1) := by decide +kernel
theorem dX1_init_63 : decode cX1_init 63 = .ok (.ldiv, 1) := by decide +kernel
theorem dX1_init_64 : decode cX1_init 64 = .ok (.lastore, 1) := by decide +kernel
theorem dX1_init_65 : decode cX1_init 65 = .ok (.iinc 2 1, 3) := by decide +kernel
theorem dX1_init_68 : decode cX1_init 68 = .ok (.goto (-21), 3) := by decide +kernel
theorem dX1_init_71 : decode cX1_init 71 = .ok (.return_, 1) := by decide +kernel
theorem dX2_init_0 : decode cX2_init 0 = .ok (.aload_n 0, 1) := by decide +kernel
theorem dX2_init_1 : decode cX2_init 1 = .ok (.invokespecial 5, 3) := by decide +kernel
theorem dX2_init_4 : decode cX2_init 4 = .ok (.aload_n 0, 1) := by decide +kernel
theorem dX2_init_5 : decode cX2_init 5 = .ok (.sipush 1600, 3) := by decide +kernel
theorem dX2_init_8 : decode cX2_init 8 = .ok (.newarray .int, 2) := by decide +kernel
theorem dX2_init_10 : decode cX2_init 10 = .ok (.putfield 11, 3) := by decide +kernel
theorem dX2_init_13 : decode cX2_init 13 = .ok (.aload_n 0, 1) := by decide +kernel
theorem dX2_init_14 : decode cX2_init 14 = .ok (.bipush 64, 2) := by decide +kernel
theorem dX2_init_16 : decode cX2_init 16 = .ok (.newarray .int, 2) := by decide +kernel
theorem dX2_init_18 : decode cX2_init 18 = .ok (.putfield 15, 3) := by decide +kernel
theorem dX2_init_21 : decode cX2_init 21 = .ok (.aload_n 0, 1) := by decide +kernel
theorem dX2_init_22 : decode cX2_init 22 = .ok (.iconst 0, 1) := by decide +kernel
theorem dX2_init_23 : decode cX2_init 23 = .ok (.putfield 18, 3) := by decide +kernel
theorem dX2_init_26 : decode cX2_init 26 = .ok (.return_, 1) := by decide +kernel
theorem dX3_init_0 : decode cX3_init 0 = .ok (.aload_n 0, 1) := by decide +kernel
theorem dX3_init_1 : decode cX3_init 1 = .ok (.invokespecial 1, 3) := by decide +kernel
theorem dX3_init_4 : decode cX3_init 4 = .ok (.aload_n 0, 1) := by decide +kernel
theorem dX3_init_5 : decode cX3_init 5 = .ok (.bipush 20, 2) := by decide +kernel
theorem dX3_init_7 : decode cX3_init 7 = .ok (.anewarray 9, 3) := by decide +kernel
theorem dX3_init_10 : decode cX3_init 10 = .ok (.putfield 11, 3) := by decide +kernel
theorem dX3_init_13 : decode cX3_init 13 = .ok (.aload_n 0, 1) := by decide +kernel
theorem dX3_init_14 : decode cX3_init 14 = .ok (.iconst 0, 1) := by decide +kernel
theorem dX3_init_15 : decode cX3_init 15 = .ok (.putfield 15, 3) := by decide +kernel
theorem dX3_init_18 : decode cX3_init 18 = .ok (.aload_n 0, 1) := by decide +kernel
theorem dX3_init_19 : decode cX3_init 19 = .ok (.iconst 0, 1) := by decide +kernel
theorem dX3_init_20 : decode cX3_init 20 = .ok (.putfield 19, 3) := by decide +kernel
theorem dX3_init_23 : decode cX3_init 23 = .ok (.iconst 0, 1) := by decide +kernel
theorem dX3_init_24 : decode cX3_init 24 = .ok (.istore_n 1, 1) := by decide +kernel
theorem dX3_init_25 : decode cX3_init 25 = .ok (.iload_n 1, 1) := by decide +kernel
theorem dX3_init_26 : decode cX3_init 26 = .ok (.bipush 20, 2) := by decide +kernel
theorem dX3_init_28 : decode cX3_init 28 = .ok (.if_icmp .ge 22, 3) := by decide +kernel
theorem dX3_init_31 : decode cX3_init 31 = .ok (.aload_n 0, 1) := by decide +kernel
theorem dX3_init_32 : decode cX3_init 32 = .ok (.getfield 11, 3) := by decide +kernel
theorem dX3_init_35 : decode cX3_init 35 = .ok (.iload_n 1, 1) := by decide +kernel
theorem dX3_init_36 : decode cX3_init 36 = .ok (.new 9, 3) := by decide +kernel
theorem dX3_init_39 : decode cX3_init 39 = .ok (.dup, 1) := by decide +kernel
theorem dX3_init_40 : decode cX3_init 40 = .ok (.invokespecial 22, 3) := by decide +kernel
theorem dX3_init_43 : decode cX3_init 43 = .ok (.aastore, 1) := by decide +kernel
theorem dX3_init_44 : decode cX3_init 44 = .ok (.iinc 1 1, 3) := by decide +kernel
theorem dX3_init_47 : decode cX3_init 47 = .ok (.goto (-22), 3) := by decide +kernel
theorem dX3_init_50 : decode cX3_init 50 = .ok (.return_, 1) := by decide +kernel
theorem dX4_init_0 : decode cX4_init 0 = .ok (.aload_n 0, 1) := by decide +kernel
theorem dX4_init_1 : decode cX4_init 1 = .ok (.invokespecial 3, 3) := by decide +kernel
theorem dX4_init_4 : decode cX4_init 4 = .ok (.aload_n 0, 1) := by decide +kernel
theorem dX4_init_5 : decode cX4_init 5 = .ok (.new 9, 3) := by decide +kernel
theorem dX4_init_8 : decode cX4_init 8 = .ok (.dup, 1) := by decide +kernel
theorem dX4_init_9 : decode cX4_init 9 = .ok (.invokespecial 11, 3) := by decide +kernel
theorem dX4_init_12 : decode cX4_init 12 = .ok (.putfield 12, 3) := by decide +kernel
theorem dX4_init_15 : decode cX4_init 15 = .ok (.aload_n 0, 1) := by decide +kernel
theorem dX4_init_16 : decode cX4_init 16 = .ok (.aload_n 1, 1) := by decide +kernel
theorem dX4_init_17 : decode cX4_init 17 = .ok (.putfield 18, 3) := by decide +kernel
theorem dX4_init_20 : decode cX4_init 20 = .ok (.aload_n 0, 1) := by decide +kernel
theorem dX4_init_21 : decode cX4_init 21 = .ok (.aload_n 2, 1) := by decide +kernel
theorem dX4_init_22 : decode cX4_init 22 = .ok (.putfield 22, 3) := by decide +kernel
theorem dX4_init_25 : decode cX4_init 25 = .ok (.return_, 1) := by decide +kernel
theorem dX5_init_0 : decode cX5_init 0 = .ok (.aload_n 0, 1) := by decide +kernel
theorem dX5_init_1 : decode cX5_init 1 = .ok (.invokespecial 3, 3) := by decide +kernel
theorem dX5_init_4 : decode cX5_init 4 = .ok (.aload_n 0, 1) := by decide +kernel
theorem dX5_init_5 : decode cX5_init 5 = .ok (.new 9, 3) := by decide +kernel
theorem dX5_init_8 : decode cX5_init 8 = .ok (.dup, 1) := by decide +kernel
theorem dX5_init_9 : decode cX5_init 9 = .ok (.invokespecial 11, 3) := by decide +kernel
theorem dX5_init_12 : decode cX5_init 12 = .ok (.putfield 12, 3) := by decide +kernel
theorem dX5_init_15 : decode cX5_init 15 = .ok (.aload_n 0, 1) := by decide +kernel
theorem dX5_init_16 : decode cX5_init 16 = .ok (.iconst 3, 1) := by decide +kernel
theorem dX5_init_17 : decode cX5_init 17 = .ok (.newarray .int, 2) := by decide +kernel
theorem dX5_init_19 : decode cX5_init 19 = .ok (.putfield 18, 3) := by decide +kernel
theorem dX5_init_22 : decode cX5_init 22 = .ok (.aload_n 0, 1) := by decide +kernel
theorem dX5_init_23 : decode cX5_init 23 = .ok (.bipush 6, 2) := by decide +kernel
theorem dX5_init_25 : decode cX5_init 25 = .ok (.newarray .int, 2) := by decide +kernel
theorem dX5_init_27 : decode cX5_init 27 = .ok (.putfield 22, 3) := by decide +kernel
theorem dX5_init_30 : decode cX5_init 30 = .ok (.aload_n 0, 1) := by decide +kernel
theorem dX5_init_31 : decode cX5_init 31 = .ok (.bipush 48, 2) := by decide +kernel
theorem dX5_init_33 : decode cX5_init 33 = .ok (.newarray .int, 2) := by decide +kernel
theorem dX5_init_35 : decode cX5_init 35 = .ok (.putfield 25, 3) := by decide +kernel
theorem dX5_init_38 : decode cX5_init 38 = .ok (.aload_n 0, 1) := by decide +kernel
theorem dX5_init_39 : decode cX5_init 39 = .ok (.iconst 0, 1) := by decide +kernel
theorem dX5_init_40 : decode cX5_init 40 = .ok (.putfield 28, 3) := by decide +kernel
theorem dX5_init_43 : decode cX5_init 43 = .ok (.aload_n 0, 1) := by decide +kernel
theorem dX5_init_44 : decode cX5_init 44 = .ok (.sipush 961, 3) := by decide +kernel
theorem dX5_init_47 : decode cX5_init 47 = .ok (.newarray .int, 2) := by decide +kernel
theorem dX5_init_49 : decode cX5_init 49 = .ok (.putfield 32, 3) := by decide +kernel
theorem dX5_init_52 : decode cX5_init 52 = .ok (.aload_n 0, 1) := by decide +kernel
theorem dX5_init_53 : decode cX5_init 53 = .ok (.iconst (-1), 1) := by decide +kernel
theorem dX5_init_54 : decode cX5_init 54 = .ok (.putfield 35, 3) := by decide +kernel
theorem dX5_init_57 : decode cX5_init 57 = .ok (.aload_n 0, 1) := by decide +kernel
theorem dX5_init_58 : decode cX5_init 58 = .ok (.iconst (-1), 1) := by decide +kernel
theorem dX5_init_59 : decode cX5_init 59 = .ok (.putfield 38, 3) := by decide +kernel
theorem dX5_init_62 : decode cX5_init 62 = .ok (.aload_n 0, 1) := by decide +kernel
theorem dX5_init_63 : decode cX5_init 63 = .ok (.iconst (-1), 1) := by decide +kernel
theorem dX5_init_64 : decode cX5_init 64 = .ok (.putfield 41, 3) := by decide +kernel
theorem dX5_init_67 : decode cX5_init 67 = .ok (.aload_n 0, 1) := by decide +kernel
theorem dX5_init_68 : decode cX5_init 68 = .ok (.aload_n 1, 1) := by decide +kernel
theorem dX5_init_69 : decode cX5_init 69 = .ok (.putfield 44, 3) := by decide +kernel
theorem dX5_init_72 : decode cX5_init 72 = .ok (.aload_n 0, 1) := by decide +kernel
theorem dX5_init_73 : decode cX5_init 73 = .ok (.aload_n 2, 1) := by decide +kernel
theorem dX5_init_74 : decode cX5_init 74 = .ok (.putfield 48, 3) := by decide +kernel
theorem dX5_init_77 : decode cX5_init 77 = .ok (.aload_n 0, 1) := by decide +kernel
theorem dX5_init_78 : decode cX5_init 78 = .ok (.aload_n 3, 1) := by decide +kernel
theorem dX5_init_79 : decode cX5_init 79 = .ok (.putfield 52, 3) := by decide +kernel
theorem dX5_init_82 : decode cX5_init 82 = .ok (.return_, 1) := by decide +kernel
theorem dX6_init_0 : decode cX6_init 0 = .ok (.aload_n 0, 1) := by decide +kernel
theorem dX6_init_1 : decode cX6_init 1 = .ok (.invokespecial 3, 3) := by decide +kernel
theorem dX6_init_4 : decode cX6_init 4 = .ok (.aload_n 0, 1) := by decide +kernel
theorem dX6_init_5 : decode cX6_init 5 = .ok (.aconst_null, 1) := by decide +kernel
theorem dX6_init_6 : decode cX6_init 6 = .ok (.putfield 9, 3) := by decide +kernel
theorem dX6_init_9 : decode cX6_init 9 = .ok (.aload_n 0, 1) := by decide +kernel
theorem dX6_init_10 : decode cX6_init 10 = .ok (.iconst 0, 1) := by decide +kernel
theorem dX6_init_11 : decode cX6_init 11 = .ok (.putfield 15, 3) := by decide +kernel
theorem dX6_init_14 : decode cX6_init 14 = .ok (.aload_n 0, 1) := by decide +kernel
theorem dX6_init_15 : decode cX6_init 15 = .ok (.aload_n 1, 1) := by decide +kernel
theorem dX6_init_16 : decode cX6_init 16 = .ok (.putfield 19, 3) := by decide +kernel
theorem dX6_init_19 : decode cX6_init 19 = .ok (.return_, 1) := by decide +kernel
theorem dX7_init_0 : decode cX7_init 0 = .ok (.aload_n 0, 1) := by decide +kernel
theorem dX7_init_1 : decode cX7_init 1 = .ok (.invokespecial 3, 3) := by decide +kernel
theorem dX7_init_4 : decode cX7_init 4 = .ok (.aload_n 0, 1) := by decide +kernel
theorem dX7_init_5 : decode cX7_init 5 = .ok (.iconst 0, 1) := by decide +kernel
theorem dX7_init_6 : decode cX7_init 6 = .ok (.putfield 9, 3) := by decide +kernel
theorem dX7_init_9 : decode cX7_init 9 = .ok (.aload_n 0, 1) := by decide +kernel
theorem dX7_init_10 : decode cX7_init 10 = .ok (.iconst 4, 1) := by decide +kernel
theorem dX7_init_11 : decode cX7_init 11 = .ok (.putfield 15, 3) := by decide +kernel
theorem dX7_init_14 : decode cX7_init 14 = .ok (.aload_n 0, 1) := by decide +kernel
theorem dX7_init_15 : decode cX7_init 15 = .ok (.iconst 0, 1) := by decide +kernel
theorem dX7_init_16 : decode cX7_init 16 = .ok (.putfield 18, 3) := by decide +kernel
theorem dX7_init_19 : decode cX7_init 19 = .ok (.aload_n 0, 1) := by decide +kernel
theorem dX7_init_20 : decode cX7_init 20 = .ok (.iconst 0, 1) := by decide +kernel
theorem dX7_init_21 : decode cX7_init 21 = .ok (.putfield 21, 3) := by decide +kernel
theorem dX7_init_24 : decode cX7_init 24 = .ok (.aload_n 0, 1) := by decide +kernel
theorem dX7_init_25 : decode cX7_init 25 = .ok (.iconst 0, 1) := by decide +kernel
theorem dX7_init_26 : decode cX7_init 26 = .ok (.putfield 24, 3) := by decide +kernel
theorem dX7_init_29 : decode cX7_init 29 = .ok (.aload_n 0, 1) := by decide +kernel
theorem dX7_init_30 : decode cX7_init 30 = .ok (.iconst 0, 1) := by decide +kernel
theorem dX7_init_31 : decode cX7_init 31 = .ok (.putfield 27, 3) := by decide +kernel
theorem dX7_init_34 : decode cX7_init 34 = .ok (.aload_n 0, 1) := by decide +kernel
theorem dX7_init_35 : decode cX7_init 35 = .ok (.iconst 0, 1) := by decide +kernel
theorem dX7_init_36 : decode cX7_init 36 = .ok (.putfield 31, 3) := by decide +kernel
theorem dX7_init_39 : decode cX7_init 39 = .ok (.aload_n 0, 1) := by decide +kernel
theorem dX7_init_40 : decode cX7_init 40 = .ok (.bipush 6, 2) := by decide +kernel
theorem dX7_init_42 : decode cX7_init 42 = .ok (.newarray .int, 2) := by decide +kernel
theorem dX7_init_44 : decode cX7_init 44 = .ok (.putfield 34, 3) := by decide +kernel
theorem dX7_init_47 : decode cX7_init 47 = .ok (.aload_n 0, 1) := by decide +kernel
theorem dX7_init_48 : decode cX7_init 48 = .ok (.bipush 6, 2) := by decide +kernel
theorem dX7_init_50 : decode cX7_init 50 = .ok (.newarray .int, 2) := by decide +kernel
theorem dX7_init_52 : decode cX7_init 52 = .ok (.putfield 38, 3) := by decide +kernel
theorem dX7_init_55 : decode cX7_init 55 = .ok (.aload_n 0, 1) := by decide +kernel
theorem dX7_init_56 : decode cX7_init 56 = .ok (.bipush 6, 2) := by decide +kernel
theorem dX7_init_58 : decode cX7_init 58 = .ok (.newarray .int, 2) := by decide +kernel
theorem dX7_init_60 : decode cX7_init 60 = .ok (.putfield 41, 3) := by decide +kernel
theorem dX7_init_63 : decode cX7_init 63 = .ok (.aload_n 0, 1) := by decide +kernel
theorem dX7_init_64 : decode cX7_init 64 = .ok (.bipush 25, 2) := by decide +kernel
theorem dX7_init_66 : decode cX7_init 66 = .ok (.newarray .int, 2) := by decide +kernel
theorem dX7_init_68 : decode cX7_init 68 = .ok (.putfield 44, 3) := by decide +kernel
theorem dX7_init_71 : decode cX7_init 71 = .ok (.aload_n 0, 1) := by decide +kernel
theorem dX7_init_72 : decode cX7_init 72 = .ok (.new 47, 3) := by decide +kernel
theorem dX7_init_75 : decode cX7_init 75 = .ok (.dup, 1) := by decide +kernel
theorem dX7_init_76 : decode cX7_init 76 = .ok (.invokespecial 49, 3) := by decide +kernel
theorem dX7_init_79 : decode cX7_init 79 = .ok (.putfield 50, 3) := by decide +kernel
theorem dX7_init_82 : decode cX7_init 82 = .ok (.aload_n 0, 1) := by decide +kernel
theorem dX7_init_83 : decode cX7_init 83 = .ok (.new 47, 3) := by decide +kernel
theorem dX7_init_86 : decode cX7_init 86 = .ok (.dup, 1) := by decide +kernel
theorem dX7_init_87 : decode cX7_init 87 = .ok (.invokespecial 49, 3) := by decide +kernel
theorem dX7_init_90 : decode cX7_init 90 = .ok (.putfield 54, 3) := by decide +kernel
theorem dX7_init_93 : decode cX7_init 93 = .ok (.aload_n 0, 1) := by decide +kernel
theorem dX7_init_94 : decode cX7_init 94 = .ok (.sipush 192, 3) := by decide +kernel
theorem dX7_init_97 : decode cX7_init 97 = .ok (.newarray .int, 2) := by decide +kernel
theorem dX7_init_99 : decode cX7_init 99 = .ok (.putfield 57, 3) := by decide +kernel
theorem dX7_init_102 : decode cX7_init 102 = .ok (.aload_n 0, 1) := by decide +kernel
theorem dX7_init_103 : decode cX7_init 103 = .ok (.bipush 6, 2) := by decide +kernel
theorem dX7_init_105 : decode cX7_init 105 = .ok (.newarray .int, 2) := by decide +kernel
theorem dX7_init_107 : decode cX7_init 107 = .ok (.putfield 60, 3) := by decide +kernel
theorem dX7_init_110 : decode cX7_init 110 = .ok (.aload_n 0, 1) := by decide +kernel
theorem dX7_init_111 : decode cX7_init 111 = .ok (.bipush 6, 2) := by decide +kernel
theorem dX7_init_113 : decode cX7_init 113 = .ok (.newarray .int, 2) := by decide +kernel
theorem dX7_init_115 : decode cX7_init 115 = .ok (.putfield 63, 3) := by decide +kernel
theorem dX7_init_118 : decode cX7_init 118 = .ok (.return_, 1) := by decide +kernel
theorem dX8_init_0 : decode cX8_init 0 = .ok (.aload_n 0, 1) := by decide +kernel
theorem dX8_init_1 : decode cX8_init 1 = .ok (.invokespecial 3, 3) := by decide +kernel
theorem dX8_init_4 : decode cX8_init 4 = .ok (.aload_n 0, 1) := by decide +kernel
theorem dX8_init_5 : decode cX8_init 5 = .ok (.iconst 0, 1) := by decide +kernel
theorem dX8_init_6 : decode cX8_init 6 = .ok (.putfield 11, 3) := by decide +kernel
theorem dX8_init_9 : decode cX8_init 9 = .ok (.aload_n 0, 1) := by decide +kernel
theorem dX8_init_10 : decode cX8_init 10 = .ok (.iconst 0, 1) := by decide +kernel
theorem dX8_init_11 : decode cX8_init 11 = .ok (.putfield 15, 3) := by decide +kernel
theorem dX8_init_14 : decode cX8_init 14 = .ok (.aload_n 0, 1) := by decide +kernel
theorem dX8_init_15 : decode cX8_init 15 = .ok (.iconst 0, 1) := by decide +kernel
theorem dX8_init_16 : decode cX8_init 16 = .ok (.putfield 18, 3) := by decide +kernel
theorem dX8_init_19 : decode cX8_init 19 = .ok (.aload_n 0, 1) := by decide +kernel
theorem dX8_init_20 : decode cX8_init 20 = .ok (.iconst 0, 1) := by decide +kernel
theorem dX8_init_21 : decode cX8_init 21 = .ok (.putfield 21, 3) := by decide +kernel
theorem dX8_init_24 : decode cX8_init 24 = .ok (.aload_n 0, 1) := by decide +kernel
theorem dX8_init_25 : decode cX8_init 25 = .ok (.iconst (-1), 1) := by decide +kernel
theorem dX8_init_26 : decode cX8_init 26 = .ok (.putfield 24, 3) := by decide +kernel
theorem dX8_init_29 : decode cX8_init 29 = .ok (.aload_n 0, 1) := by decide +kernel
theorem dX8_init_30 : decode cX8_init 30 = .ok (.aload_n 1, 1) := by decide +kernel
theorem dX8_init_31 : decode cX8_init 31 = .ok (.putfield 27, 3) := by decide +kernel
theorem dX8_init_34 : decode cX8_init 34 = .ok (.return_, 1) := by decide +kernel
theorem dX9_init_0 : decode cX9_init 0 = .ok (.aload_n 0, 1) := by decide +kernel
theorem dX9_init_1 : decode cX9_init 1 = .ok (.invokespecial 3, 3) := by decide +kernel
theorem dX9_init_4 : decode cX9_init 4 = .ok (.aload_n 0, 1) := by decide +kernel
theorem dX9_init_5 : decode cX9_init 5 = .ok (.iconst 0, 1) := by decide +kernel
theorem dX9_init_6 : decode cX9_init 6 = .ok (.putfield 9, 3) := by decide +kernel
theorem dX9_init_9 : decode cX9_init 9 = .ok (.aload_n 0, 1) := by decide +kernel
theorem dX9_init_10 : decode cX9_init 10 = .ok (.bipush 25, 2) := by decide +kernel
theorem dX9_init_12 : decode cX9_init 12 = .ok (.newarray .int, 2) := by decide +kernel
theorem dX9_init_14 : decode cX9_init 14 = .ok (.putfield 15, 3) := by decide +kernel
theorem dX9_init_17 : decode cX9_init 17 = .ok (.aload_n 0, 1) := by decide +kernel
theorem dX9_init_18 : decode cX9_init 18 = .ok (.bipush 6, 2) := by decide +kernel
theorem dX9_init_20 : decode cX9_init 20 = .ok (.newarray .int, 2) := by decide +kernel
theorem dX9_init_22 : decode cX9_init 22 = .ok (.putfield 19, 3) := by decide +kernel
theorem dX9_init_25 : decode cX9_init 25 = .ok (.aload_n 0, 1) := by decide +kernel
theorem dX9_init_26 : decode cX9_init 26 = .ok (.bipush 6, 2) := by decide +kernel
theorem dX9_init_28 : decode cX9_init 28 = .ok (.newarray .int, 2) := by decide +kernel
theorem dX9_init_30 : decode cX9_init 30 = .ok (.putfield 22, 3) := by decide +kernel
theorem dX9_init_33 : decode cX9_init 33 = .ok (.aload_n 0, 1) := by decide +kernel
theorem dX9_init_34 : decode cX9_init 34 = .ok (.bipush 120, 2) := by decide +kernel
theorem dX9_init_36 : decode cX9_init 36 = .ok (.newarray .int, 2) := by decide +kernel
theorem dX9_init_38 : decode cX9_init 38 = .ok (.putfield 25, 3) := by decide +kernel
theorem dX9_init_41 : decode cX9_init 41 = .ok (.aload_n 0, 1) := by decide +kernel
theorem dX9_init_42 : decode cX9_init 42 = .ok (.iconst 0, 1) := by decide +kernel
theorem dX9_init_43 : decode cX9_init 43 = .ok (.putfield 28, 3) := by decide +kernel
theorem dX9_init_46 : decode cX9_init 46 = .ok (.aload_n 0, 1) := by decide +kernel
theorem dX9_init_47 : decode cX9_init 47 = .ok (.iconst 0, 1) := by decide +kernel
theorem dX9_init_48 : decode cX9_init 48 = .ok (.putfield 31, 3) := by decide +kernel
theorem dX9_init_51 : decode cX9_init 51 = .ok (.return_, 1) := by decide +kernel
theorem ok_0 : ∀ j, j < mN 0 → okind (mTy 0 j) = true := by decide +kernel
theorem ok_1 : ∀ j, j < mN 1 → okind (mTy 1 j) = true := by decide +kernel
theorem ok_2 : ∀ j, j < mN 2 → okind (mTy 2 j) = true := by decide +kernel
theorem ok_3 : ∀ j, j < mN 3 → okind (mTy 3 j) = true := by decide +kernel
theorem ok_4 : ∀ j, j < mN 4 → okind (mTy 4 j) = true := by decide +kernel
theorem ok_5 : ∀ j, j < mN 5 → okind (mTy 5 j) = true := by decide +kernel
theorem ok_6 : ∀ j, j < mN 6 → okind (mTy 6 j) = true := by decide +kernel
theorem ok_7 : ∀ j, j < mN 7 → okind (mTy 7 j) = true := by decide +kernel
theorem ok_8 : ∀ j, j < mN 8 → okind (mTy 8 j) = true := by decide +kernel
theorem ok_9 : ∀ j, j < mN 9 → okind (mTy 9 j) = true := by decide +kernel
theorem ok_10 : ∀ j, j < mN 10 → okind (mTy 10 j) = true := by decide +kernel
theorem ok_11 : ∀ j, j < mN 11 → okind (mTy 11 j) = true := by decide +kernel
theorem ok_12 : ∀ j, j < mN 12 → okind (mTy 12 j) = true := by decide +kernel
theorem n_setP (S : mS) (a j : Nat) (v : Option Nat) : (setP S a j v).1 = S.1 := rfl
theorem n_setI (S : mS) (a j : Nat) (v : Int32) : (setI S a j v).1 = S.1 := rfl
theorem n_setJ (S : mS) (a j : Nat) (v : Int64) : (setJ S a j v).1 = S.1 := rfl
theorem n_addC {S : mS} {n w m : Nat} {h : Nat × Nat} (e : S.1 = (n, w)) : (addC S h m).1 = (n + 1, w + m) := by
  show (S.1.1 + 1, S.1.2 + m) = _
  rw [e]
theorem mRet_name {κ : mX} {nm : String} {ret : Option FieldType} {Q : mQ} (h : mRet κ nm ret Q) : (mMeth κ).name = nm := by
  obtain ⟨⟨p, l, e, R, s⟩, ⟨m, args, below, meth, c⟩, ⟨D, dA, sz, ext, adV⟩, ⟨n0, w0, mc, ms⟩, Qm⟩ := κ
  exact h.2.2.1
theorem le1 {κ : mX} {a b n : Nat} (hl : mLim κ = (a, b)) (h : n ≤ a) : n ≤ (mLim κ).1 := by rw [hl]; exact h
theorem le2 {κ : mX} {a b n : Nat} (hl : mLim κ = (a, b)) (h : n ≤ b) : n ≤ (mLim κ).2 := by rw [hl]; exact h
theorem cr1 {κ : mX} {a b : Nat} {S : mS} (h : S.1 = (a, b)) (hl : mLim κ = (a, b)) : sN S = (mLim κ).1 := by rw [hl]; exact congrArg Prod.fst h
theorem cr2 {κ : mX} {a b : Nat} {S : mS} (h : S.1 = (a, b)) (hl : mLim κ = (a, b)) : sW S = (mLim κ).2 := by rw [hl]; exact congrArg Prod.snd h
theorem ctl {S : mS} {n w mc ms : Nat} {L : Nat × Nat} (h : S.1 = (n, w)) (e : (n + mc, w + ms) = L) : (sN S + mc, sW S + ms) = L := by
  have a1 : sN S = n := congrArg Prod.fst h
  have a2 : sW S = w := congrArg Prod.snd h
  rw [a1, a2]; exact e
def lfS (ps : mL) (k : List Value) (T : mS) : mK := fun ls st S => lsub ps ls ∧ st = k ∧ S = T
theorem m_lfS {κ : mX} {pc : Nat} {ps : mL} {k : List Value} {T : mS} {K' : mK} (h : mAt κ pc K') (i : K' ps k T) : mAt κ pc (lfS ps k T) := by
  obtain ⟨⟨p, l, e, R, s⟩, ⟨m, args, below, meth, cc⟩, ⟨D, dA, sz, ext, adV⟩, ⟨n0, w0, mc, ms⟩, Q⟩ := κ
  intro ls st S hK H locs M hR hS hL hM hn
  obtain ⟨h1, rfl, rfl⟩ := hK
  exact h _ _ _ i H locs M hR hS (lsub_lR h1 hL) hM hn
theorem m_false {κ : mX} (pc : Nat) : mAt κ pc (fun _ _ _ => False) := by
  obtain ⟨⟨p, l, e, R, s⟩, ⟨m, args, below, meth, cc⟩, ⟨D, dA, sz, ext, adV⟩, ⟨n0, w0, mc, ms⟩, Q⟩ := κ
  exact fun _ _ _ hf => hf.elim
theorem mMet_c {y : MethodName} {cc : ByteArray} {nL dep mc ms : Nat} {av0 : List Value} {S0 S1 : mS} {lp : mL} {L : Nat × Nat} (hy : plainName y.cls = true) (hl : (ent0 av0).length ≤ nL ∧ entl nL av0 = lp) (hL : (sN S0 + mc, sW S0 + ms) = L)
    (body : ∀ (κ : mX) (Q : mQ), mOk κ cc y.cls dep → mRet κ y.name none Q → mLim κ = L → Q none S1 → mAt κ 0 (lfS lp [] S0)) : mMet y cc nL none dep mc ms (fun av S Q => av = av0 ∧ S = S0 ∧ Q none S1) :=
  mMet.of hy (fun Q lim ls st S => (lim = L ∧ Q none S1) ∧ lfS lp [] S0 ls st S)
    (fun av S Q ⟨h1, h2, h3⟩ => by subst h1 h2; exact ⟨hl.1, ⟨hL, h3⟩, by rw [hl.2]; exact lsub_rf _, rfl, rfl⟩)
    (fun κ Q C R => by
      have hb := body κ Q C R
      revert hb
      obtain ⟨⟨p, l, e, R, s⟩, ⟨m, args, below, meth, c⟩, ⟨D, dA, sz, ext, adV⟩, ⟨n0, w0, mc, ms⟩, Qm⟩ := κ
      intro hb ls st S hK
      exact hb hK.1.1 hK.1.2 ls st S hK.2)
abbrev o_newn (ci n w : Nat) (lim : Nat × Nat) (K : mK) : mK := fun ls st S => (S.1 = (n, w) ∧ n < 1000000 ∧ n + 1 ≤ lim.1 ∧ w + mN ci ≤ lim.2) ∧ K ls (.ref n :: st) (addC S (ci, 0) (mN ci))
theorem m_newn {κ : mX} {cc : ByteArray} {own : String} {dep n w : Nat} (C : mOk κ cc own dep) {pc : Nat} {K : mK} {ci index : Nat} {Cn : String} {T : u_T} (d : decode cc pc = .ok (.new index, 3)) (hc : mCls ci Cn T) (hk : ∀ j, j < mN ci → okind (mTy ci j) = true) (w1 : Cond.classLink own index Cn ∈ mU) (w2 : Cond.instantiable Cn (mN ci) ∈ mU) (w3 : Cond.initialized Cn ∈ mU) (h : mAt κ (pc + 3) K) : mAt κ pc (o_newn ci n w (mLim κ) K) :=
  m_mono (m_new C d hc hk w1 w2 w3 h) fun ls st S hK => by
    obtain ⟨⟨e, h1, h2, h3⟩, h4⟩ := hK
    have a1 : sN S = n := congrArg Prod.fst e
    have a2 : sW S = w := congrArg Prod.snd e
    refine ⟨by omega, by omega, by omega, ?_⟩
    rw [a1]
    exact h4
abbrev o_newan (t n w len : Nat) (lim : Nat × Nat) (K : mK) : mK := fun ls st S => match st with
  | .int x :: st => (S.1 = (n, w) ∧ x = Int32.ofNat len ∧ len * 8 ≤ 536870912 ∧ n < 1000000 ∧ n + 1 ≤ lim.1 ∧ w + len ≤ lim.2) ∧ K ls (.ref n :: st) (addC S (100 + t, len) len)
  | _ => False
theorem m_newan {κ : mX} {cc : ByteArray} {own : String} {dep n w len : Nat} (C : mOk κ cc own dep) {pc : Nat} {K : mK} {t : Nat} (ht : t = 0 ∨ t = 1 ∨ t = 2) (d : decode cc pc = .ok (.newarray (natyp t), 2)) (w1 : Cond.arrayClass (newarray.typeOf (natyp t)) ∈ mU) (h : mAt κ (pc + 2) K) : mAt κ pc (o_newan t n w len (mLim κ) K) :=
  m_mono (m_newa C ht d w1 h) fun ls st S hK => by
    unfold o_newan at hK
    unfold o_newa
    split at hK
    · obtain ⟨⟨e, hx, h0, h1, h2, h3⟩, h4⟩ := hK
      subst hx
      have a1 : sN S = n := congrArg Prod.fst e
      have a2 : sW S = w := congrArg Prod.snd e
      have hb : len < 2 ^ 31 := by omega
      have hc : (Int32.ofNat len).toNatClampNeg = len := nI_clamp hb
      refine ⟨nI_pos hb, by rw [hc]; exact h0, by omega, by omega, by rw [hc]; omega, ?_⟩
      rw [hc, a1]
      exact h4
    · exact hK.elim
abbrev o_anewn (n w len : Nat) (lim : Nat × Nat) (K : mK) : mK := fun ls st S => match st with
  | .int x :: st => (S.1 = (n, w) ∧ x = Int32.ofNat len ∧ len * 8 ≤ 536870912 ∧ n < 1000000 ∧ n + 1 ≤ lim.1 ∧ w + len ≤ lim.2) ∧ K ls (.ref n :: st) (addC S (103, len) len)
  | _ => False
theorem m_anewn {κ : mX} {cc : ByteArray} {own : String} {dep n w len : Nat} (C : mOk κ cc own dep) {pc : Nat} {K : mK} {index : Nat} (d : decode cc pc = .ok (.anewarray index, 3)) (w1 : Cond.classLink own index RX9 ∈ mU) (h : mAt κ (pc + 3) K) : mAt κ pc (o_anewn n w len (mLim κ) K) :=
  m_mono (m_anew C d w1 h) fun ls st S hK => by
    unfold o_anewn at hK
    unfold o_anew
    split at hK
    · obtain ⟨⟨e, hx, h0, h1, h2, h3⟩, h4⟩ := hK
      subst hx
      have a1 : sN S = n := congrArg Prod.fst e
      have a2 : sW S = w := congrArg Prod.snd e
      have hb : len < 2 ^ 31 := by omega
      have hc : (Int32.ofNat len).toNatClampNeg = len := nI_clamp hb
      refine ⟨nI_pos hb, by rw [hc]; omega, by omega, by omega, by rw [hc]; omega, ?_⟩
      rw [hc, a1]
      exact h4
    · exact hK.elim
abbrev o_callIn (n mc1 ms1 n1 w1 : Nat) (lim : Nat × Nat) (F : mF) (K : mK) : mK := fun ls st S => match st.drop n with
  | .ref b :: rest => gd (Nat.ble rest.length 4 && Nat.beq (st.take n).length n) ((S.1 = (n1, w1) ∧ n1 + mc1 ≤ lim.1 ∧ w1 + ms1 ≤ lim.2) ∧ F (.ref b :: (st.take n).reverse) S (fun r S1 => K ls (r.toList ++ rest) S1))
  | _ => False
theorem m_callIn {κ : mX} {cc : ByteArray} {own : String} {dep n1 w1 : Nat} (C : mOk κ cc own dep) {pc : Nat} {K : mK} {F : mF} {n index dep1 nL mc1 ms1 : Nat} {y : MethodName} {cy : ByteArray} (d : decode cc pc = .ok (.invokespecial index, 3)) (hM : mMet y cy nL none dep1 mc1 ms1 F) (hd : dep1 < dep) (cw : Cond.initialized y.cls ∈ mU ∧ Cond.code y cy nL none ∈ mU ∧ (y.cls ≠ "java/lang/invoke/MethodHandle" ∧ y.cls ≠ "java/lang/invoke/VarHandle" ∧ (parseMethodDescriptor y.desc).map (fun d => d.parameters.length) = some n) ∧ nL ≤ 81)
    (hl : Cond.methodLink own index y ∈ mU ∨ (own, index, y, "UnlikeLoaves") ∈ mNest) (hi : Cond.instanceMethod y ∈ mU) (hy : y.name = "<init>") (h : mAt κ (pc + 3) K) : mAt κ pc (o_callIn n mc1 ms1 n1 w1 (mLim κ) F K) :=
  m_mono (m_callI C d hM hd cw hl hi hy h) fun ls st S hK => by
    unfold o_callIn at hK
    unfold o_callI
    split at hK
    · rename_i b rest hst
      obtain ⟨g, ⟨e, h2, h3⟩, h4⟩ := gd_of hK
      have a1 : sN S = n1 := congrArg Prod.fst e
      have a2 : sW S = w1 := congrArg Prod.snd e
      rw [hst]
      exact gdi g ⟨by omega, by omega, h4⟩
    · exact hK.elim
def T_0 : mS := ((0, 0), fun _ => (999, 0), fun _ _ => 0, fun _ _ => 0, fun _ _ => none)
theorem tn_0 : T_0.1 = (0, 0) := rfl
def T_1 : mS := addC T_0 (11, 0) 18
theorem tn_1 : T_1.1 = (1, 18) := n_addC tn_0
def T_2 : mS := addC T_1 (100, 6) 6
theorem tn_2 : T_2.1 = (2, 24) := n_addC tn_1
def T_3 : mS := setP T_2 0 0 (some 1)
theorem tn_3 : T_3.1 = (2, 24) := (n_setP T_2 0 0 (some 1)).trans tn_2
def T_4 : mS := addC T_3 (10, 0) 2
theorem tn_4 : T_4.1 = (3, 26) := n_addC tn_3
def T_5 : mS := addC T_4 (100, 1600) 1600
theorem tn_5 : T_5.1 = (4, 1626) := n_addC tn_4
def T_6 : mS := setP T_5 2 0 (some 3)
theorem tn_6 : T_6.1 = (4, 1626) := (n_setP T_5 2 0 (some 3)).trans tn_5
def T_7 : mS := setI T_6 2 1 (0 : Int32)
theorem tn_7 : T_7.1 = (4, 1626) := (n_setI T_6 2 1 (0 : Int32)).trans tn_6
def T_8 : mS := setP T_7 0 1 (some 2)
theorem tn_8 : T_8.1 = (4, 1626) := (n_setP T_7 0 1 (some 2)).trans tn_7
def T_9 : mS := addC T_8 (8, 0) 6
theorem tn_9 : T_9.1 = (5, 1632) := n_addC tn_8
def T_10 : mS := setI T_9 4 1 (0 : Int32)
theorem tn_10 : T_10.1 = (5, 1632) := (n_setI T_9 4 1 (0 : Int32)).trans tn_9
def T_11 : mS := setI T_10 4 2 (0 : Int32)
theorem tn_11 : T_11.1 = (5, 1632) := (n_setI T_10 4 2 (0 : Int32)).trans tn_10
def T_12 : mS := setI T_11 4 3 (0 : Int32)
theorem tn_12 : T_12.1 = (5, 1632) := (n_setI T_11 4 3 (0 : Int32)).trans tn_11
def T_13 : mS := setI T_12 4 4 (0 : Int32)
theorem tn_13 : T_13.1 = (5, 1632) := (n_setI T_12 4 4 (0 : Int32)).trans tn_12
def T_14 : mS := setI T_13 4 5 (-1 : Int32)
theorem tn_14 : T_14.1 = (5, 1632) := (n_setI T_13 4 5 (-1 : Int32)).trans tn_13
def T_15 : mS := setP T_14 4 0 (some 2)
theorem tn_15 : T_15.1 = (5, 1632) := (n_setP T_14 4 0 (some 2)).trans tn_14
def T_16 : mS := setP T_15 0 2 (some 4)
theorem tn_16 : T_16.1 = (5, 1632) := (n_setP T_15 0 2 (some 4)).trans tn_15
def T_17 : mS := addC T_16 (6, 0) 3
theorem tn_17 : T_17.1 = (6, 1635) := n_addC tn_16
def T_18 : mS := setP T_17 5 1 none
theorem tn_18 : T_18.1 = (6, 1635) := (n_setP T_17 5 1 none).trans tn_17
def T_19 : mS := setI T_18 5 2 (0 : Int32)
theorem tn_19 : T_19.1 = (6, 1635) := (n_setI T_18 5 2 (0 : Int32)).trans tn_18
def T_20 : mS := setP T_19 5 0 (some 4)
theorem tn_20 : T_20.1 = (6, 1635) := (n_setP T_19 5 0 (some 4)).trans tn_19
def T_21 : mS := setP T_20 0 3 (some 5)
theorem tn_21 : T_21.1 = (6, 1635) := (n_setP T_20 0 3 (some 5)).trans tn_20
def T_22 : mS := addC T_21 (4, 0) 3
theorem tn_22 : T_22.1 = (7, 1638) := n_addC tn_21
def T_23 : mS := addC T_22 (7, 0) 16
theorem tn_23 : T_23.1 = (8, 1654) := n_addC tn_22
def T_24 : mS := setI T_23 7 0 (0 : Int32)
theorem tn_24 : T_24.1 = (8, 1654) := (n_setI T_23 7 0 (0 : Int32)).trans tn_23
def T_25 : mS := setI T_24 7 1 (4 : Int32)
theorem tn_25 : T_25.1 = (8, 1654) := (n_setI T_24 7 1 (4 : Int32)).trans tn_24
def T_26 : mS := setI T_25 7 2 (0 : Int32)
theorem tn_26 : T_26.1 = (8, 1654) := (n_setI T_25 7 2 (0 : Int32)).trans tn_25
def T_27 : mS := setI T_26 7 3 (0 : Int32)
theorem tn_27 : T_27.1 = (8, 1654) := (n_setI T_26 7 3 (0 : Int32)).trans tn_26
def T_28 : mS := setI T_27 7 4 (0 : Int32)
theorem tn_28 : T_28.1 = (8, 1654) := (n_setI T_27 7 4 (0 : Int32)).trans tn_27
def T_29 : mS := setI T_28 7 5 (0 : Int32)
theorem tn_29 : T_29.1 = (8, 1654) := (n_setI T_28 7 5 (0 : Int32)).trans tn_28
def T_30 : mS := setI T_29 7 6 (0 : Int32)
theorem tn_30 : T_30.1 = (8, 1654) := (n_setI T_29 7 6 (0 : Int32)).trans tn_29
def T_31 : mS := addC T_30 (100, 6) 6
theorem tn_31 : T_31.1 = (9, 1660) := n_addC tn_30
def T_32 : mS := setP T_31 7 7 (some 8)
theorem tn_32 : T_32.1 = (9, 1660) := (n_setP T_31 7 7 (some 8)).trans tn_31
def T_33 : mS := addC T_32 (100, 6) 6
theorem tn_33 : T_33.1 = (10, 1666) := n_addC tn_32
def T_34 : mS := setP T_33 7 8 (some 9)
theorem tn_34 : T_34.1 = (10, 1666) := (n_setP T_33 7 8 (some 9)).trans tn_33
def T_35 : mS := addC T_34 (100, 6) 6
theorem tn_35 : T_35.1 = (11, 1672) := n_addC tn_34
def T_36 : mS := setP T_35 7 9 (some 10)
theorem tn_36 : T_36.1 = (11, 1672) := (n_setP T_35 7 9 (some 10)).trans tn_35
def T_37 : mS := addC T_36 (100, 25) 25
theorem tn_37 : T_37.1 = (12, 1697) := n_addC tn_36
def T_38 : mS := setP T_37 7 10 (some 11)
theorem tn_38 : T_38.1 = (12, 1697) := (n_setP T_37 7 10 (some 11)).trans tn_37
def T_39 : mS := addC T_38 (2, 0) 3
theorem tn_39 : T_39.1 = (13, 1700) := n_addC tn_38
def T_40 : mS := addC T_39 (100, 1600) 1600
theorem tn_40 : T_40.1 = (14, 3300) := n_addC tn_39
def T_41 : mS := setP T_40 12 0 (some 13)
theorem tn_41 : T_41.1 = (14, 3300) := (n_setP T_40 12 0 (some 13)).trans tn_40
def T_42 : mS := addC T_41 (100, 64) 64
theorem tn_42 : T_42.1 = (15, 3364) := n_addC tn_41
def T_43 : mS := setP T_42 12 1 (some 14)
theorem tn_43 : T_43.1 = (15, 3364) := (n_setP T_42 12 1 (some 14)).trans tn_42
def T_44 : mS := setI T_43 12 2 (0 : Int32)
theorem tn_44 : T_44.1 = (15, 3364) := (n_setI T_43 12 2 (0 : Int32)).trans tn_43
def T_45 : mS := setP T_44 7 11 (some 12)
theorem tn_45 : T_45.1 = (15, 3364) := (n_setP T_44 7 11 (some 12)).trans tn_44
def T_46 : mS := addC T_45 (2, 0) 3
theorem tn_46 : T_46.1 = (16, 3367) := n_addC tn_45
def T_47 : mS := addC T_46 (100, 1600) 1600
theorem tn_47 : T_47.1 = (17, 4967) := n_addC tn_46
def T_48 : mS := setP T_47 15 0 (some 16)
theorem tn_48 : T_48.1 = (17, 4967) := (n_setP T_47 15 0 (some 16)).trans tn_47
def T_49 : mS := addC T_48 (100, 64) 64
theorem tn_49 : T_49.1 = (18, 5031) := n_addC tn_48
def T_50 : mS := setP T_49 15 1 (some 17)
theorem tn_50 : T_50.1 = (18, 5031) := (n_setP T_49 15 1 (some 17)).trans tn_49
def T_51 : mS := setI T_50 15 2 (0 : Int32)
theorem tn_51 : T_51.1 = (18, 5031) := (n_setI T_50 15 2 (0 : Int32)).trans tn_50
def T_52 : mS := setP T_51 7 12 (some 15)
theorem tn_52 : T_52.1 = (18, 5031) := (n_setP T_51 7 12 (some 15)).trans tn_51
def T_53 : mS := addC T_52 (100, 192) 192
theorem tn_53 : T_53.1 = (19, 5223) := n_addC tn_52
def T_54 : mS := setP T_53 7 13 (some 18)
theorem tn_54 : T_54.1 = (19, 5223) := (n_setP T_53 7 13 (some 18)).trans tn_53
def T_55 : mS := addC T_54 (100, 6) 6
theorem tn_55 : T_55.1 = (20, 5229) := n_addC tn_54
def T_56 : mS := setP T_55 7 14 (some 19)
theorem tn_56 : T_56.1 = (20, 5229) := (n_setP T_55 7 14 (some 19)).trans tn_55
def T_57 : mS := addC T_56 (100, 6) 6
theorem tn_57 : T_57.1 = (21, 5235) := n_addC tn_56
def T_58 : mS := setP T_57 7 15 (some 20)
theorem tn_58 : T_58.1 = (21, 5235) := (n_setP T_57 7 15 (some 20)).trans tn_57
def T_59 : mS := setP T_58 6 2 (some 7)
theorem tn_59 : T_59.1 = (21, 5235) := (n_setP T_58 6 2 (some 7)).trans tn_58
def T_60 : mS := setP T_59 6 0 (some 4)
theorem tn_60 : T_60.1 = (21, 5235) := (n_setP T_59 6 0 (some 4)).trans tn_59
def T_61 : mS := setP T_60 6 1 (some 5)
theorem tn_61 : T_61.1 = (21, 5235) := (n_setP T_60 6 1 (some 5)).trans tn_60
def T_62 : mS := setP T_61 0 4 (some 6)
theorem tn_62 : T_62.1 = (21, 5235) := (n_setP T_61 0 4 (some 6)).trans tn_61
def T_63 : mS := addC T_62 (7, 0) 16
theorem tn_63 : T_63.1 = (22, 5251) := n_addC tn_62
def T_64 : mS := setI T_63 21 0 (0 : Int32)
theorem tn_64 : T_64.1 = (22, 5251) := (n_setI T_63 21 0 (0 : Int32)).trans tn_63
def T_65 : mS := setI T_64 21 1 (4 : Int32)
theorem tn_65 : T_65.1 = (22, 5251) := (n_setI T_64 21 1 (4 : Int32)).trans tn_64
def T_66 : mS := setI T_65 21 2 (0 : Int32)
theorem tn_66 : T_66.1 = (22, 5251) := (n_setI T_65 21 2 (0 : Int32)).trans tn_65
def T_67 : mS := setI T_66 21 3 (0 : Int32)
theorem tn_67 : T_67.1 = (22, 5251) := (n_setI T_66 21 3 (0 : Int32)).trans tn_66
def T_68 : mS := setI T_67 21 4 (0 : Int32)
theorem tn_68 : T_68.1 = (22, 5251) := (n_setI T_67 21 4 (0 : Int32)).trans tn_67
def T_69 : mS := setI T_68 21 5 (0 : Int32)
theorem tn_69 : T_69.1 = (22, 5251) := (n_setI T_68 21 5 (0 : Int32)).trans tn_68
def T_70 : mS := setI T_69 21 6 (0 : Int32)
theorem tn_70 : T_70.1 = (22, 5251) := (n_setI T_69 21 6 (0 : Int32)).trans tn_69
def T_71 : mS := addC T_70 (100, 6) 6
theorem tn_71 : T_71.1 = (23, 5257) := n_addC tn_70
def T_72 : mS := setP T_71 21 7 (some 22)
theorem tn_72 : T_72.1 = (23, 5257) := (n_setP T_71 21 7 (some 22)).trans tn_71
def T_73 : mS := addC T_72 (100, 6) 6
theorem tn_73 : T_73.1 = (24, 5263) := n_addC tn_72
def T_74 : mS := setP T_73 21 8 (some 23)
theorem tn_74 : T_74.1 = (24, 5263) := (n_setP T_73 21 8 (some 23)).trans tn_73
def T_75 : mS := addC T_74 (100, 6) 6
theorem tn_75 : T_75.1 = (25, 5269) := n_addC tn_74
def T_76 : mS := setP T_75 21 9 (some 24)
theorem tn_76 : T_76.1 = (25, 5269) := (n_setP T_75 21 9 (some 24)).trans tn_75
def T_77 : mS := addC T_76 (100, 25) 25
theorem tn_77 : T_77.1 = (26, 5294) := n_addC tn_76
def T_78 : mS := setP T_77 21 10 (some 25)
theorem tn_78 : T_78.1 = (26, 5294) := (n_setP T_77 21 10 (some 25)).trans tn_77
def T_79 : mS := addC T_78 (2, 0) 3
theorem tn_79 : T_79.1 = (27, 5297) := n_addC tn_78
def T_80 : mS := addC T_79 (100, 1600) 1600
theorem tn_80 : T_80.1 = (28, 6897) := n_addC tn_79
def T_81 : mS := setP T_80 26 0 (some 27)
theorem tn_81 : T_81.1 = (28, 6897) := (n_setP T_80 26 0 (some 27)).trans tn_80
def T_82 : mS := addC T_81 (100, 64) 64
theorem tn_82 : T_82.1 = (29, 6961) := n_addC tn_81
def T_83 : mS := setP T_82 26 1 (some 28)
theorem tn_83 : T_83.1 = (29, 6961) := (n_setP T_82 26 1 (some 28)).trans tn_82
def T_84 : mS := setI T_83 26 2 (0 : Int32)
theorem tn_84 : T_84.1 = (29, 6961) := (n_setI T_83 26 2 (0 : Int32)).trans tn_83
def T_85 : mS := setP T_84 21 11 (some 26)
theorem tn_85 : T_85.1 = (29, 6961) := (n_setP T_84 21 11 (some 26)).trans tn_84
def T_86 : mS := addC T_85 (2, 0) 3
theorem tn_86 : T_86.1 = (30, 6964) := n_addC tn_85
def T_87 : mS := addC T_86 (100, 1600) 1600
theorem tn_87 : T_87.1 = (31, 8564) := n_addC tn_86
def T_88 : mS := setP T_87 29 0 (some 30)
theorem tn_88 : T_88.1 = (31, 8564) := (n_setP T_87 29 0 (some 30)).trans tn_87
def T_89 : mS := addC T_88 (100, 64) 64
theorem tn_89 : T_89.1 = (32, 8628) := n_addC tn_88
def T_90 : mS := setP T_89 29 1 (some 31)
theorem tn_90 : T_90.1 = (32, 8628) := (n_setP T_89 29 1 (some 31)).trans tn_89
def T_91 : mS := setI T_90 29 2 (0 : Int32)
theorem tn_91 : T_91.1 = (32, 8628) := (n_setI T_90 29 2 (0 : Int32)).trans tn_90
def T_92 : mS := setP T_91 21 12 (some 29)
theorem tn_92 : T_92.1 = (32, 8628) := (n_setP T_91 21 12 (some 29)).trans tn_91
def T_93 : mS := addC T_92 (100, 192) 192
theorem tn_93 : T_93.1 = (33, 8820) := n_addC tn_92
def T_94 : mS := setP T_93 21 13 (some 32)
theorem tn_94 : T_94.1 = (33, 8820) := (n_setP T_93 21 13 (some 32)).trans tn_93
def T_95 : mS := addC T_94 (100, 6) 6
theorem tn_95 : T_95.1 = (34, 8826) := n_addC tn_94
def T_96 : mS := setP T_95 21 14 (some 33)
theorem tn_96 : T_96.1 = (34, 8826) := (n_setP T_95 21 14 (some 33)).trans tn_95
def T_97 : mS := addC T_96 (100, 6) 6
theorem tn_97 : T_97.1 = (35, 8832) := n_addC tn_96
def T_98 : mS := setP T_97 21 15 (some 34)
theorem tn_98 : T_98.1 = (35, 8832) := (n_setP T_97 21 15 (some 34)).trans tn_97
def T_99 : mS := setP T_98 0 5 (some 21)
theorem tn_99 : T_99.1 = (35, 8832) := (n_setP T_98 0 5 (some 21)).trans tn_98
def T_100 : mS := addC T_99 (1, 0) 7
theorem tn_100 : T_100.1 = (36, 8839) := n_addC tn_99
def T_101 : mS := addC T_100 (101, 25) 25
theorem tn_101 : T_101.1 = (37, 8864) := n_addC tn_100
def T_102 : mS := setP T_101 35 1 (some 36)
theorem tn_102 : T_102.1 = (37, 8864) := (n_setP T_101 35 1 (some 36)).trans tn_101
def T_103 : mS := addC T_102 (100, 32) 32
theorem tn_103 : T_103.1 = (38, 8896) := n_addC tn_102
def T_104 : mS := setP T_103 35 2 (some 37)
theorem tn_104 : T_104.1 = (38, 8896) := (n_setP T_103 35 2 (some 37)).trans tn_103
def T_105 : mS := setI T_104 35 3 (0 : Int32)
theorem tn_105 : T_105.1 = (38, 8896) := (n_setI T_104 35 3 (0 : Int32)).trans tn_104
def T_106 : mS := setI T_105 35 4 (-1 : Int32)
theorem tn_106 : T_106.1 = (38, 8896) := (n_setI T_105 35 4 (-1 : Int32)).trans tn_105
def T_107 : mS := setI T_106 35 5 (-1 : Int32)
theorem tn_107 : T_107.1 = (38, 8896) := (n_setI T_106 35 5 (-1 : Int32)).trans tn_106
def T_108 : mS := setJ T_107 35 6 (0 : Int64)
theorem tn_108 : T_108.1 = (38, 8896) := (n_setJ T_107 35 6 (0 : Int64)).trans tn_107
def T_109 : mS := setP T_108 35 0 (some 21)
theorem tn_109 : T_109.1 = (38, 8896) := (n_setP T_108 35 0 (some 21)).trans tn_108
def T_110 : mS := setJ T_109 36 ((1 : Int32).toNatClampNeg) ((5354228880 : Int64) / (Int32.toInt64 (1 : Int32)))
theorem tn_110 : T_110.1 = (38, 8896) := (n_setJ T_109 36 ((1 : Int32).toNatClampNeg) ((5354228880 : Int64) / (Int32.toInt64 (1 : Int32)))).trans tn_109
def T_111 : mS := setJ T_110 36 ((2 : Int32).toNatClampNeg) ((5354228880 : Int64) / (Int32.toInt64 (2 : Int32)))
theorem tn_111 : T_111.1 = (38, 8896) := (n_setJ T_110 36 ((2 : Int32).toNatClampNeg) ((5354228880 : Int64) / (Int32.toInt64 (2 : Int32)))).trans tn_110
def T_112 : mS := setJ T_111 36 ((3 : Int32).toNatClampNeg) ((5354228880 : Int64) / (Int32.toInt64 (3 : Int32)))
theorem tn_112 : T_112.1 = (38, 8896) := (n_setJ T_111 36 ((3 : Int32).toNatClampNeg) ((5354228880 : Int64) / (Int32.toInt64 (3 : Int32)))).trans tn_111
def T_113 : mS := setJ T_112 36 ((4 : Int32).toNatClampNeg) ((5354228880 : Int64) / (Int32.toInt64 (4 : Int32)))
theorem tn_113 : T_113.1 = (38, 8896) := (n_setJ T_112 36 ((4 : Int32).toNatClampNeg) ((5354228880 : Int64) / (Int32.toInt64 (4 : Int32)))).trans tn_112
def T_114 : mS := setJ T_113 36 ((5 : Int32).toNatClampNeg) ((5354228880 : Int64) / (Int32.toInt64 (5 : Int32)))
theorem tn_114 : T_114.1 = (38, 8896) := (n_setJ T_113 36 ((5 : Int32).toNatClampNeg) ((5354228880 : Int64) / (Int32.toInt64 (5 : Int32)))).trans tn_113
def T_115 : mS := setJ T_114 36 ((6 : Int32).toNatClampNeg) ((5354228880 : Int64) / (Int32.toInt64 (6 : Int32)))
theorem tn_115 : T_115.1 = (38, 8896) := (n_setJ T_114 36 ((6 : Int32).toNatClampNeg) ((5354228880 : Int64) / (Int32.toInt64 (6 : Int32)))).trans tn_114
def T_116 : mS := setJ T_115 36 ((7 : Int32).toNatClampNeg) ((5354228880 : Int64) / (Int32.toInt64 (7 : Int32)))
theorem tn_116 : T_116.1 = (38, 8896) := (n_setJ T_115 36 ((7 : Int32).toNatClampNeg) ((5354228880 : Int64) / (Int32.toInt64 (7 : Int32)))).trans tn_115
def T_117 : mS := setJ T_116 36 ((8 : Int32).toNatClampNeg) ((5354228880 : Int64) / (Int32.toInt64 (8 : Int32)))
theorem tn_117 : T_117.1 = (38, 8896) := (n_setJ T_116 36 ((8 : Int32).toNatClampNeg) ((5354228880 : Int64) / (Int32.toInt64 (8 : Int32)))).trans tn_116
def T_118 : mS := setJ T_117 36 ((9 : Int32).toNatClampNeg) ((5354228880 : Int64) / (Int32.toInt64 (9 : Int32)))
theorem tn_118 : T_118.1 = (38, 8896) := (n_setJ T_117 36 ((9 : Int32).toNatClampNeg) ((5354228880 : Int64) / (Int32.toInt64 (9 : Int32)))).trans tn_117
def T_119 : mS := setJ T_118 36 ((10 : Int32).toNatClampNeg) ((5354228880 : Int64) / (Int32.toInt64 (10 : Int32)))
theorem tn_119 : T_119.1 = (38, 8896) := (n_setJ T_118 36 ((10 : Int32).toNatClampNeg) ((5354228880 : Int64) / (Int32.toInt64 (10 : Int32)))).trans tn_118
def T_120 : mS := setJ T_119 36 ((11 : Int32).toNatClampNeg) ((5354228880 : Int64) / (Int32.toInt64 (11 : Int32)))
theorem tn_120 : T_120.1 = (38, 8896) := (n_setJ T_119 36 ((11 : Int32).toNatClampNeg) ((5354228880 : Int64) / (Int32.toInt64 (11 : Int32)))).trans tn_119
def T_121 : mS := setJ T_120 36 ((12 : Int32).toNatClampNeg) ((5354228880 : Int64) / (Int32.toInt64 (12 : Int32)))
theorem tn_121 : T_121.1 = (38, 8896) := (n_setJ T_120 36 ((12 : Int32).toNatClampNeg) ((5354228880 : Int64) / (Int32.toInt64 (12 : Int32)))).trans tn_120
def T_122 : mS := setJ T_121 36 ((13 : Int32).toNatClampNeg) ((5354228880 : Int64) / (Int32.toInt64 (13 : Int32)))
theorem tn_122 : T_122.1 = (38, 8896) := (n_setJ T_121 36 ((13 : Int32).toNatClampNeg) ((5354228880 : Int64) / (Int32.toInt64 (13 : Int32)))).trans tn_121
def T_123 : mS := setJ T_122 36 ((14 : Int32).toNatClampNeg) ((5354228880 : Int64) / (Int32.toInt64 (14 : Int32)))
theorem tn_123 : T_123.1 = (38, 8896) := (n_setJ T_122 36 ((14 : Int32).toNatClampNeg) ((5354228880 : Int64) / (Int32.toInt64 (14 : Int32)))).trans tn_122
def T_124 : mS := setJ T_123 36 ((15 : Int32).toNatClampNeg) ((5354228880 : Int64) / (Int32.toInt64 (15 : Int32)))
theorem tn_124 : T_124.1 = (38, 8896) := (n_setJ T_123 36 ((15 : Int32).toNatClampNeg) ((5354228880 : Int64) / (Int32.toInt64 (15 : Int32)))).trans tn_123
def T_125 : mS := setJ T_124 36 ((16 : Int32).toNatClampNeg) ((5354228880 : Int64) / (Int32.toInt64 (16 : Int32)))
theorem tn_125 : T_125.1 = (38, 8896) := (n_setJ T_124 36 ((16 : Int32).toNatClampNeg) ((5354228880 : Int64) / (Int32.toInt64 (16 : Int32)))).trans tn_124
def T_126 : mS := setJ T_125 36 ((17 : Int32).toNatClampNeg) ((5354228880 : Int64) / (Int32.toInt64 (17 : Int32)))
theorem tn_126 : T_126.1 = (38, 8896) := (n_setJ T_125 36 ((17 : Int32).toNatClampNeg) ((5354228880 : Int64) / (Int32.toInt64 (17 : Int32)))).trans tn_125
def T_127 : mS := setJ T_126 36 ((18 : Int32).toNatClampNeg) ((5354228880 : Int64) / (Int32.toInt64 (18 : Int32)))
theorem tn_127 : T_127.1 = (38, 8896) := (n_setJ T_126 36 ((18 : Int32).toNatClampNeg) ((5354228880 : Int64) / (Int32.toInt64 (18 : Int32)))).trans tn_126
def T_128 : mS := setJ T_127 36 ((19 : Int32).toNatClampNeg) ((5354228880 : Int64) / (Int32.toInt64 (19 : Int32)))
theorem tn_128 : T_128.1 = (38, 8896) := (n_setJ T_127 36 ((19 : Int32).toNatClampNeg) ((5354228880 : Int64) / (Int32.toInt64 (19 : Int32)))).trans tn_127
def T_129 : mS := setJ T_128 36 ((20 : Int32).toNatClampNeg) ((5354228880 : Int64) / (Int32.toInt64 (20 : Int32)))
theorem tn_129 : T_129.1 = (38, 8896) := (n_setJ T_128 36 ((20 : Int32).toNatClampNeg) ((5354228880 : Int64) / (Int32.toInt64 (20 : Int32)))).trans tn_128
def T_130 : mS := setJ T_129 36 ((21 : Int32).toNatClampNeg) ((5354228880 : Int64) / (Int32.toInt64 (21 : Int32)))
theorem tn_130 : T_130.1 = (38, 8896) := (n_setJ T_129 36 ((21 : Int32).toNatClampNeg) ((5354228880 : Int64) / (Int32.toInt64 (21 : Int32)))).trans tn_129
def T_131 : mS := setJ T_130 36 ((22 : Int32).toNatClampNeg) ((5354228880 : Int64) / (Int32.toInt64 (22 : Int32)))
theorem tn_131 : T_131.1 = (38, 8896) := (n_setJ T_130 36 ((22 : Int32).toNatClampNeg) ((5354228880 : Int64) / (Int32.toInt64 (22 : Int32)))).trans tn_130
def T_132 : mS := setJ T_131 36 ((23 : Int32).toNatClampNeg) ((5354228880 : Int64) / (Int32.toInt64 (23 : Int32)))
theorem tn_132 : T_132.1 = (38, 8896) := (n_setJ T_131 36 ((23 : Int32).toNatClampNeg) ((5354228880 : Int64) / (Int32.toInt64 (23 : Int32)))).trans tn_131
def T_133 : mS := setJ T_132 36 ((24 : Int32).toNatClampNeg) ((5354228880 : Int64) / (Int32.toInt64 (24 : Int32)))
theorem tn_133 : T_133.1 = (38, 8896) := (n_setJ T_132 36 ((24 : Int32).toNatClampNeg) ((5354228880 : Int64) / (Int32.toInt64 (24 : Int32)))).trans tn_132
def T_134 : mS := setP T_133 0 6 (some 35)
theorem tn_134 : T_134.1 = (38, 8896) := (n_setP T_133 0 6 (some 35)).trans tn_133
def T_135 : mS := addC T_134 (9, 0) 7
theorem tn_135 : T_135.1 = (39, 8903) := n_addC tn_134
def T_136 : mS := setI T_135 38 0 (0 : Int32)
theorem tn_136 : T_136.1 = (39, 8903) := (n_setI T_135 38 0 (0 : Int32)).trans tn_135
def T_137 : mS := addC T_136 (100, 25) 25
theorem tn_137 : T_137.1 = (40, 8928) := n_addC tn_136
def T_138 : mS := setP T_137 38 1 (some 39)
theorem tn_138 : T_138.1 = (40, 8928) := (n_setP T_137 38 1 (some 39)).trans tn_137
def T_139 : mS := addC T_138 (100, 6) 6
theorem tn_139 : T_139.1 = (41, 8934) := n_addC tn_138
def T_140 : mS := setP T_139 38 2 (some 40)
theorem tn_140 : T_140.1 = (41, 8934) := (n_setP T_139 38 2 (some 40)).trans tn_139
def T_141 : mS := addC T_140 (100, 6) 6
theorem tn_141 : T_141.1 = (42, 8940) := n_addC tn_140
def T_142 : mS := setP T_141 38 3 (some 41)
theorem tn_142 : T_142.1 = (42, 8940) := (n_setP T_141 38 3 (some 41)).trans tn_141
def T_143 : mS := addC T_142 (100, 120) 120
theorem tn_143 : T_143.1 = (43, 9060) := n_addC tn_142
def T_144 : mS := setP T_143 38 4 (some 42)
theorem tn_144 : T_144.1 = (43, 9060) := (n_setP T_143 38 4 (some 42)).trans tn_143
def T_145 : mS := setI T_144 38 5 (0 : Int32)
theorem tn_145 : T_145.1 = (43, 9060) := (n_setI T_144 38 5 (0 : Int32)).trans tn_144
def T_146 : mS := setI T_145 38 6 (0 : Int32)
theorem tn_146 : T_146.1 = (43, 9060) := (n_setI T_145 38 6 (0 : Int32)).trans tn_145
def T_147 : mS := setP T_146 0 7 (some 38)
theorem tn_147 : T_147.1 = (43, 9060) := (n_setP T_146 0 7 (some 38)).trans tn_146
def T_148 : mS := addC T_147 (3, 0) 3
theorem tn_148 : T_148.1 = (44, 9063) := n_addC tn_147
def T_149 : mS := addC T_148 (103, 20) 20
theorem tn_149 : T_149.1 = (45, 9083) := n_addC tn_148
def T_150 : mS := setP T_149 43 0 (some 44)
theorem tn_150 : T_150.1 = (45, 9083) := (n_setP T_149 43 0 (some 44)).trans tn_149
def T_151 : mS := setI T_150 43 1 (0 : Int32)
theorem tn_151 : T_151.1 = (45, 9083) := (n_setI T_150 43 1 (0 : Int32)).trans tn_150
def T_152 : mS := setI T_151 43 2 (0 : Int32)
theorem tn_152 : T_152.1 = (45, 9083) := (n_setI T_151 43 2 (0 : Int32)).trans tn_151
def T_153 : mS := addC T_152 (9, 0) 7
theorem tn_153 : T_153.1 = (46, 9090) := n_addC tn_152
def T_154 : mS := setI T_153 45 0 (0 : Int32)
theorem tn_154 : T_154.1 = (46, 9090) := (n_setI T_153 45 0 (0 : Int32)).trans tn_153
def T_155 : mS := addC T_154 (100, 25) 25
theorem tn_155 : T_155.1 = (47, 9115) := n_addC tn_154
def T_156 : mS := setP T_155 45 1 (some 46)
theorem tn_156 : T_156.1 = (47, 9115) := (n_setP T_155 45 1 (some 46)).trans tn_155
def T_157 : mS := addC T_156 (100, 6) 6
theorem tn_157 : T_157.1 = (48, 9121) := n_addC tn_156
def T_158 : mS := setP T_157 45 2 (some 47)
theorem tn_158 : T_158.1 = (48, 9121) := (n_setP T_157 45 2 (some 47)).trans tn_157
def T_159 : mS := addC T_158 (100, 6) 6
theorem tn_159 : T_159.1 = (49, 9127) := n_addC tn_158
def T_160 : mS := setP T_159 45 3 (some 48)
theorem tn_160 : T_160.1 = (49, 9127) := (n_setP T_159 45 3 (some 48)).trans tn_159
def T_161 : mS := addC T_160 (100, 120) 120
theorem tn_161 : T_161.1 = (50, 9247) := n_addC tn_160
def T_162 : mS := setP T_161 45 4 (some 49)
theorem tn_162 : T_162.1 = (50, 9247) := (n_setP T_161 45 4 (some 49)).trans tn_161
def T_163 : mS := setI T_162 45 5 (0 : Int32)
theorem tn_163 : T_163.1 = (50, 9247) := (n_setI T_162 45 5 (0 : Int32)).trans tn_162
def T_164 : mS := setI T_163 45 6 (0 : Int32)
theorem tn_164 : T_164.1 = (50, 9247) := (n_setI T_163 45 6 (0 : Int32)).trans tn_163
def T_165 : mS := setP T_164 44 ((0 : Int32).toNatClampNeg) (some 45)
theorem tn_165 : T_165.1 = (50, 9247) := (n_setP T_164 44 ((0 : Int32).toNatClampNeg) (some 45)).trans tn_164
def T_166 : mS := addC T_165 (9, 0) 7
theorem tn_166 : T_166.1 = (51, 9254) := n_addC tn_165
def T_167 : mS := setI T_166 50 0 (0 : Int32)
theorem tn_167 : T_167.1 = (51, 9254) := (n_setI T_166 50 0 (0 : Int32)).trans tn_166
def T_168 : mS := addC T_167 (100, 25) 25
theorem tn_168 : T_168.1 = (52, 9279) := n_addC tn_167
def T_169 : mS := setP T_168 50 1 (some 51)
theorem tn_169 : T_169.1 = (52, 9279) := (n_setP T_168 50 1 (some 51)).trans tn_168
def T_170 : mS := addC T_169 (100, 6) 6
theorem tn_170 : T_170.1 = (53, 9285) := n_addC tn_169
def T_171 : mS := setP T_170 50 2 (some 52)
theorem tn_171 : T_171.1 = (53, 9285) := (n_setP T_170 50 2 (some 52)).trans tn_170
def T_172 : mS := addC T_171 (100, 6) 6
theorem tn_172 : T_172.1 = (54, 9291) := n_addC tn_171
def T_173 : mS := setP T_172 50 3 (some 53)
theorem tn_173 : T_173.1 = (54, 9291) := (n_setP T_172 50 3 (some 53)).trans tn_172
def T_174 : mS := addC T_173 (100, 120) 120
theorem tn_174 : T_174.1 = (55, 9411) := n_addC tn_173
def T_175 : mS := setP T_174 50 4 (some 54)
theorem tn_175 : T_175.1 = (55, 9411) := (n_setP T_174 50 4 (some 54)).trans tn_174
def T_176 : mS := setI T_175 50 5 (0 : Int32)
theorem tn_176 : T_176.1 = (55, 9411) := (n_setI T_175 50 5 (0 : Int32)).trans tn_175
def T_177 : mS := setI T_176 50 6 (0 : Int32)
theorem tn_177 : T_177.1 = (55, 9411) := (n_setI T_176 50 6 (0 : Int32)).trans tn_176
def T_178 : mS := setP T_177 44 ((1 : Int32).toNatClampNeg) (some 50)
theorem tn_178 : T_178.1 = (55, 9411) := (n_setP T_177 44 ((1 : Int32).toNatClampNeg) (some 50)).trans tn_177
def T_179 : mS := addC T_178 (9, 0) 7
theorem tn_179 : T_179.1 = (56, 9418) := n_addC tn_178
def T_180 : mS := setI T_179 55 0 (0 : Int32)
theorem tn_180 : T_180.1 = (56, 9418) := (n_setI T_179 55 0 (0 : Int32)).trans tn_179
def T_181 : mS := addC T_180 (100, 25) 25
theorem tn_181 : T_181.1 = (57, 9443) := n_addC tn_180
def T_182 : mS := setP T_181 55 1 (some 56)
theorem tn_182 : T_182.1 = (57, 9443) := (n_setP T_181 55 1 (some 56)).trans tn_181
def T_183 : mS := addC T_182 (100, 6) 6
theorem tn_183 : T_183.1 = (58, 9449) := n_addC tn_182
def T_184 : mS := setP T_183 55 2 (some 57)
theorem tn_184 : T_184.1 = (58, 9449) := (n_setP T_183 55 2 (some 57)).trans tn_183
def T_185 : mS := addC T_184 (100, 6) 6
theorem tn_185 : T_185.1 = (59, 9455) := n_addC tn_184
def T_186 : mS := setP T_185 55 3 (some 58)
theorem tn_186 : T_186.1 = (59, 9455) := (n_setP T_185 55 3 (some 58)).trans tn_185
def T_187 : mS := addC T_186 (100, 120) 120
theorem tn_187 : T_187.1 = (60, 9575) := n_addC tn_186
def T_188 : mS := setP T_187 55 4 (some 59)
theorem tn_188 : T_188.1 = (60, 9575) := (n_setP T_187 55 4 (some 59)).trans tn_187
def T_189 : mS := setI T_188 55 5 (0 : Int32)
theorem tn_189 : T_189.1 = (60, 9575) := (n_setI T_188 55 5 (0 : Int32)).trans tn_188
def T_190 : mS := setI T_189 55 6 (0 : Int32)
theorem tn_190 : T_190.1 = (60, 9575) := (n_setI T_189 55 6 (0 : Int32)).trans tn_189
def T_191 : mS := setP T_190 44 ((2 : Int32).toNatClampNeg) (some 55)
theorem tn_191 : T_191.1 = (60, 9575) := (n_setP T_190 44 ((2 : Int32).toNatClampNeg) (some 55)).trans tn_190
def T_192 : mS := addC T_191 (9, 0) 7
theorem tn_192 : T_192.1 = (61, 9582) := n_addC tn_191
def T_193 : mS := setI T_192 60 0 (0 : Int32)
theorem tn_193 : T_193.1 = (61, 9582) := (n_setI T_192 60 0 (0 : Int32)).trans tn_192
def T_194 : mS := addC T_193 (100, 25) 25
theorem tn_194 : T_194.1 = (62, 9607) := n_addC tn_193
def T_195 : mS := setP T_194 60 1 (some 61)
theorem tn_195 : T_195.1 = (62, 9607) := (n_setP T_194 60 1 (some 61)).trans tn_194
def T_196 : mS := addC T_195 (100, 6) 6
theorem tn_196 : T_196.1 = (63, 9613) := n_addC tn_195
def T_197 : mS := setP T_196 60 2 (some 62)
theorem tn_197 : T_197.1 = (63, 9613) := (n_setP T_196 60 2 (some 62)).trans tn_196
def T_198 : mS := addC T_197 (100, 6) 6
theorem tn_198 : T_198.1 = (64, 9619) := n_addC tn_197
def T_199 : mS := setP T_198 60 3 (some 63)
theorem tn_199 : T_199.1 = (64, 9619) := (n_setP T_198 60 3 (some 63)).trans tn_198
def T_200 : mS := addC T_199 (100, 120) 120
theorem tn_200 : T_200.1 = (65, 9739) := n_addC tn_199
def T_201 : mS := setP T_200 60 4 (some 64)
theorem tn_201 : T_201.1 = (65, 9739) := (n_setP T_200 60 4 (some 64)).trans tn_200
def T_202 : mS := setI T_201 60 5 (0 : Int32)
theorem tn_202 : T_202.1 = (65, 9739) := (n_setI T_201 60 5 (0 : Int32)).trans tn_201
def T_203 : mS := setI T_202 60 6 (0 : Int32)
theorem tn_203 : T_203.1 = (65, 9739) := (n_setI T_202 60 6 (0 : Int32)).trans tn_202
def T_204 : mS := setP T_203 44 ((3 : Int32).toNatClampNeg) (some 60)
theorem tn_204 : T_204.1 = (65, 9739) := (n_setP T_203 44 ((3 : Int32).toNatClampNeg) (some 60)).trans tn_203
def T_205 : mS := addC T_204 (9, 0) 7
theorem tn_205 : T_205.1 = (66, 9746) := n_addC tn_204
def T_206 : mS := setI T_205 65 0 (0 : Int32)
theorem tn_206 : T_206.1 = (66, 9746) := (n_setI T_205 65 0 (0 : Int32)).trans tn_205
def T_207 : mS := addC T_206 (100, 25) 25
theorem tn_207 : T_207.1 = (67, 9771) := n_addC tn_206
def T_208 : mS := setP T_207 65 1 (some 66)
theorem tn_208 : T_208.1 = (67, 9771) := (n_setP T_207 65 1 (some 66)).trans tn_207
def T_209 : mS := addC T_208 (100, 6) 6
theorem tn_209 : T_209.1 = (68, 9777) := n_addC tn_208
def T_210 : mS := setP T_209 65 2 (some 67)
theorem tn_210 : T_210.1 = (68, 9777) := (n_setP T_209 65 2 (some 67)).trans tn_209
def T_211 : mS := addC T_210 (100, 6) 6
theorem tn_211 : T_211.1 = (69, 9783) := n_addC tn_210
def T_212 : mS := setP T_211 65 3 (some 68)
theorem tn_212 : T_212.1 = (69, 9783) := (n_setP T_211 65 3 (some 68)).trans tn_211
def T_213 : mS := addC T_212 (100, 120) 120
theorem tn_213 : T_213.1 = (70, 9903) := n_addC tn_212
def T_214 : mS := setP T_213 65 4 (some 69)
theorem tn_214 : T_214.1 = (70, 9903) := (n_setP T_213 65 4 (some 69)).trans tn_213
def T_215 : mS := setI T_214 65 5 (0 : Int32)
theorem tn_215 : T_215.1 = (70, 9903) := (n_setI T_214 65 5 (0 : Int32)).trans tn_214
def T_216 : mS := setI T_215 65 6 (0 : Int32)
theorem tn_216 : T_216.1 = (70, 9903) := (n_setI T_215 65 6 (0 : Int32)).trans tn_215
def T_217 : mS := setP T_216 44 ((4 : Int32).toNatClampNeg) (some 65)
theorem tn_217 : T_217.1 = (70, 9903) := (n_setP T_216 44 ((4 : Int32).toNatClampNeg) (some 65)).trans tn_216
def T_218 : mS := addC T_217 (9, 0) 7
theorem tn_218 : T_218.1 = (71, 9910) := n_addC tn_217
def T_219 : mS := setI T_218 70 0 (0 : Int32)
theorem tn_219 : T_219.1 = (71, 9910) := (n_setI T_218 70 0 (0 : Int32)).trans tn_218
def T_220 : mS := addC T_219 (100, 25) 25
theorem tn_220 : T_220.1 = (72, 9935) := n_addC tn_219
def T_221 : mS := setP T_220 70 1 (some 71)
theorem tn_221 : T_221.1 = (72, 9935) := (n_setP T_220 70 1 (some 71)).trans tn_220
def T_222 : mS := addC T_221 (100, 6) 6
theorem tn_222 : T_222.1 = (73, 9941) := n_addC tn_221
def T_223 : mS := setP T_222 70 2 (some 72)
theorem tn_223 : T_223.1 = (73, 9941) := (n_setP T_222 70 2 (some 72)).trans tn_222
def T_224 : mS := addC T_223 (100, 6) 6
theorem tn_224 : T_224.1 = (74, 9947) := n_addC tn_223
def T_225 : mS := setP T_224 70 3 (some 73)
theorem tn_225 : T_225.1 = (74, 9947) := (n_setP T_224 70 3 (some 73)).trans tn_224
def T_226 : mS := addC T_225 (100, 120) 120
theorem tn_226 : T_226.1 = (75, 10067) := n_addC tn_225
def T_227 : mS := setP T_226 70 4 (some 74)
theorem tn_227 : T_227.1 = (75, 10067) := (n_setP T_226 70 4 (some 74)).trans tn_226
def T_228 : mS := setI T_227 70 5 (0 : Int32)
theorem tn_228 : T_228.1 = (75, 10067) := (n_setI T_227 70 5 (0 : Int32)).trans tn_227
def T_229 : mS := setI T_228 70 6 (0 : Int32)
theorem tn_229 : T_229.1 = (75, 10067) := (n_setI T_228 70 6 (0 : Int32)).trans tn_228
def T_230 : mS := setP T_229 44 ((5 : Int32).toNatClampNeg) (some 70)
theorem tn_230 : T_230.1 = (75, 10067) := (n_setP T_229 44 ((5 : Int32).toNatClampNeg) (some 70)).trans tn_229
def T_231 : mS := addC T_230 (9, 0) 7
theorem tn_231 : T_231.1 = (76, 10074) := n_addC tn_230
def T_232 : mS := setI T_231 75 0 (0 : Int32)
theorem tn_232 : T_232.1 = (76, 10074) := (n_setI T_231 75 0 (0 : Int32)).trans tn_231
def T_233 : mS := addC T_232 (100, 25) 25
theorem tn_233 : T_233.1 = (77, 10099) := n_addC tn_232
def T_234 : mS := setP T_233 75 1 (some 76)
theorem tn_234 : T_234.1 = (77, 10099) := (n_setP T_233 75 1 (some 76)).trans tn_233
def T_235 : mS := addC T_234 (100, 6) 6
theorem tn_235 : T_235.1 = (78, 10105) := n_addC tn_234
def T_236 : mS := setP T_235 75 2 (some 77)
theorem tn_236 : T_236.1 = (78, 10105) := (n_setP T_235 75 2 (some 77)).trans tn_235
def T_237 : mS := addC T_236 (100, 6) 6
theorem tn_237 : T_237.1 = (79, 10111) := n_addC tn_236
def T_238 : mS := setP T_237 75 3 (some 78)
theorem tn_238 : T_238.1 = (79, 10111) := (n_setP T_237 75 3 (some 78)).trans tn_237
def T_239 : mS := addC T_238 (100, 120) 120
theorem tn_239 : T_239.1 = (80, 10231) := n_addC tn_238
def T_240 : mS := setP T_239 75 4 (some 79)
theorem tn_240 : T_240.1 = (80, 10231) := (n_setP T_239 75 4 (some 79)).trans tn_239
def T_241 : mS := setI T_240 75 5 (0 : Int32)
theorem tn_241 : T_241.1 = (80, 10231) := (n_setI T_240 75 5 (0 : Int32)).trans tn_240
def T_242 : mS := setI T_241 75 6 (0 : Int32)
theorem tn_242 : T_242.1 = (80, 10231) := (n_setI T_241 75 6 (0 : Int32)).trans tn_241
def T_243 : mS := setP T_242 44 ((6 : Int32).toNatClampNeg) (some 75)
theorem tn_243 : T_243.1 = (80, 10231) := (n_setP T_242 44 ((6 : Int32).toNatClampNeg) (some 75)).trans tn_242
def T_244 : mS := addC T_243 (9, 0) 7
theorem tn_244 : T_244.1 = (81, 10238) := n_addC tn_243
def T_245 : mS := setI T_244 80 0 (0 : Int32)
theorem tn_245 : T_245.1 = (81, 10238) := (n_setI T_244 80 0 (0 : Int32)).trans tn_244
def T_246 : mS := addC T_245 (100, 25) 25
theorem tn_246 : T_246.1 = (82, 10263) := n_addC tn_245
def T_247 : mS := setP T_246 80 1 (some 81)
theorem tn_247 : T_247.1 = (82, 10263) := (n_setP T_246 80 1 (some 81)).trans tn_246
def T_248 : mS := addC T_247 (100, 6) 6
theorem tn_248 : T_248.1 = (83, 10269) := n_addC tn_247
def T_249 : mS := setP T_248 80 2 (some 82)
theorem tn_249 : T_249.1 = (83, 10269) := (n_setP T_248 80 2 (some 82)).trans tn_248
def T_250 : mS := addC T_249 (100, 6) 6
theorem tn_250 : T_250.1 = (84, 10275) := n_addC tn_249
def T_251 : mS := setP T_250 80 3 (some 83)
theorem tn_251 : T_251.1 = (84, 10275) := (n_setP T_250 80 3 (some 83)).trans tn_250
def T_252 : mS := addC T_251 (100, 120) 120
theorem tn_252 : T_252.1 = (85, 10395) := n_addC tn_251
def T_253 : mS := setP T_252 80 4 (some 84)
theorem tn_253 : T_253.1 = (85, 10395) := (n_setP T_252 80 4 (some 84)).trans tn_252
def T_254 : mS := setI T_253 80 5 (0 : Int32)
theorem tn_254 : T_254.1 = (85, 10395) := (n_setI T_253 80 5 (0 : Int32)).trans tn_253
def T_255 : mS := setI T_254 80 6 (0 : Int32)
theorem tn_255 : T_255.1 = (85, 10395) := (n_setI T_254 80 6 (0 : Int32)).trans tn_254
def T_256 : mS := setP T_255 44 ((7 : Int32).toNatClampNeg) (some 80)
theorem tn_256 : T_256.1 = (85, 10395) := (n_setP T_255 44 ((7 : Int32).toNatClampNeg) (some 80)).trans tn_255
def T_257 : mS := addC T_256 (9, 0) 7
theorem tn_257 : T_257.1 = (86, 10402) := n_addC tn_256
def T_258 : mS := setI T_257 85 0 (0 : Int32)
theorem tn_258 : T_258.1 = (86, 10402) := (n_setI T_257 85 0 (0 : Int32)).trans tn_257
def T_259 : mS := addC T_258 (100, 25) 25
theorem tn_259 : T_259.1 = (87, 10427) := n_addC tn_258
def T_260 : mS := setP T_259 85 1 (some 86)
theorem tn_260 : T_260.1 = (87, 10427) := (n_setP T_259 85 1 (some 86)).trans tn_259
def T_261 : mS := addC T_260 (100, 6) 6
theorem tn_261 : T_261.1 = (88, 10433) := n_addC tn_260
def T_262 : mS := setP T_261 85 2 (some 87)
theorem tn_262 : T_262.1 = (88, 10433) := (n_setP T_261 85 2 (some 87)).trans tn_261
def T_263 : mS := addC T_262 (100, 6) 6
theorem tn_263 : T_263.1 = (89, 10439) := n_addC tn_262
def T_264 : mS := setP T_263 85 3 (some 88)
theorem tn_264 : T_264.1 = (89, 10439) := (n_setP T_263 85 3 (some 88)).trans tn_263
def T_265 : mS := addC T_264 (100, 120) 120
theorem tn_265 : T_265.1 = (90, 10559) := n_addC tn_264
def T_266 : mS := setP T_265 85 4 (some 89)
theorem tn_266 : T_266.1 = (90, 10559) := (n_setP T_265 85 4 (some 89)).trans tn_265
def T_267 : mS := setI T_266 85 5 (0 : Int32)
theorem tn_267 : T_267.1 = (90, 10559) := (n_setI T_266 85 5 (0 : Int32)).trans tn_266
def T_268 : mS := setI T_267 85 6 (0 : Int32)
theorem tn_268 : T_268.1 = (90, 10559) := (n_setI T_267 85 6 (0 : Int32)).trans tn_267
def T_269 : mS := setP T_268 44 ((8 : Int32).toNatClampNeg) (some 85)
theorem tn_269 : T_269.1 = (90, 10559) := (n_setP T_268 44 ((8 : Int32).toNatClampNeg) (some 85)).trans tn_268
def T_270 : mS := addC T_269 (9, 0) 7
theorem tn_270 : T_270.1 = (91, 10566) := n_addC tn_269
def T_271 : mS := setI T_270 90 0 (0 : Int32)
theorem tn_271 : T_271.1 = (91, 10566) := (n_setI T_270 90 0 (0 : Int32)).trans tn_270
def T_272 : mS := addC T_271 (100, 25) 25
theorem tn_272 : T_272.1 = (92, 10591) := n_addC tn_271
def T_273 : mS := setP T_272 90 1 (some 91)
theorem tn_273 : T_273.1 = (92, 10591) := (n_setP T_272 90 1 (some 91)).trans tn_272
def T_274 : mS := addC T_273 (100, 6) 6
theorem tn_274 : T_274.1 = (93, 10597) := n_addC tn_273
def T_275 : mS := setP T_274 90 2 (some 92)
theorem tn_275 : T_275.1 = (93, 10597) := (n_setP T_274 90 2 (some 92)).trans tn_274
def T_276 : mS := addC T_275 (100, 6) 6
theorem tn_276 : T_276.1 = (94, 10603) := n_addC tn_275
def T_277 : mS := setP T_276 90 3 (some 93)
theorem tn_277 : T_277.1 = (94, 10603) := (n_setP T_276 90 3 (some 93)).trans tn_276
def T_278 : mS := addC T_277 (100, 120) 120
theorem tn_278 : T_278.1 = (95, 10723) := n_addC tn_277
def T_279 : mS := setP T_278 90 4 (some 94)
theorem tn_279 : T_279.1 = (95, 10723) := (n_setP T_278 90 4 (some 94)).trans tn_278
def T_280 : mS := setI T_279 90 5 (0 : Int32)
theorem tn_280 : T_280.1 = (95, 10723) := (n_setI T_279 90 5 (0 : Int32)).trans tn_279
def T_281 : mS := setI T_280 90 6 (0 : Int32)
theorem tn_281 : T_281.1 = (95, 10723) := (n_setI T_280 90 6 (0 : Int32)).trans tn_280
def T_282 : mS := setP T_281 44 ((9 : Int32).toNatClampNeg) (some 90)
theorem tn_282 : T_282.1 = (95, 10723) := (n_setP T_281 44 ((9 : Int32).toNatClampNeg) (some 90)).trans tn_281
def T_283 : mS := addC T_282 (9, 0) 7
theorem tn_283 : T_283.1 = (96, 10730) := n_addC tn_282
def T_284 : mS := setI T_283 95 0 (0 : Int32)
theorem tn_284 : T_284.1 = (96, 10730) := (n_setI T_283 95 0 (0 : Int32)).trans tn_283
def T_285 : mS := addC T_284 (100, 25) 25
theorem tn_285 : T_285.1 = (97, 10755) := n_addC tn_284
def T_286 : mS := setP T_285 95 1 (some 96)
theorem tn_286 : T_286.1 = (97, 10755) := (n_setP T_285 95 1 (some 96)).trans tn_285
def T_287 : mS := addC T_286 (100, 6) 6
theorem tn_287 : T_287.1 = (98, 10761) := n_addC tn_286
def T_288 : mS := setP T_287 95 2 (some 97)
theorem tn_288 : T_288.1 = (98, 10761) := (n_setP T_287 95 2 (some 97)).trans tn_287
def T_289 : mS := addC T_288 (100, 6) 6
theorem tn_289 : T_289.1 = (99, 10767) := n_addC tn_288
def T_290 : mS := setP T_289 95 3 (some 98)
theorem tn_290 : T_290.1 = (99, 10767) := (n_setP T_289 95 3 (some 98)).trans tn_289
def T_291 : mS := addC T_290 (100, 120) 120
theorem tn_291 : T_291.1 = (100, 10887) := n_addC tn_290
def T_292 : mS := setP T_291 95 4 (some 99)
theorem tn_292 : T_292.1 = (100, 10887) := (n_setP T_291 95 4 (some 99)).trans tn_291
def T_293 : mS := setI T_292 95 5 (0 : Int32)
theorem tn_293 : T_293.1 = (100, 10887) := (n_setI T_292 95 5 (0 : Int32)).trans tn_292
def T_294 : mS := setI T_293 95 6 (0 : Int32)
theorem tn_294 : T_294.1 = (100, 10887) := (n_setI T_293 95 6 (0 : Int32)).trans tn_293
def T_295 : mS := setP T_294 44 ((10 : Int32).toNatClampNeg) (some 95)
theorem tn_295 : T_295.1 = (100, 10887) := (n_setP T_294 44 ((10 : Int32).toNatClampNeg) (some 95)).trans tn_294
def T_296 : mS := addC T_295 (9, 0) 7
theorem tn_296 : T_296.1 = (101, 10894) := n_addC tn_295
def T_297 : mS := setI T_296 100 0 (0 : Int32)
theorem tn_297 : T_297.1 = (101, 10894) := (n_setI T_296 100 0 (0 : Int32)).trans tn_296
def T_298 : mS := addC T_297 (100, 25) 25
theorem tn_298 : T_298.1 = (102, 10919) := n_addC tn_297
def T_299 : mS := setP T_298 100 1 (some 101)
theorem tn_299 : T_299.1 = (102, 10919) := (n_setP T_298 100 1 (some 101)).trans tn_298
def T_300 : mS := addC T_299 (100, 6) 6
theorem tn_300 : T_300.1 = (103, 10925) := n_addC tn_299
def T_301 : mS := setP T_300 100 2 (some 102)
theorem tn_301 : T_301.1 = (103, 10925) := (n_setP T_300 100 2 (some 102)).trans tn_300
def T_302 : mS := addC T_301 (100, 6) 6
theorem tn_302 : T_302.1 = (104, 10931) := n_addC tn_301
def T_303 : mS := setP T_302 100 3 (some 103)
theorem tn_303 : T_303.1 = (104, 10931) := (n_setP T_302 100 3 (some 103)).trans tn_302
def T_304 : mS := addC T_303 (100, 120) 120
theorem tn_304 : T_304.1 = (105, 11051) := n_addC tn_303
def T_305 : mS := setP T_304 100 4 (some 104)
theorem tn_305 : T_305.1 = (105, 11051) := (n_setP T_304 100 4 (some 104)).trans tn_304
def T_306 : mS := setI T_305 100 5 (0 : Int32)
theorem tn_306 : T_306.1 = (105, 11051) := (n_setI T_305 100 5 (0 : Int32)).trans tn_305
def T_307 : mS := setI T_306 100 6 (0 : Int32)
theorem tn_307 : T_307.1 = (105, 11051) := (n_setI T_306 100 6 (0 : Int32)).trans tn_306
def T_308 : mS := setP T_307 44 ((11 : Int32).toNatClampNeg) (some 100)
theorem tn_308 : T_308.1 = (105, 11051) := (n_setP T_307 44 ((11 : Int32).toNatClampNeg) (some 100)).trans tn_307
def T_309 : mS := addC T_308 (9, 0) 7
theorem tn_309 : T_309.1 = (106, 11058) := n_addC tn_308
def T_310 : mS := setI T_309 105 0 (0 : Int32)
theorem tn_310 : T_310.1 = (106, 11058) := (n_setI T_309 105 0 (0 : Int32)).trans tn_309
def T_311 : mS := addC T_310 (100, 25) 25
theorem tn_311 : T_311.1 = (107, 11083) := n_addC tn_310
def T_312 : mS := setP T_311 105 1 (some 106)
theorem tn_312 : T_312.1 = (107, 11083) := (n_setP T_311 105 1 (some 106)).trans tn_311
def T_313 : mS := addC T_312 (100, 6) 6
theorem tn_313 : T_313.1 = (108, 11089) := n_addC tn_312
def T_314 : mS := setP T_313 105 2 (some 107)
theorem tn_314 : T_314.1 = (108, 11089) := (n_setP T_313 105 2 (some 107)).trans tn_313
def T_315 : mS := addC T_314 (100, 6) 6
theorem tn_315 : T_315.1 = (109, 11095) := n_addC tn_314
def T_316 : mS := setP T_315 105 3 (some 108)
theorem tn_316 : T_316.1 = (109, 11095) := (n_setP T_315 105 3 (some 108)).trans tn_315
def T_317 : mS := addC T_316 (100, 120) 120
theorem tn_317 : T_317.1 = (110, 11215) := n_addC tn_316
def T_318 : mS := setP T_317 105 4 (some 109)
theorem tn_318 : T_318.1 = (110, 11215) := (n_setP T_317 105 4 (some 109)).trans tn_317
def T_319 : mS := setI T_318 105 5 (0 : Int32)
theorem tn_319 : T_319.1 = (110, 11215) := (n_setI T_318 105 5 (0 : Int32)).trans tn_318
def T_320 : mS := setI T_319 105 6 (0 : Int32)
theorem tn_320 : T_320.1 = (110, 11215) := (n_setI T_319 105 6 (0 : Int32)).trans tn_319
def T_321 : mS := setP T_320 44 ((12 : Int32).toNatClampNeg) (some 105)
theorem tn_321 : T_321.1 = (110, 11215) := (n_setP T_320 44 ((12 : Int32).toNatClampNeg) (some 105)).trans tn_320
def T_322 : mS := addC T_321 (9, 0) 7
theorem tn_322 : T_322.1 = (111, 11222) := n_addC tn_321
def T_323 : mS := setI T_322 110 0 (0 : Int32)
theorem tn_323 : T_323.1 = (111, 11222) := (n_setI T_322 110 0 (0 : Int32)).trans tn_322
def T_324 : mS := addC T_323 (100, 25) 25
theorem tn_324 : T_324.1 = (112, 11247) := n_addC tn_323
def T_325 : mS := setP T_324 110 1 (some 111)
theorem tn_325 : T_325.1 = (112, 11247) := (n_setP T_324 110 1 (some 111)).trans tn_324
def T_326 : mS := addC T_325 (100, 6) 6
theorem tn_326 : T_326.1 = (113, 11253) := n_addC tn_325
def T_327 : mS := setP T_326 110 2 (some 112)
theorem tn_327 : T_327.1 = (113, 11253) := (n_setP T_326 110 2 (some 112)).trans tn_326
def T_328 : mS := addC T_327 (100, 6) 6
theorem tn_328 : T_328.1 = (114, 11259) := n_addC tn_327
def T_329 : mS := setP T_328 110 3 (some 113)
theorem tn_329 : T_329.1 = (114, 11259) := (n_setP T_328 110 3 (some 113)).trans tn_328
def T_330 : mS := addC T_329 (100, 120) 120
theorem tn_330 : T_330.1 = (115, 11379) := n_addC tn_329
def T_331 : mS := setP T_330 110 4 (some 114)
theorem tn_331 : T_331.1 = (115, 11379) := (n_setP T_330 110 4 (some 114)).trans tn_330
def T_332 : mS := setI T_331 110 5 (0 : Int32)
theorem tn_332 : T_332.1 = (115, 11379) := (n_setI T_331 110 5 (0 : Int32)).trans tn_331
def T_333 : mS := setI T_332 110 6 (0 : Int32)
theorem tn_333 : T_333.1 = (115, 11379) := (n_setI T_332 110 6 (0 : Int32)).trans tn_332
def T_334 : mS := setP T_333 44 ((13 : Int32).toNatClampNeg) (some 110)
theorem tn_334 : T_334.1 = (115, 11379) := (n_setP T_333 44 ((13 : Int32).toNatClampNeg) (some 110)).trans tn_333
def T_335 : mS := addC T_334 (9, 0) 7
theorem tn_335 : T_335.1 = (116, 11386) := n_addC tn_334
def T_336 : mS := setI T_335 115 0 (0 : Int32)
theorem tn_336 : T_336.1 = (116, 11386) := (n_setI T_335 115 0 (0 : Int32)).trans tn_335
def T_337 : mS := addC T_336 (100, 25) 25
theorem tn_337 : T_337.1 = (117, 11411) := n_addC tn_336
def T_338 : mS := setP T_337 115 1 (some 116)
theorem tn_338 : T_338.1 = (117, 11411) := (n_setP T_337 115 1 (some 116)).trans tn_337
def T_339 : mS := addC T_338 (100, 6) 6
theorem tn_339 : T_339.1 = (118, 11417) := n_addC tn_338
def T_340 : mS := setP T_339 115 2 (some 117)
theorem tn_340 : T_340.1 = (118, 11417) := (n_setP T_339 115 2 (some 117)).trans tn_339
def T_341 : mS := addC T_340 (100, 6) 6
theorem tn_341 : T_341.1 = (119, 11423) := n_addC tn_340
def T_342 : mS := setP T_341 115 3 (some 118)
theorem tn_342 : T_342.1 = (119, 11423) := (n_setP T_341 115 3 (some 118)).trans tn_341
def T_343 : mS := addC T_342 (100, 120) 120
theorem tn_343 : T_343.1 = (120, 11543) := n_addC tn_342
def T_344 : mS := setP T_343 115 4 (some 119)
theorem tn_344 : T_344.1 = (120, 11543) := (n_setP T_343 115 4 (some 119)).trans tn_343
def T_345 : mS := setI T_344 115 5 (0 : Int32)
theorem tn_345 : T_345.1 = (120, 11543) := (n_setI T_344 115 5 (0 : Int32)).trans tn_344
def T_346 : mS := setI T_345 115 6 (0 : Int32)
theorem tn_346 : T_346.1 = (120, 11543) := (n_setI T_345 115 6 (0 : Int32)).trans tn_345
def T_347 : mS := setP T_346 44 ((14 : Int32).toNatClampNeg) (some 115)
theorem tn_347 : T_347.1 = (120, 11543) := (n_setP T_346 44 ((14 : Int32).toNatClampNeg) (some 115)).trans tn_346
def T_348 : mS := addC T_347 (9, 0) 7
theorem tn_348 : T_348.1 = (121, 11550) := n_addC tn_347
def T_349 : mS := setI T_348 120 0 (0 : Int32)
theorem tn_349 : T_349.1 = (121, 11550) := (n_setI T_348 120 0 (0 : Int32)).trans tn_348
def T_350 : mS := addC T_349 (100, 25) 25
theorem tn_350 : T_350.1 = (122, 11575) := n_addC tn_349
def T_351 : mS := setP T_350 120 1 (some 121)
theorem tn_351 : T_351.1 = (122, 11575) := (n_setP T_350 120 1 (some 121)).trans tn_350
def T_352 : mS := addC T_351 (100, 6) 6
theorem tn_352 : T_352.1 = (123, 11581) := n_addC tn_351
def T_353 : mS := setP T_352 120 2 (some 122)
theorem tn_353 : T_353.1 = (123, 11581) := (n_setP T_352 120 2 (some 122)).trans tn_352
def T_354 : mS := addC T_353 (100, 6) 6
theorem tn_354 : T_354.1 = (124, 11587) := n_addC tn_353
def T_355 : mS := setP T_354 120 3 (some 123)
theorem tn_355 : T_355.1 = (124, 11587) := (n_setP T_354 120 3 (some 123)).trans tn_354
def T_356 : mS := addC T_355 (100, 120) 120
theorem tn_356 : T_356.1 = (125, 11707) := n_addC tn_355
def T_357 : mS := setP T_356 120 4 (some 124)
theorem tn_357 : T_357.1 = (125, 11707) := (n_setP T_356 120 4 (some 124)).trans tn_356
def T_358 : mS := setI T_357 120 5 (0 : Int32)
theorem tn_358 : T_358.1 = (125, 11707) := (n_setI T_357 120 5 (0 : Int32)).trans tn_357
def T_359 : mS := setI T_358 120 6 (0 : Int32)
theorem tn_359 : T_359.1 = (125, 11707) := (n_setI T_358 120 6 (0 : Int32)).trans tn_358
def T_360 : mS := setP T_359 44 ((15 : Int32).toNatClampNeg) (some 120)
theorem tn_360 : T_360.1 = (125, 11707) := (n_setP T_359 44 ((15 : Int32).toNatClampNeg) (some 120)).trans tn_359
def T_361 : mS := addC T_360 (9, 0) 7
theorem tn_361 : T_361.1 = (126, 11714) := n_addC tn_360
def T_362 : mS := setI T_361 125 0 (0 : Int32)
theorem tn_362 : T_362.1 = (126, 11714) := (n_setI T_361 125 0 (0 : Int32)).trans tn_361
def T_363 : mS := addC T_362 (100, 25) 25
theorem tn_363 : T_363.1 = (127, 11739) := n_addC tn_362
def T_364 : mS := setP T_363 125 1 (some 126)
theorem tn_364 : T_364.1 = (127, 11739) := (n_setP T_363 125 1 (some 126)).trans tn_363
def T_365 : mS := addC T_364 (100, 6) 6
theorem tn_365 : T_365.1 = (128, 11745) := n_addC tn_364
def T_366 : mS := setP T_365 125 2 (some 127)
theorem tn_366 : T_366.1 = (128, 11745) := (n_setP T_365 125 2 (some 127)).trans tn_365
def T_367 : mS := addC T_366 (100, 6) 6
theorem tn_367 : T_367.1 = (129, 11751) := n_addC tn_366
def T_368 : mS := setP T_367 125 3 (some 128)
theorem tn_368 : T_368.1 = (129, 11751) := (n_setP T_367 125 3 (some 128)).trans tn_367
def T_369 : mS := addC T_368 (100, 120) 120
theorem tn_369 : T_369.1 = (130, 11871) := n_addC tn_368
def T_370 : mS := setP T_369 125 4 (some 129)
theorem tn_370 : T_370.1 = (130, 11871) := (n_setP T_369 125 4 (some 129)).trans tn_369
def T_371 : mS := setI T_370 125 5 (0 : Int32)
theorem tn_371 : T_371.1 = (130, 11871) := (n_setI T_370 125 5 (0 : Int32)).trans tn_370
def T_372 : mS := setI T_371 125 6 (0 : Int32)
theorem tn_372 : T_372.1 = (130, 11871) := (n_setI T_371 125 6 (0 : Int32)).trans tn_371
def T_373 : mS := setP T_372 44 ((16 : Int32).toNatClampNeg) (some 125)
theorem tn_373 : T_373.1 = (130, 11871) := (n_setP T_372 44 ((16 : Int32).toNatClampNeg) (some 125)).trans tn_372
def T_374 : mS := addC T_373 (9, 0) 7
theorem tn_374 : T_374.1 = (131, 11878) := n_addC tn_373
def T_375 : mS := setI T_374 130 0 (0 : Int32)
theorem tn_375 : T_375.1 = (131, 11878) := (n_setI T_374 130 0 (0 : Int32)).trans tn_374
def T_376 : mS := addC T_375 (100, 25) 25
theorem tn_376 : T_376.1 = (132, 11903) := n_addC tn_375
def T_377 : mS := setP T_376 130 1 (some 131)
theorem tn_377 : T_377.1 = (132, 11903) := (n_setP T_376 130 1 (some 131)).trans tn_376
def T_378 : mS := addC T_377 (100, 6) 6
theorem tn_378 : T_378.1 = (133, 11909) := n_addC tn_377
def T_379 : mS := setP T_378 130 2 (some 132)
theorem tn_379 : T_379.1 = (133, 11909) := (n_setP T_378 130 2 (some 132)).trans tn_378
def T_380 : mS := addC T_379 (100, 6) 6
theorem tn_380 : T_380.1 = (134, 11915) := n_addC tn_379
def T_381 : mS := setP T_380 130 3 (some 133)
theorem tn_381 : T_381.1 = (134, 11915) := (n_setP T_380 130 3 (some 133)).trans tn_380
def T_382 : mS := addC T_381 (100, 120) 120
theorem tn_382 : T_382.1 = (135, 12035) := n_addC tn_381
def T_383 : mS := setP T_382 130 4 (some 134)
theorem tn_383 : T_383.1 = (135, 12035) := (n_setP T_382 130 4 (some 134)).trans tn_382
def T_384 : mS := setI T_383 130 5 (0 : Int32)
theorem tn_384 : T_384.1 = (135, 12035) := (n_setI T_383 130 5 (0 : Int32)).trans tn_383
def T_385 : mS := setI T_384 130 6 (0 : Int32)
theorem tn_385 : T_385.1 = (135, 12035) := (n_setI T_384 130 6 (0 : Int32)).trans tn_384
def T_386 : mS := setP T_385 44 ((17 : Int32).toNatClampNeg) (some 130)
theorem tn_386 : T_386.1 = (135, 12035) := (n_setP T_385 44 ((17 : Int32).toNatClampNeg) (some 130)).trans tn_385
def T_387 : mS := addC T_386 (9, 0) 7
theorem tn_387 : T_387.1 = (136, 12042) := n_addC tn_386
def T_388 : mS := setI T_387 135 0 (0 : Int32)
theorem tn_388 : T_388.1 = (136, 12042) := (n_setI T_387 135 0 (0 : Int32)).trans tn_387
def T_389 : mS := addC T_388 (100, 25) 25
theorem tn_389 : T_389.1 = (137, 12067) := n_addC tn_388
def T_390 : mS := setP T_389 135 1 (some 136)
theorem tn_390 : T_390.1 = (137, 12067) := (n_setP T_389 135 1 (some 136)).trans tn_389
def T_391 : mS := addC T_390 (100, 6) 6
theorem tn_391 : T_391.1 = (138, 12073) := n_addC tn_390
def T_392 : mS := setP T_391 135 2 (some 137)
theorem tn_392 : T_392.1 = (138, 12073) := (n_setP T_391 135 2 (some 137)).trans tn_391
def T_393 : mS := addC T_392 (100, 6) 6
theorem tn_393 : T_393.1 = (139, 12079) := n_addC tn_392
def T_394 : mS := setP T_393 135 3 (some 138)
theorem tn_394 : T_394.1 = (139, 12079) := (n_setP T_393 135 3 (some 138)).trans tn_393
def T_395 : mS := addC T_394 (100, 120) 120
theorem tn_395 : T_395.1 = (140, 12199) := n_addC tn_394
def T_396 : mS := setP T_395 135 4 (some 139)
theorem tn_396 : T_396.1 = (140, 12199) := (n_setP T_395 135 4 (some 139)).trans tn_395
def T_397 : mS := setI T_396 135 5 (0 : Int32)
theorem tn_397 : T_397.1 = (140, 12199) := (n_setI T_396 135 5 (0 : Int32)).trans tn_396
def T_398 : mS := setI T_397 135 6 (0 : Int32)
theorem tn_398 : T_398.1 = (140, 12199) := (n_setI T_397 135 6 (0 : Int32)).trans tn_397
def T_399 : mS := setP T_398 44 ((18 : Int32).toNatClampNeg) (some 135)
theorem tn_399 : T_399.1 = (140, 12199) := (n_setP T_398 44 ((18 : Int32).toNatClampNeg) (some 135)).trans tn_398
def T_400 : mS := addC T_399 (9, 0) 7
theorem tn_400 : T_400.1 = (141, 12206) := n_addC tn_399
def T_401 : mS := setI T_400 140 0 (0 : Int32)
theorem tn_401 : T_401.1 = (141, 12206) := (n_setI T_400 140 0 (0 : Int32)).trans tn_400
def T_402 : mS := addC T_401 (100, 25) 25
theorem tn_402 : T_402.1 = (142, 12231) := n_addC tn_401
def T_403 : mS := setP T_402 140 1 (some 141)
theorem tn_403 : T_403.1 = (142, 12231) := (n_setP T_402 140 1 (some 141)).trans tn_402
def T_404 : mS := addC T_403 (100, 6) 6
theorem tn_404 : T_404.1 = (143, 12237) := n_addC tn_403
def T_405 : mS := setP T_404 140 2 (some 142)
theorem tn_405 : T_405.1 = (143, 12237) := (n_setP T_404 140 2 (some 142)).trans tn_404
def T_406 : mS := addC T_405 (100, 6) 6
theorem tn_406 : T_406.1 = (144, 12243) := n_addC tn_405
def T_407 : mS := setP T_406 140 3 (some 143)
theorem tn_407 : T_407.1 = (144, 12243) := (n_setP T_406 140 3 (some 143)).trans tn_406
def T_408 : mS := addC T_407 (100, 120) 120
theorem tn_408 : T_408.1 = (145, 12363) := n_addC tn_407
def T_409 : mS := setP T_408 140 4 (some 144)
theorem tn_409 : T_409.1 = (145, 12363) := (n_setP T_408 140 4 (some 144)).trans tn_408
def T_410 : mS := setI T_409 140 5 (0 : Int32)
theorem tn_410 : T_410.1 = (145, 12363) := (n_setI T_409 140 5 (0 : Int32)).trans tn_409
def T_411 : mS := setI T_410 140 6 (0 : Int32)
theorem tn_411 : T_411.1 = (145, 12363) := (n_setI T_410 140 6 (0 : Int32)).trans tn_410
def T_412 : mS := setP T_411 44 ((19 : Int32).toNatClampNeg) (some 140)
theorem tn_412 : T_412.1 = (145, 12363) := (n_setP T_411 44 ((19 : Int32).toNatClampNeg) (some 140)).trans tn_411
def T_413 : mS := setP T_412 0 8 (some 43)
theorem tn_413 : T_413.1 = (145, 12363) := (n_setP T_412 0 8 (some 43)).trans tn_412
def T_414 : mS := addC T_413 (0, 0) 2
theorem tn_414 : T_414.1 = (146, 12365) := n_addC tn_413
def T_415 : mS := addC T_414 (100, 36) 36
theorem tn_415 : T_415.1 = (147, 12401) := n_addC tn_414
def T_416 : mS := setP T_415 145 1 (some 146)
theorem tn_416 : T_416.1 = (147, 12401) := (n_setP T_415 145 1 (some 146)).trans tn_415
def T_417 : mS := setP T_416 145 0 (some 21)
theorem tn_417 : T_417.1 = (147, 12401) := (n_setP T_416 145 0 (some 21)).trans tn_416
def T_418 : mS := setP T_417 0 9 (some 145)
theorem tn_418 : T_418.1 = (147, 12401) := (n_setP T_417 0 9 (some 145)).trans tn_417
def T_419 : mS := addC T_418 (5, 0) 12
theorem tn_419 : T_419.1 = (148, 12413) := n_addC tn_418
def T_420 : mS := addC T_419 (9, 0) 7
theorem tn_420 : T_420.1 = (149, 12420) := n_addC tn_419
def T_421 : mS := setI T_420 148 0 (0 : Int32)
theorem tn_421 : T_421.1 = (149, 12420) := (n_setI T_420 148 0 (0 : Int32)).trans tn_420
def T_422 : mS := addC T_421 (100, 25) 25
theorem tn_422 : T_422.1 = (150, 12445) := n_addC tn_421
def T_423 : mS := setP T_422 148 1 (some 149)
theorem tn_423 : T_423.1 = (150, 12445) := (n_setP T_422 148 1 (some 149)).trans tn_422
def T_424 : mS := addC T_423 (100, 6) 6
theorem tn_424 : T_424.1 = (151, 12451) := n_addC tn_423
def T_425 : mS := setP T_424 148 2 (some 150)
theorem tn_425 : T_425.1 = (151, 12451) := (n_setP T_424 148 2 (some 150)).trans tn_424
def T_426 : mS := addC T_425 (100, 6) 6
theorem tn_426 : T_426.1 = (152, 12457) := n_addC tn_425
def T_427 : mS := setP T_426 148 3 (some 151)
theorem tn_427 : T_427.1 = (152, 12457) := (n_setP T_426 148 3 (some 151)).trans tn_426
def T_428 : mS := addC T_427 (100, 120) 120
theorem tn_428 : T_428.1 = (153, 12577) := n_addC tn_427
def T_429 : mS := setP T_428 148 4 (some 152)
theorem tn_429 : T_429.1 = (153, 12577) := (n_setP T_428 148 4 (some 152)).trans tn_428
def T_430 : mS := setI T_429 148 5 (0 : Int32)
theorem tn_430 : T_430.1 = (153, 12577) := (n_setI T_429 148 5 (0 : Int32)).trans tn_429
def T_431 : mS := setI T_430 148 6 (0 : Int32)
theorem tn_431 : T_431.1 = (153, 12577) := (n_setI T_430 148 6 (0 : Int32)).trans tn_430
def T_432 : mS := setP T_431 147 3 (some 148)
theorem tn_432 : T_432.1 = (153, 12577) := (n_setP T_431 147 3 (some 148)).trans tn_431
def T_433 : mS := addC T_432 (100, 3) 3
theorem tn_433 : T_433.1 = (154, 12580) := n_addC tn_432
def T_434 : mS := setP T_433 147 4 (some 153)
theorem tn_434 : T_434.1 = (154, 12580) := (n_setP T_433 147 4 (some 153)).trans tn_433
def T_435 : mS := addC T_434 (100, 6) 6
theorem tn_435 : T_435.1 = (155, 12586) := n_addC tn_434
def T_436 : mS := setP T_435 147 5 (some 154)
theorem tn_436 : T_436.1 = (155, 12586) := (n_setP T_435 147 5 (some 154)).trans tn_435
def T_437 : mS := addC T_436 (100, 48) 48
theorem tn_437 : T_437.1 = (156, 12634) := n_addC tn_436
def T_438 : mS := setP T_437 147 6 (some 155)
theorem tn_438 : T_438.1 = (156, 12634) := (n_setP T_437 147 6 (some 155)).trans tn_437
def T_439 : mS := setI T_438 147 7 (0 : Int32)
theorem tn_439 : T_439.1 = (156, 12634) := (n_setI T_438 147 7 (0 : Int32)).trans tn_438
def T_440 : mS := addC T_439 (100, 961) 961
theorem tn_440 : T_440.1 = (157, 13595) := n_addC tn_439
def T_441 : mS := setP T_440 147 8 (some 156)
theorem tn_441 : T_441.1 = (157, 13595) := (n_setP T_440 147 8 (some 156)).trans tn_440
def T_442 : mS := setI T_441 147 9 (-1 : Int32)
theorem tn_442 : T_442.1 = (157, 13595) := (n_setI T_441 147 9 (-1 : Int32)).trans tn_441
def T_443 : mS := setI T_442 147 10 (-1 : Int32)
theorem tn_443 : T_443.1 = (157, 13595) := (n_setI T_442 147 10 (-1 : Int32)).trans tn_442
def T_444 : mS := setI T_443 147 11 (-1 : Int32)
theorem tn_444 : T_444.1 = (157, 13595) := (n_setI T_443 147 11 (-1 : Int32)).trans tn_443
def T_445 : mS := setP T_444 147 0 (some 21)
theorem tn_445 : T_445.1 = (157, 13595) := (n_setP T_444 147 0 (some 21)).trans tn_444
def T_446 : mS := setP T_445 147 1 (some 145)
theorem tn_446 : T_446.1 = (157, 13595) := (n_setP T_445 147 1 (some 145)).trans tn_445
def T_447 : mS := setP T_446 147 2 (some 38)
theorem tn_447 : T_447.1 = (157, 13595) := (n_setP T_446 147 2 (some 38)).trans tn_446
def T_448 : mS := setP T_447 0 10 (some 147)
theorem tn_448 : T_448.1 = (157, 13595) := (n_setP T_447 0 10 (some 147)).trans tn_447
def T_449 : mS := addC T_448 (2, 0) 3
theorem tn_449 : T_449.1 = (158, 13598) := n_addC tn_448
def T_450 : mS := addC T_449 (100, 1600) 1600
theorem tn_450 : T_450.1 = (159, 15198) := n_addC tn_449
def T_451 : mS := setP T_450 157 0 (some 158)
theorem tn_451 : T_451.1 = (159, 15198) := (n_setP T_450 157 0 (some 158)).trans tn_450
def T_452 : mS := addC T_451 (100, 64) 64
theorem tn_452 : T_452.1 = (160, 15262) := n_addC tn_451
def T_453 : mS := setP T_452 157 1 (some 159)
theorem tn_453 : T_453.1 = (160, 15262) := (n_setP T_452 157 1 (some 159)).trans tn_452
def T_454 : mS := setI T_453 157 2 (0 : Int32)
theorem tn_454 : T_454.1 = (160, 15262) := (n_setI T_453 157 2 (0 : Int32)).trans tn_453
def T_455 : mS := setP T_454 0 11 (some 157)
theorem tn_455 : T_455.1 = (160, 15262) := (n_setP T_454 0 11 (some 157)).trans tn_454
def T_456 : mS := addC T_455 (100, 36) 36
theorem tn_456 : T_456.1 = (161, 15298) := n_addC tn_455
def T_457 : mS := setP T_456 0 12 (some 160)
theorem tn_457 : T_457.1 = (161, 15298) := (n_setP T_456 0 12 (some 160)).trans tn_456
def T_458 : mS := addC T_457 (100, 69) 69
theorem tn_458 : T_458.1 = (162, 15367) := n_addC tn_457
def T_459 : mS := setP T_458 0 13 (some 161)
theorem tn_459 : T_459.1 = (162, 15367) := (n_setP T_458 0 13 (some 161)).trans tn_458
def T_460 : mS := setI T_459 0 14 (0 : Int32)
theorem tn_460 : T_460.1 = (162, 15367) := (n_setI T_459 0 14 (0 : Int32)).trans tn_459
def T_461 : mS := setI T_460 0 15 (1 : Int32)
theorem tn_461 : T_461.1 = (162, 15367) := (n_setI T_460 0 15 (1 : Int32)).trans tn_460
def T_462 : mS := setI T_461 0 16 (0 : Int32)
theorem tn_462 : T_462.1 = (162, 15367) := (n_setI T_461 0 16 (0 : Int32)).trans tn_461
def T_463 : mS := setI T_462 0 17 (-1 : Int32)
theorem tn_463 : T_463.1 = (162, 15367) := (n_setI T_462 0 17 (-1 : Int32)).trans tn_462
def T_464 : mS := addC T_463 (12, 0) 112
theorem tn_464 : T_464.1 = (163, 15479) := n_addC tn_463
def T_465 : mS := addC T_464 (100, 1600) 1600
theorem tn_465 : T_465.1 = (164, 17079) := n_addC tn_464
def T_466 : mS := setP T_465 162 0 (some 163)
theorem tn_466 : T_466.1 = (164, 17079) := (n_setP T_465 162 0 (some 163)).trans tn_465
def T_467 : mS := setI T_466 162 8 (-1 : Int32)
theorem tn_467 : T_467.1 = (164, 17079) := (n_setI T_466 162 8 (-1 : Int32)).trans tn_466
def T_468 : mS := addC T_467 (100, 6) 6
theorem tn_468 : T_468.1 = (165, 17085) := n_addC tn_467
def T_469 : mS := setP T_468 162 9 (some 164)
theorem tn_469 : T_469.1 = (165, 17085) := (n_setP T_468 162 9 (some 164)).trans tn_468
def T_470 : mS := addC T_469 (102, 6) 6
theorem tn_470 : T_470.1 = (166, 17091) := n_addC tn_469
def T_471 : mS := setI T_470 165 ((0 : Int32).toNatClampNeg) (vp_nar .char (102 : Int32))
theorem tn_471 : T_471.1 = (166, 17091) := (n_setI T_470 165 ((0 : Int32).toNatClampNeg) (vp_nar .char (102 : Int32))).trans tn_470
def T_472 : mS := setI T_471 165 ((1 : Int32).toNatClampNeg) (vp_nar .char (105 : Int32))
theorem tn_472 : T_472.1 = (166, 17091) := (n_setI T_471 165 ((1 : Int32).toNatClampNeg) (vp_nar .char (105 : Int32))).trans tn_471
def T_473 : mS := setI T_472 165 ((2 : Int32).toNatClampNeg) (vp_nar .char (110 : Int32))
theorem tn_473 : T_473.1 = (166, 17091) := (n_setI T_472 165 ((2 : Int32).toNatClampNeg) (vp_nar .char (110 : Int32))).trans tn_472
def T_474 : mS := setI T_473 165 ((3 : Int32).toNatClampNeg) (vp_nar .char (101 : Int32))
theorem tn_474 : T_474.1 = (166, 17091) := (n_setI T_473 165 ((3 : Int32).toNatClampNeg) (vp_nar .char (101 : Int32))).trans tn_473
def T_475 : mS := setI T_474 165 ((4 : Int32).toNatClampNeg) (vp_nar .char (115 : Int32))
theorem tn_475 : T_475.1 = (166, 17091) := (n_setI T_474 165 ((4 : Int32).toNatClampNeg) (vp_nar .char (115 : Int32))).trans tn_474
def T_476 : mS := setI T_475 165 ((5 : Int32).toNatClampNeg) (vp_nar .char (116 : Int32))
theorem tn_476 : T_476.1 = (166, 17091) := (n_setI T_475 165 ((5 : Int32).toNatClampNeg) (vp_nar .char (116 : Int32))).trans tn_475
def T_477 : mS := setP T_476 162 11 (some 165)
theorem tn_477 : T_477.1 = (166, 17091) := (n_setP T_476 162 11 (some 165)).trans tn_476
def T_478 : mS := addC T_477 (102, 4) 4
theorem tn_478 : T_478.1 = (167, 17095) := n_addC tn_477
def T_479 : mS := setI T_478 166 ((0 : Int32).toNatClampNeg) (vp_nar .char (109 : Int32))
theorem tn_479 : T_479.1 = (167, 17095) := (n_setI T_478 166 ((0 : Int32).toNatClampNeg) (vp_nar .char (109 : Int32))).trans tn_478
def T_480 : mS := setI T_479 166 ((1 : Int32).toNatClampNeg) (vp_nar .char (111 : Int32))
theorem tn_480 : T_480.1 = (167, 17095) := (n_setI T_479 166 ((1 : Int32).toNatClampNeg) (vp_nar .char (111 : Int32))).trans tn_479
def T_481 : mS := setI T_480 166 ((2 : Int32).toNatClampNeg) (vp_nar .char (115 : Int32))
theorem tn_481 : T_481.1 = (167, 17095) := (n_setI T_480 166 ((2 : Int32).toNatClampNeg) (vp_nar .char (115 : Int32))).trans tn_480
def T_482 : mS := setI T_481 166 ((3 : Int32).toNatClampNeg) (vp_nar .char (116 : Int32))
theorem tn_482 : T_482.1 = (167, 17095) := (n_setI T_481 166 ((3 : Int32).toNatClampNeg) (vp_nar .char (116 : Int32))).trans tn_481
def T_483 : mS := setP T_482 162 12 (some 166)
theorem tn_483 : T_483.1 = (167, 17095) := (n_setP T_482 162 12 (some 166)).trans tn_482
def T_484 : mS := addC T_483 (102, 6) 6
theorem tn_484 : T_484.1 = (168, 17101) := n_addC tn_483
def T_485 : mS := setI T_484 167 ((0 : Int32).toNatClampNeg) (vp_nar .char (112 : Int32))
theorem tn_485 : T_485.1 = (168, 17101) := (n_setI T_484 167 ((0 : Int32).toNatClampNeg) (vp_nar .char (112 : Int32))).trans tn_484
def T_486 : mS := setI T_485 167 ((1 : Int32).toNatClampNeg) (vp_nar .char (101 : Int32))
theorem tn_486 : T_486.1 = (168, 17101) := (n_setI T_485 167 ((1 : Int32).toNatClampNeg) (vp_nar .char (101 : Int32))).trans tn_485
def T_487 : mS := setI T_486 167 ((2 : Int32).toNatClampNeg) (vp_nar .char (114 : Int32))
theorem tn_487 : T_487.1 = (168, 17101) := (n_setI T_486 167 ((2 : Int32).toNatClampNeg) (vp_nar .char (114 : Int32))).trans tn_486
def T_488 : mS := setI T_487 167 ((3 : Int32).toNatClampNeg) (vp_nar .char (115 : Int32))
theorem tn_488 : T_488.1 = (168, 17101) := (n_setI T_487 167 ((3 : Int32).toNatClampNeg) (vp_nar .char (115 : Int32))).trans tn_487
def T_489 : mS := setI T_488 167 ((4 : Int32).toNatClampNeg) (vp_nar .char (111 : Int32))
theorem tn_489 : T_489.1 = (168, 17101) := (n_setI T_488 167 ((4 : Int32).toNatClampNeg) (vp_nar .char (111 : Int32))).trans tn_488
def T_490 : mS := setI T_489 167 ((5 : Int32).toNatClampNeg) (vp_nar .char (110 : Int32))
theorem tn_490 : T_490.1 = (168, 17101) := (n_setI T_489 167 ((5 : Int32).toNatClampNeg) (vp_nar .char (110 : Int32))).trans tn_489
def T_491 : mS := setP T_490 162 13 (some 167)
theorem tn_491 : T_491.1 = (168, 17101) := (n_setP T_490 162 13 (some 167)).trans tn_490
def T_492 : mS := addC T_491 (102, 3) 3
theorem tn_492 : T_492.1 = (169, 17104) := n_addC tn_491
def T_493 : mS := setI T_492 168 ((0 : Int32).toNatClampNeg) (vp_nar .char (100 : Int32))
theorem tn_493 : T_493.1 = (169, 17104) := (n_setI T_492 168 ((0 : Int32).toNatClampNeg) (vp_nar .char (100 : Int32))).trans tn_492
def T_494 : mS := setI T_493 168 ((1 : Int32).toNatClampNeg) (vp_nar .char (117 : Int32))
theorem tn_494 : T_494.1 = (169, 17104) := (n_setI T_493 168 ((1 : Int32).toNatClampNeg) (vp_nar .char (117 : Int32))).trans tn_493
def T_495 : mS := setI T_494 168 ((2 : Int32).toNatClampNeg) (vp_nar .char (101 : Int32))
theorem tn_495 : T_495.1 = (169, 17104) := (n_setI T_494 168 ((2 : Int32).toNatClampNeg) (vp_nar .char (101 : Int32))).trans tn_494
def T_496 : mS := setP T_495 162 14 (some 168)
theorem tn_496 : T_496.1 = (169, 17104) := (n_setP T_495 162 14 (some 168)).trans tn_495
def T_497 : mS := addC T_496 (102, 2) 2
theorem tn_497 : T_497.1 = (170, 17106) := n_addC tn_496
def T_498 : mS := setI T_497 169 ((0 : Int32).toNatClampNeg) (vp_nar .char (111 : Int32))
theorem tn_498 : T_498.1 = (170, 17106) := (n_setI T_497 169 ((0 : Int32).toNatClampNeg) (vp_nar .char (111 : Int32))).trans tn_497
def T_499 : mS := setI T_498 169 ((1 : Int32).toNatClampNeg) (vp_nar .char (102 : Int32))
theorem tn_499 : T_499.1 = (170, 17106) := (n_setI T_498 169 ((1 : Int32).toNatClampNeg) (vp_nar .char (102 : Int32))).trans tn_498
def T_500 : mS := setP T_499 162 15 (some 169)
theorem tn_500 : T_500.1 = (170, 17106) := (n_setP T_499 162 15 (some 169)).trans tn_499
def T_501 : mS := addC T_500 (102, 4) 4
theorem tn_501 : T_501.1 = (171, 17110) := n_addC tn_500
def T_502 : mS := setI T_501 170 ((0 : Int32).toNatClampNeg) (vp_nar .char (104 : Int32))
theorem tn_502 : T_502.1 = (171, 17110) := (n_setI T_501 170 ((0 : Int32).toNatClampNeg) (vp_nar .char (104 : Int32))).trans tn_501
def T_503 : mS := setI T_502 170 ((1 : Int32).toNatClampNeg) (vp_nar .char (97 : Int32))
theorem tn_503 : T_503.1 = (171, 17110) := (n_setI T_502 170 ((1 : Int32).toNatClampNeg) (vp_nar .char (97 : Int32))).trans tn_502
def T_504 : mS := setI T_503 170 ((2 : Int32).toNatClampNeg) (vp_nar .char (118 : Int32))
theorem tn_504 : T_504.1 = (171, 17110) := (n_setI T_503 170 ((2 : Int32).toNatClampNeg) (vp_nar .char (118 : Int32))).trans tn_503
def T_505 : mS := setI T_504 170 ((3 : Int32).toNatClampNeg) (vp_nar .char (101 : Int32))
theorem tn_505 : T_505.1 = (171, 17110) := (n_setI T_504 170 ((3 : Int32).toNatClampNeg) (vp_nar .char (101 : Int32))).trans tn_504
def T_506 : mS := setP T_505 162 16 (some 170)
theorem tn_506 : T_506.1 = (171, 17110) := (n_setP T_505 162 16 (some 170)).trans tn_505
def T_507 : mS := addC T_506 (102, 2) 2
theorem tn_507 : T_507.1 = (172, 17112) := n_addC tn_506
def T_508 : mS := setI T_507 171 ((0 : Int32).toNatClampNeg) (vp_nar .char (98 : Int32))
theorem tn_508 : T_508.1 = (172, 17112) := (n_setI T_507 171 ((0 : Int32).toNatClampNeg) (vp_nar .char (98 : Int32))).trans tn_507
def T_509 : mS := setI T_508 171 ((1 : Int32).toNatClampNeg) (vp_nar .char (121 : Int32))
theorem tn_509 : T_509.1 = (172, 17112) := (n_setI T_508 171 ((1 : Int32).toNatClampNeg) (vp_nar .char (121 : Int32))).trans tn_508
def T_510 : mS := setP T_509 162 17 (some 171)
theorem tn_510 : T_510.1 = (172, 17112) := (n_setP T_509 162 17 (some 171)).trans tn_509
def T_511 : mS := addC T_510 (102, 5) 5
theorem tn_511 : T_511.1 = (173, 17117) := n_addC tn_510
def T_512 : mS := setI T_511 172 ((0 : Int32).toNatClampNeg) (vp_nar .char (98 : Int32))
theorem tn_512 : T_512.1 = (173, 17117) := (n_setI T_511 172 ((0 : Int32).toNatClampNeg) (vp_nar .char (98 : Int32))).trans tn_511
def T_513 : mS := setI T_512 172 ((1 : Int32).toNatClampNeg) (vp_nar .char (97 : Int32))
theorem tn_513 : T_513.1 = (173, 17117) := (n_setI T_512 172 ((1 : Int32).toNatClampNeg) (vp_nar .char (97 : Int32))).trans tn_512
def T_514 : mS := setI T_513 172 ((2 : Int32).toNatClampNeg) (vp_nar .char (107 : Int32))
theorem tn_514 : T_514.1 = (173, 17117) := (n_setI T_513 172 ((2 : Int32).toNatClampNeg) (vp_nar .char (107 : Int32))).trans tn_513
def T_515 : mS := setI T_514 172 ((3 : Int32).toNatClampNeg) (vp_nar .char (101 : Int32))
theorem tn_515 : T_515.1 = (173, 17117) := (n_setI T_514 172 ((3 : Int32).toNatClampNeg) (vp_nar .char (101 : Int32))).trans tn_514
def T_516 : mS := setI T_515 172 ((4 : Int32).toNatClampNeg) (vp_nar .char (115 : Int32))
theorem tn_516 : T_516.1 = (173, 17117) := (n_setI T_515 172 ((4 : Int32).toNatClampNeg) (vp_nar .char (115 : Int32))).trans tn_515
def T_517 : mS := setP T_516 162 18 (some 172)
theorem tn_517 : T_517.1 = (173, 17117) := (n_setP T_516 162 18 (some 172)).trans tn_516
def T_518 : mS := addC T_517 (102, 5) 5
theorem tn_518 : T_518.1 = (174, 17122) := n_addC tn_517
def T_519 : mS := setI T_518 173 ((0 : Int32).toNatClampNeg) (vp_nar .char (99 : Int32))
theorem tn_519 : T_519.1 = (174, 17122) := (n_setI T_518 173 ((0 : Int32).toNatClampNeg) (vp_nar .char (99 : Int32))).trans tn_518
def T_520 : mS := setI T_519 173 ((1 : Int32).toNatClampNeg) (vp_nar .char (111 : Int32))
theorem tn_520 : T_520.1 = (174, 17122) := (n_setI T_519 173 ((1 : Int32).toNatClampNeg) (vp_nar .char (111 : Int32))).trans tn_519
def T_521 : mS := setI T_520 173 ((2 : Int32).toNatClampNeg) (vp_nar .char (115 : Int32))
theorem tn_521 : T_521.1 = (174, 17122) := (n_setI T_520 173 ((2 : Int32).toNatClampNeg) (vp_nar .char (115 : Int32))).trans tn_520
def T_522 : mS := setI T_521 173 ((3 : Int32).toNatClampNeg) (vp_nar .char (116 : Int32))
theorem tn_522 : T_522.1 = (174, 17122) := (n_setI T_521 173 ((3 : Int32).toNatClampNeg) (vp_nar .char (116 : Int32))).trans tn_521
def T_523 : mS := setI T_522 173 ((4 : Int32).toNatClampNeg) (vp_nar .char (115 : Int32))
theorem tn_523 : T_523.1 = (174, 17122) := (n_setI T_522 173 ((4 : Int32).toNatClampNeg) (vp_nar .char (115 : Int32))).trans tn_522
def T_524 : mS := setP T_523 162 19 (some 173)
theorem tn_524 : T_524.1 = (174, 17122) := (n_setP T_523 162 19 (some 173)).trans tn_523
def T_525 : mS := addC T_524 (102, 5) 5
theorem tn_525 : T_525.1 = (175, 17127) := n_addC tn_524
def T_526 : mS := setI T_525 174 ((0 : Int32).toNatClampNeg) (vp_nar .char (108 : Int32))
theorem tn_526 : T_526.1 = (175, 17127) := (n_setI T_525 174 ((0 : Int32).toNatClampNeg) (vp_nar .char (108 : Int32))).trans tn_525
def T_527 : mS := setI T_526 174 ((1 : Int32).toNatClampNeg) (vp_nar .char (105 : Int32))
theorem tn_527 : T_527.1 = (175, 17127) := (n_setI T_526 174 ((1 : Int32).toNatClampNeg) (vp_nar .char (105 : Int32))).trans tn_526
def T_528 : mS := setI T_527 174 ((2 : Int32).toNatClampNeg) (vp_nar .char (107 : Int32))
theorem tn_528 : T_528.1 = (175, 17127) := (n_setI T_527 174 ((2 : Int32).toNatClampNeg) (vp_nar .char (107 : Int32))).trans tn_527
def T_529 : mS := setI T_528 174 ((3 : Int32).toNatClampNeg) (vp_nar .char (101 : Int32))
theorem tn_529 : T_529.1 = (175, 17127) := (n_setI T_528 174 ((3 : Int32).toNatClampNeg) (vp_nar .char (101 : Int32))).trans tn_528
def T_530 : mS := setI T_529 174 ((4 : Int32).toNatClampNeg) (vp_nar .char (115 : Int32))
theorem tn_530 : T_530.1 = (175, 17127) := (n_setI T_529 174 ((4 : Int32).toNatClampNeg) (vp_nar .char (115 : Int32))).trans tn_529
def T_531 : mS := setP T_530 162 20 (some 174)
theorem tn_531 : T_531.1 = (175, 17127) := (n_setP T_530 162 20 (some 174)).trans tn_530
def T_532 : mS := addC T_531 (102, 4) 4
theorem tn_532 : T_532.1 = (176, 17131) := n_addC tn_531
def T_533 : mS := setI T_532 175 ((0 : Int32).toNatClampNeg) (vp_nar .char (109 : Int32))
theorem tn_533 : T_533.1 = (176, 17131) := (n_setI T_532 175 ((0 : Int32).toNatClampNeg) (vp_nar .char (109 : Int32))).trans tn_532
def T_534 : mS := setI T_533 175 ((1 : Int32).toNatClampNeg) (vp_nar .char (105 : Int32))
theorem tn_534 : T_534.1 = (176, 17131) := (n_setI T_533 175 ((1 : Int32).toNatClampNeg) (vp_nar .char (105 : Int32))).trans tn_533
def T_535 : mS := setI T_534 175 ((2 : Int32).toNatClampNeg) (vp_nar .char (99 : Int32))
theorem tn_535 : T_535.1 = (176, 17131) := (n_setI T_534 175 ((2 : Int32).toNatClampNeg) (vp_nar .char (99 : Int32))).trans tn_534
def T_536 : mS := setI T_535 175 ((3 : Int32).toNatClampNeg) (vp_nar .char (101 : Int32))
theorem tn_536 : T_536.1 = (176, 17131) := (n_setI T_535 175 ((3 : Int32).toNatClampNeg) (vp_nar .char (101 : Int32))).trans tn_535
def T_537 : mS := setP T_536 162 21 (some 175)
theorem tn_537 : T_537.1 = (176, 17131) := (n_setP T_536 162 21 (some 175)).trans tn_536
def T_538 : mS := addC T_537 (102, 4) 4
theorem tn_538 : T_538.1 = (177, 17135) := n_addC tn_537
def T_539 : mS := setI T_538 176 ((0 : Int32).toNatClampNeg) (vp_nar .char (115 : Int32))
theorem tn_539 : T_539.1 = (177, 17135) := (n_setI T_538 176 ((0 : Int32).toNatClampNeg) (vp_nar .char (115 : Int32))).trans tn_538
def T_540 : mS := setI T_539 176 ((1 : Int32).toNatClampNeg) (vp_nar .char (105 : Int32))
theorem tn_540 : T_540.1 = (177, 17135) := (n_setI T_539 176 ((1 : Int32).toNatClampNeg) (vp_nar .char (105 : Int32))).trans tn_539
def T_541 : mS := setI T_540 176 ((2 : Int32).toNatClampNeg) (vp_nar .char (122 : Int32))
theorem tn_541 : T_541.1 = (177, 17135) := (n_setI T_540 176 ((2 : Int32).toNatClampNeg) (vp_nar .char (122 : Int32))).trans tn_540
def T_542 : mS := setI T_541 176 ((3 : Int32).toNatClampNeg) (vp_nar .char (101 : Int32))
theorem tn_542 : T_542.1 = (177, 17135) := (n_setI T_541 176 ((3 : Int32).toNatClampNeg) (vp_nar .char (101 : Int32))).trans tn_541
def T_543 : mS := setP T_542 162 22 (some 176)
theorem tn_543 : T_543.1 = (177, 17135) := (n_setP T_542 162 22 (some 176)).trans tn_542
def T_544 : mS := addC T_543 (102, 5) 5
theorem tn_544 : T_544.1 = (178, 17140) := n_addC tn_543
def T_545 : mS := setI T_544 177 ((0 : Int32).toNatClampNeg) (vp_nar .char (115 : Int32))
theorem tn_545 : T_545.1 = (178, 17140) := (n_setI T_544 177 ((0 : Int32).toNatClampNeg) (vp_nar .char (115 : Int32))).trans tn_544
def T_546 : mS := setI T_545 177 ((1 : Int32).toNatClampNeg) (vp_nar .char (116 : Int32))
theorem tn_546 : T_546.1 = (178, 17140) := (n_setI T_545 177 ((1 : Int32).toNatClampNeg) (vp_nar .char (116 : Int32))).trans tn_545
def T_547 : mS := setI T_546 177 ((2 : Int32).toNatClampNeg) (vp_nar .char (111 : Int32))
theorem tn_547 : T_547.1 = (178, 17140) := (n_setI T_546 177 ((2 : Int32).toNatClampNeg) (vp_nar .char (111 : Int32))).trans tn_546
def T_548 : mS := setI T_547 177 ((3 : Int32).toNatClampNeg) (vp_nar .char (99 : Int32))
theorem tn_548 : T_548.1 = (178, 17140) := (n_setI T_547 177 ((3 : Int32).toNatClampNeg) (vp_nar .char (99 : Int32))).trans tn_547
def T_549 : mS := setI T_548 177 ((4 : Int32).toNatClampNeg) (vp_nar .char (107 : Int32))
theorem tn_549 : T_549.1 = (178, 17140) := (n_setI T_548 177 ((4 : Int32).toNatClampNeg) (vp_nar .char (107 : Int32))).trans tn_548
def T_550 : mS := setP T_549 162 23 (some 177)
theorem tn_550 : T_550.1 = (178, 17140) := (n_setP T_549 162 23 (some 177)).trans tn_549
def T_551 : mS := addC T_550 (102, 5) 5
theorem tn_551 : T_551.1 = (179, 17145) := n_addC tn_550
def T_552 : mS := setI T_551 178 ((0 : Int32).toNatClampNeg) (vp_nar .char (112 : Int32))
theorem tn_552 : T_552.1 = (179, 17145) := (n_setI T_551 178 ((0 : Int32).toNatClampNeg) (vp_nar .char (112 : Int32))).trans tn_551
def T_553 : mS := setI T_552 178 ((1 : Int32).toNatClampNeg) (vp_nar .char (108 : Int32))
theorem tn_553 : T_553.1 = (179, 17145) := (n_setI T_552 178 ((1 : Int32).toNatClampNeg) (vp_nar .char (108 : Int32))).trans tn_552
def T_554 : mS := setI T_553 178 ((2 : Int32).toNatClampNeg) (vp_nar .char (97 : Int32))
theorem tn_554 : T_554.1 = (179, 17145) := (n_setI T_553 178 ((2 : Int32).toNatClampNeg) (vp_nar .char (97 : Int32))).trans tn_553
def T_555 : mS := setI T_554 178 ((3 : Int32).toNatClampNeg) (vp_nar .char (99 : Int32))
theorem tn_555 : T_555.1 = (179, 17145) := (n_setI T_554 178 ((3 : Int32).toNatClampNeg) (vp_nar .char (99 : Int32))).trans tn_554
def T_556 : mS := setI T_555 178 ((4 : Int32).toNatClampNeg) (vp_nar .char (101 : Int32))
theorem tn_556 : T_556.1 = (179, 17145) := (n_setI T_555 178 ((4 : Int32).toNatClampNeg) (vp_nar .char (101 : Int32))).trans tn_555
def T_557 : mS := setP T_556 162 24 (some 178)
theorem tn_557 : T_557.1 = (179, 17145) := (n_setP T_556 162 24 (some 178)).trans tn_556
def T_558 : mS := addC T_557 (102, 3) 3
theorem tn_558 : T_558.1 = (180, 17148) := n_addC tn_557
def T_559 : mS := setI T_558 179 ((0 : Int32).toNatClampNeg) (vp_nar .char (100 : Int32))
theorem tn_559 : T_559.1 = (180, 17148) := (n_setI T_558 179 ((0 : Int32).toNatClampNeg) (vp_nar .char (100 : Int32))).trans tn_558
def T_560 : mS := setI T_559 179 ((1 : Int32).toNatClampNeg) (vp_nar .char (97 : Int32))
theorem tn_560 : T_560.1 = (180, 17148) := (n_setI T_559 179 ((1 : Int32).toNatClampNeg) (vp_nar .char (97 : Int32))).trans tn_559
def T_561 : mS := setI T_560 179 ((2 : Int32).toNatClampNeg) (vp_nar .char (121 : Int32))
theorem tn_561 : T_561.1 = (180, 17148) := (n_setI T_560 179 ((2 : Int32).toNatClampNeg) (vp_nar .char (121 : Int32))).trans tn_560
def T_562 : mS := setP T_561 162 25 (some 179)
theorem tn_562 : T_562.1 = (180, 17148) := (n_setP T_561 162 25 (some 179)).trans tn_561
def T_563 : mS := addC T_562 (102, 6) 6
theorem tn_563 : T_563.1 = (181, 17154) := n_addC tn_562
def T_564 : mS := setI T_563 180 ((0 : Int32).toNatClampNeg) (vp_nar .char (104 : Int32))
theorem tn_564 : T_564.1 = (181, 17154) := (n_setI T_563 180 ((0 : Int32).toNatClampNeg) (vp_nar .char (104 : Int32))).trans tn_563
def T_565 : mS := setI T_564 180 ((1 : Int32).toNatClampNeg) (vp_nar .char (117 : Int32))
theorem tn_565 : T_565.1 = (181, 17154) := (n_setI T_564 180 ((1 : Int32).toNatClampNeg) (vp_nar .char (117 : Int32))).trans tn_564
def T_566 : mS := setI T_565 180 ((2 : Int32).toNatClampNeg) (vp_nar .char (110 : Int32))
theorem tn_566 : T_566.1 = (181, 17154) := (n_setI T_565 180 ((2 : Int32).toNatClampNeg) (vp_nar .char (110 : Int32))).trans tn_565
def T_567 : mS := setI T_566 180 ((3 : Int32).toNatClampNeg) (vp_nar .char (103 : Int32))
theorem tn_567 : T_567.1 = (181, 17154) := (n_setI T_566 180 ((3 : Int32).toNatClampNeg) (vp_nar .char (103 : Int32))).trans tn_566
def T_568 : mS := setI T_567 180 ((4 : Int32).toNatClampNeg) (vp_nar .char (101 : Int32))
theorem tn_568 : T_568.1 = (181, 17154) := (n_setI T_567 180 ((4 : Int32).toNatClampNeg) (vp_nar .char (101 : Int32))).trans tn_567
def T_569 : mS := setI T_568 180 ((5 : Int32).toNatClampNeg) (vp_nar .char (114 : Int32))
theorem tn_569 : T_569.1 = (181, 17154) := (n_setI T_568 180 ((5 : Int32).toNatClampNeg) (vp_nar .char (114 : Int32))).trans tn_568
def T_570 : mS := setP T_569 162 26 (some 180)
theorem tn_570 : T_570.1 = (181, 17154) := (n_setP T_569 162 26 (some 180)).trans tn_569
def T_571 : mS := addC T_570 (102, 6) 6
theorem tn_571 : T_571.1 = (182, 17160) := n_addC tn_570
def T_572 : mS := setI T_571 181 ((0 : Int32).toNatClampNeg) (vp_nar .char (110 : Int32))
theorem tn_572 : T_572.1 = (182, 17160) := (n_setI T_571 181 ((0 : Int32).toNatClampNeg) (vp_nar .char (110 : Int32))).trans tn_571
def T_573 : mS := setI T_572 181 ((1 : Int32).toNatClampNeg) (vp_nar .char (117 : Int32))
theorem tn_573 : T_573.1 = (182, 17160) := (n_setI T_572 181 ((1 : Int32).toNatClampNeg) (vp_nar .char (117 : Int32))).trans tn_572
def T_574 : mS := setI T_573 181 ((2 : Int32).toNatClampNeg) (vp_nar .char (109 : Int32))
theorem tn_574 : T_574.1 = (182, 17160) := (n_setI T_573 181 ((2 : Int32).toNatClampNeg) (vp_nar .char (109 : Int32))).trans tn_573
def T_575 : mS := setI T_574 181 ((3 : Int32).toNatClampNeg) (vp_nar .char (98 : Int32))
theorem tn_575 : T_575.1 = (182, 17160) := (n_setI T_574 181 ((3 : Int32).toNatClampNeg) (vp_nar .char (98 : Int32))).trans tn_574
def T_576 : mS := setI T_575 181 ((4 : Int32).toNatClampNeg) (vp_nar .char (101 : Int32))
theorem tn_576 : T_576.1 = (182, 17160) := (n_setI T_575 181 ((4 : Int32).toNatClampNeg) (vp_nar .char (101 : Int32))).trans tn_575
def T_577 : mS := setI T_576 181 ((5 : Int32).toNatClampNeg) (vp_nar .char (114 : Int32))
theorem tn_577 : T_577.1 = (182, 17160) := (n_setI T_576 181 ((5 : Int32).toNatClampNeg) (vp_nar .char (114 : Int32))).trans tn_576
def T_578 : mS := setP T_577 162 27 (some 181)
theorem tn_578 : T_578.1 = (182, 17160) := (n_setP T_577 162 27 (some 181)).trans tn_577
def T_579 : mS := addC T_578 (102, 3) 3
theorem tn_579 : T_579.1 = (183, 17163) := n_addC tn_578
def T_580 : mS := setI T_579 182 ((0 : Int32).toNatClampNeg) (vp_nar .char (116 : Int32))
theorem tn_580 : T_580.1 = (183, 17163) := (n_setI T_579 182 ((0 : Int32).toNatClampNeg) (vp_nar .char (116 : Int32))).trans tn_579
def T_581 : mS := setI T_580 182 ((1 : Int32).toNatClampNeg) (vp_nar .char (111 : Int32))
theorem tn_581 : T_581.1 = (183, 17163) := (n_setI T_580 182 ((1 : Int32).toNatClampNeg) (vp_nar .char (111 : Int32))).trans tn_580
def T_582 : mS := setI T_581 182 ((2 : Int32).toNatClampNeg) (vp_nar .char (112 : Int32))
theorem tn_582 : T_582.1 = (183, 17163) := (n_setI T_581 182 ((2 : Int32).toNatClampNeg) (vp_nar .char (112 : Int32))).trans tn_581
def T_583 : mS := setP T_582 162 28 (some 182)
theorem tn_583 : T_583.1 = (183, 17163) := (n_setP T_582 162 28 (some 182)).trans tn_582
def T_584 : mS := addC T_583 (102, 6) 6
theorem tn_584 : T_584.1 = (184, 17169) := n_addC tn_583
def T_585 : mS := setI T_584 183 ((0 : Int32).toNatClampNeg) (vp_nar .char (98 : Int32))
theorem tn_585 : T_585.1 = (184, 17169) := (n_setI T_584 183 ((0 : Int32).toNatClampNeg) (vp_nar .char (98 : Int32))).trans tn_584
def T_586 : mS := setI T_585 183 ((1 : Int32).toNatClampNeg) (vp_nar .char (111 : Int32))
theorem tn_586 : T_586.1 = (184, 17169) := (n_setI T_585 183 ((1 : Int32).toNatClampNeg) (vp_nar .char (111 : Int32))).trans tn_585
def T_587 : mS := setI T_586 183 ((2 : Int32).toNatClampNeg) (vp_nar .char (116 : Int32))
theorem tn_587 : T_587.1 = (184, 17169) := (n_setI T_586 183 ((2 : Int32).toNatClampNeg) (vp_nar .char (116 : Int32))).trans tn_586
def T_588 : mS := setI T_587 183 ((3 : Int32).toNatClampNeg) (vp_nar .char (116 : Int32))
theorem tn_588 : T_588.1 = (184, 17169) := (n_setI T_587 183 ((3 : Int32).toNatClampNeg) (vp_nar .char (116 : Int32))).trans tn_587
def T_589 : mS := setI T_588 183 ((4 : Int32).toNatClampNeg) (vp_nar .char (111 : Int32))
theorem tn_589 : T_589.1 = (184, 17169) := (n_setI T_588 183 ((4 : Int32).toNatClampNeg) (vp_nar .char (111 : Int32))).trans tn_588
def T_590 : mS := setI T_589 183 ((5 : Int32).toNatClampNeg) (vp_nar .char (109 : Int32))
theorem tn_590 : T_590.1 = (184, 17169) := (n_setI T_589 183 ((5 : Int32).toNatClampNeg) (vp_nar .char (109 : Int32))).trans tn_589
def T_591 : mS := setP T_590 162 29 (some 183)
theorem tn_591 : T_591.1 = (184, 17169) := (n_setP T_590 162 29 (some 183)).trans tn_590
def T_592 : mS := addC T_591 (102, 4) 4
theorem tn_592 : T_592.1 = (185, 17173) := n_addC tn_591
def T_593 : mS := setI T_592 184 ((0 : Int32).toNatClampNeg) (vp_nar .char (119 : Int32))
theorem tn_593 : T_593.1 = (185, 17173) := (n_setI T_592 184 ((0 : Int32).toNatClampNeg) (vp_nar .char (119 : Int32))).trans tn_592
def T_594 : mS := setI T_593 184 ((1 : Int32).toNatClampNeg) (vp_nar .char (97 : Int32))
theorem tn_594 : T_594.1 = (185, 17173) := (n_setI T_593 184 ((1 : Int32).toNatClampNeg) (vp_nar .char (97 : Int32))).trans tn_593
def T_595 : mS := setI T_594 184 ((2 : Int32).toNatClampNeg) (vp_nar .char (121 : Int32))
theorem tn_595 : T_595.1 = (185, 17173) := (n_setI T_594 184 ((2 : Int32).toNatClampNeg) (vp_nar .char (121 : Int32))).trans tn_594
def T_596 : mS := setI T_595 184 ((3 : Int32).toNatClampNeg) (vp_nar .char (115 : Int32))
theorem tn_596 : T_596.1 = (185, 17173) := (n_setI T_595 184 ((3 : Int32).toNatClampNeg) (vp_nar .char (115 : Int32))).trans tn_595
def T_597 : mS := setP T_596 162 30 (some 184)
theorem tn_597 : T_597.1 = (185, 17173) := (n_setP T_596 162 30 (some 184)).trans tn_596
def T_598 : mS := addC T_597 (102, 3) 3
theorem tn_598 : T_598.1 = (186, 17176) := n_addC tn_597
def T_599 : mS := setI T_598 185 ((0 : Int32).toNatClampNeg) (vp_nar .char (104 : Int32))
theorem tn_599 : T_599.1 = (186, 17176) := (n_setI T_598 185 ((0 : Int32).toNatClampNeg) (vp_nar .char (104 : Int32))).trans tn_598
def T_600 : mS := setI T_599 185 ((1 : Int32).toNatClampNeg) (vp_nar .char (97 : Int32))
theorem tn_600 : T_600.1 = (186, 17176) := (n_setI T_599 185 ((1 : Int32).toNatClampNeg) (vp_nar .char (97 : Int32))).trans tn_599
def T_601 : mS := setI T_600 185 ((2 : Int32).toNatClampNeg) (vp_nar .char (100 : Int32))
theorem tn_601 : T_601.1 = (186, 17176) := (n_setI T_600 185 ((2 : Int32).toNatClampNeg) (vp_nar .char (100 : Int32))).trans tn_600
def T_602 : mS := setP T_601 162 31 (some 185)
theorem tn_602 : T_602.1 = (186, 17176) := (n_setP T_601 162 31 (some 185)).trans tn_601
def T_603 : mS := addC T_602 (102, 4) 4
theorem tn_603 : T_603.1 = (187, 17180) := n_addC tn_602
def T_604 : mS := setI T_603 186 ((0 : Int32).toNatClampNeg) (vp_nar .char (102 : Int32))
theorem tn_604 : T_604.1 = (187, 17180) := (n_setI T_603 186 ((0 : Int32).toNatClampNeg) (vp_nar .char (102 : Int32))).trans tn_603
def T_605 : mS := setI T_604 186 ((1 : Int32).toNatClampNeg) (vp_nar .char (105 : Int32))
theorem tn_605 : T_605.1 = (187, 17180) := (n_setI T_604 186 ((1 : Int32).toNatClampNeg) (vp_nar .char (105 : Int32))).trans tn_604
def T_606 : mS := setI T_605 186 ((2 : Int32).toNatClampNeg) (vp_nar .char (116 : Int32))
theorem tn_606 : T_606.1 = (187, 17180) := (n_setI T_605 186 ((2 : Int32).toNatClampNeg) (vp_nar .char (116 : Int32))).trans tn_605
def T_607 : mS := setI T_606 186 ((3 : Int32).toNatClampNeg) (vp_nar .char (115 : Int32))
theorem tn_607 : T_607.1 = (187, 17180) := (n_setI T_606 186 ((3 : Int32).toNatClampNeg) (vp_nar .char (115 : Int32))).trans tn_606
def T_608 : mS := setP T_607 162 32 (some 186)
theorem tn_608 : T_608.1 = (187, 17180) := (n_setP T_607 162 32 (some 186)).trans tn_607
def T_609 : mS := addC T_608 (102, 2) 2
theorem tn_609 : T_609.1 = (188, 17182) := n_addC tn_608
def T_610 : mS := setI T_609 187 ((0 : Int32).toNatClampNeg) (vp_nar .char (111 : Int32))
theorem tn_610 : T_610.1 = (188, 17182) := (n_setI T_609 187 ((0 : Int32).toNatClampNeg) (vp_nar .char (111 : Int32))).trans tn_609
def T_611 : mS := setI T_610 187 ((1 : Int32).toNatClampNeg) (vp_nar .char (114 : Int32))
theorem tn_611 : T_611.1 = (188, 17182) := (n_setI T_610 187 ((1 : Int32).toNatClampNeg) (vp_nar .char (114 : Int32))).trans tn_610
def T_612 : mS := setP T_611 162 33 (some 187)
theorem tn_612 : T_612.1 = (188, 17182) := (n_setP T_611 162 33 (some 187)).trans tn_611
def T_613 : mS := addC T_612 (102, 3) 3
theorem tn_613 : T_613.1 = (189, 17185) := n_addC tn_612
def T_614 : mS := setI T_613 188 ((0 : Int32).toNatClampNeg) (vp_nar .char (97 : Int32))
theorem tn_614 : T_614.1 = (189, 17185) := (n_setI T_613 188 ((0 : Int32).toNatClampNeg) (vp_nar .char (97 : Int32))).trans tn_613
def T_615 : mS := setI T_614 188 ((1 : Int32).toNatClampNeg) (vp_nar .char (110 : Int32))
theorem tn_615 : T_615.1 = (189, 17185) := (n_setI T_614 188 ((1 : Int32).toNatClampNeg) (vp_nar .char (110 : Int32))).trans tn_614
def T_616 : mS := setI T_615 188 ((2 : Int32).toNatClampNeg) (vp_nar .char (100 : Int32))
theorem tn_616 : T_616.1 = (189, 17185) := (n_setI T_615 188 ((2 : Int32).toNatClampNeg) (vp_nar .char (100 : Int32))).trans tn_615
def T_617 : mS := setP T_616 162 34 (some 188)
theorem tn_617 : T_617.1 = (189, 17185) := (n_setP T_616 162 34 (some 188)).trans tn_616
def T_618 : mS := addC T_617 (102, 3) 3
theorem tn_618 : T_618.1 = (190, 17188) := n_addC tn_617
def T_619 : mS := setI T_618 189 ((0 : Int32).toNatClampNeg) (vp_nar .char (110 : Int32))
theorem tn_619 : T_619.1 = (190, 17188) := (n_setI T_618 189 ((0 : Int32).toNatClampNeg) (vp_nar .char (110 : Int32))).trans tn_618
def T_620 : mS := setI T_619 189 ((1 : Int32).toNatClampNeg) (vp_nar .char (111 : Int32))
theorem tn_620 : T_620.1 = (190, 17188) := (n_setI T_619 189 ((1 : Int32).toNatClampNeg) (vp_nar .char (111 : Int32))).trans tn_619
def T_621 : mS := setI T_620 189 ((2 : Int32).toNatClampNeg) (vp_nar .char (116 : Int32))
theorem tn_621 : T_621.1 = (190, 17188) := (n_setI T_620 189 ((2 : Int32).toNatClampNeg) (vp_nar .char (116 : Int32))).trans tn_620
def T_622 : mS := setP T_621 162 35 (some 189)
theorem tn_622 : T_622.1 = (190, 17188) := (n_setP T_621 162 35 (some 189)).trans tn_621
def T_623 : mS := addC T_622 (102, 3) 3
theorem tn_623 : T_623.1 = (191, 17191) := n_addC tn_622
def T_624 : mS := setI T_623 190 ((0 : Int32).toNatClampNeg) (vp_nar .char (97 : Int32))
theorem tn_624 : T_624.1 = (191, 17191) := (n_setI T_623 190 ((0 : Int32).toNatClampNeg) (vp_nar .char (97 : Int32))).trans tn_623
def T_625 : mS := setI T_624 190 ((1 : Int32).toNatClampNeg) (vp_nar .char (108 : Int32))
theorem tn_625 : T_625.1 = (191, 17191) := (n_setI T_624 190 ((1 : Int32).toNatClampNeg) (vp_nar .char (108 : Int32))).trans tn_624
def T_626 : mS := setI T_625 190 ((2 : Int32).toNatClampNeg) (vp_nar .char (108 : Int32))
theorem tn_626 : T_626.1 = (191, 17191) := (n_setI T_625 190 ((2 : Int32).toNatClampNeg) (vp_nar .char (108 : Int32))).trans tn_625
def T_627 : mS := setP T_626 162 36 (some 190)
theorem tn_627 : T_627.1 = (191, 17191) := (n_setP T_626 162 36 (some 190)).trans tn_626
def T_628 : mS := addC T_627 (102, 3) 3
theorem tn_628 : T_628.1 = (192, 17194) := n_addC tn_627
def T_629 : mS := setI T_628 191 ((0 : Int32).toNatClampNeg) (vp_nar .char (109 : Int32))
theorem tn_629 : T_629.1 = (192, 17194) := (n_setI T_628 191 ((0 : Int32).toNatClampNeg) (vp_nar .char (109 : Int32))).trans tn_628
def T_630 : mS := setI T_629 191 ((1 : Int32).toNatClampNeg) (vp_nar .char (105 : Int32))
theorem tn_630 : T_630.1 = (192, 17194) := (n_setI T_629 191 ((1 : Int32).toNatClampNeg) (vp_nar .char (105 : Int32))).trans tn_629
def T_631 : mS := setI T_630 191 ((2 : Int32).toNatClampNeg) (vp_nar .char (110 : Int32))
theorem tn_631 : T_631.1 = (192, 17194) := (n_setI T_630 191 ((2 : Int32).toNatClampNeg) (vp_nar .char (110 : Int32))).trans tn_630
def T_632 : mS := setP T_631 162 37 (some 191)
theorem tn_632 : T_632.1 = (192, 17194) := (n_setP T_631 162 37 (some 191)).trans tn_631
def T_633 : mS := addC T_632 (102, 3) 3
theorem tn_633 : T_633.1 = (193, 17197) := n_addC tn_632
def T_634 : mS := setI T_633 192 ((0 : Int32).toNatClampNeg) (vp_nar .char (109 : Int32))
theorem tn_634 : T_634.1 = (193, 17197) := (n_setI T_633 192 ((0 : Int32).toNatClampNeg) (vp_nar .char (109 : Int32))).trans tn_633
def T_635 : mS := setI T_634 192 ((1 : Int32).toNatClampNeg) (vp_nar .char (97 : Int32))
theorem tn_635 : T_635.1 = (193, 17197) := (n_setI T_634 192 ((1 : Int32).toNatClampNeg) (vp_nar .char (97 : Int32))).trans tn_634
def T_636 : mS := setI T_635 192 ((2 : Int32).toNatClampNeg) (vp_nar .char (120 : Int32))
theorem tn_636 : T_636.1 = (193, 17197) := (n_setI T_635 192 ((2 : Int32).toNatClampNeg) (vp_nar .char (120 : Int32))).trans tn_635
def T_637 : mS := setP T_636 162 38 (some 192)
theorem tn_637 : T_637.1 = (193, 17197) := (n_setP T_636 162 38 (some 192)).trans tn_636
def T_638 : mS := addC T_637 (100, 10) 10
theorem tn_638 : T_638.1 = (194, 17207) := n_addC tn_637
def T_639 : mS := setP T_638 162 40 (some 193)
theorem tn_639 : T_639.1 = (194, 17207) := (n_setP T_638 162 40 (some 193)).trans tn_638
def T_640 : mS := addC T_639 (101, 12) 12
theorem tn_640 : T_640.1 = (195, 17219) := n_addC tn_639
def T_641 : mS := setP T_640 162 41 (some 194)
theorem tn_641 : T_641.1 = (195, 17219) := (n_setP T_640 162 41 (some 194)).trans tn_640
def T_642 : mS := addC T_641 (100, 24) 24
theorem tn_642 : T_642.1 = (196, 17243) := n_addC tn_641
def T_643 : mS := setP T_642 162 42 (some 195)
theorem tn_643 : T_643.1 = (196, 17243) := (n_setP T_642 162 42 (some 195)).trans tn_642
def T_644 : mS := addC T_643 (100, 25) 25
theorem tn_644 : T_644.1 = (197, 17268) := n_addC tn_643
def T_645 : mS := setP T_644 162 43 (some 196)
theorem tn_645 : T_645.1 = (197, 17268) := (n_setP T_644 162 43 (some 196)).trans tn_644
def T_646 : mS := addC T_645 (100, 4) 4
theorem tn_646 : T_646.1 = (198, 17272) := n_addC tn_645
def T_647 : mS := setI T_646 197 ((0 : Int32).toNatClampNeg) (-1 : Int32)
theorem tn_647 : T_647.1 = (198, 17272) := (n_setI T_646 197 ((0 : Int32).toNatClampNeg) (-1 : Int32)).trans tn_646
def T_648 : mS := setI T_647 197 ((1 : Int32).toNatClampNeg) (-1 : Int32)
theorem tn_648 : T_648.1 = (198, 17272) := (n_setI T_647 197 ((1 : Int32).toNatClampNeg) (-1 : Int32)).trans tn_647
def T_649 : mS := setI T_648 197 ((2 : Int32).toNatClampNeg) (-1 : Int32)
theorem tn_649 : T_649.1 = (198, 17272) := (n_setI T_648 197 ((2 : Int32).toNatClampNeg) (-1 : Int32)).trans tn_648
def T_650 : mS := setI T_649 197 ((3 : Int32).toNatClampNeg) (-1 : Int32)
theorem tn_650 : T_650.1 = (198, 17272) := (n_setI T_649 197 ((3 : Int32).toNatClampNeg) (-1 : Int32)).trans tn_649
def T_651 : mS := setP T_650 162 44 (some 197)
theorem tn_651 : T_651.1 = (198, 17272) := (n_setP T_650 162 44 (some 197)).trans tn_650
def T_652 : mS := addC T_651 (100, 4) 4
theorem tn_652 : T_652.1 = (199, 17276) := n_addC tn_651
def T_653 : mS := setP T_652 162 45 (some 198)
theorem tn_653 : T_653.1 = (199, 17276) := (n_setP T_652 162 45 (some 198)).trans tn_652
def T_654 : mS := addC T_653 (100, 3200) 3200
theorem tn_654 : T_654.1 = (200, 20476) := n_addC tn_653
def T_655 : mS := setP T_654 162 46 (some 199)
theorem tn_655 : T_655.1 = (200, 20476) := (n_setP T_654 162 46 (some 199)).trans tn_654
def T_656 : mS := addC T_655 (100, 158) 158
theorem tn_656 : T_656.1 = (201, 20634) := n_addC tn_655
def T_657 : mS := setP T_656 162 51 (some 200)
theorem tn_657 : T_657.1 = (201, 20634) := (n_setP T_656 162 51 (some 200)).trans tn_656
def T_658 : mS := addC T_657 (100, 2000) 2000
theorem tn_658 : T_658.1 = (202, 22634) := n_addC tn_657
def T_659 : mS := setP T_658 162 52 (some 201)
theorem tn_659 : T_659.1 = (202, 22634) := (n_setP T_658 162 52 (some 201)).trans tn_658
def T_660 : mS := addC T_659 (100, 6) 6
theorem tn_660 : T_660.1 = (203, 22640) := n_addC tn_659
def T_661 : mS := setP T_660 162 54 (some 202)
theorem tn_661 : T_661.1 = (203, 22640) := (n_setP T_660 162 54 (some 202)).trans tn_660
def T_662 : mS := addC T_661 (101, 6) 6
theorem tn_662 : T_662.1 = (204, 22646) := n_addC tn_661
def T_663 : mS := setP T_662 162 55 (some 203)
theorem tn_663 : T_663.1 = (204, 22646) := (n_setP T_662 162 55 (some 203)).trans tn_662
def T_664 : mS := addC T_663 (100, 12000) 12000
theorem tn_664 : T_664.1 = (205, 34646) := n_addC tn_663
def T_665 : mS := setP T_664 162 56 (some 204)
theorem tn_665 : T_665.1 = (205, 34646) := (n_setP T_664 162 56 (some 204)).trans tn_664
def T_666 : mS := addC T_665 (100, 6) 6
theorem tn_666 : T_666.1 = (206, 34652) := n_addC tn_665
def T_667 : mS := setP T_666 162 57 (some 205)
theorem tn_667 : T_667.1 = (206, 34652) := (n_setP T_666 162 57 (some 205)).trans tn_666
def T_668 : mS := addC T_667 (100, 6) 6
theorem tn_668 : T_668.1 = (207, 34658) := n_addC tn_667
def T_669 : mS := setP T_668 162 58 (some 206)
theorem tn_669 : T_669.1 = (207, 34658) := (n_setP T_668 162 58 (some 206)).trans tn_668
def T_670 : mS := addC T_669 (100, 37) 37
theorem tn_670 : T_670.1 = (208, 34695) := n_addC tn_669
def T_671 : mS := setP T_670 162 65 (some 207)
theorem tn_671 : T_671.1 = (208, 34695) := (n_setP T_670 162 65 (some 207)).trans tn_670
def T_672 : mS := addC T_671 (100, 7) 7
theorem tn_672 : T_672.1 = (209, 34702) := n_addC tn_671
def T_673 : mS := setP T_672 162 66 (some 208)
theorem tn_673 : T_673.1 = (209, 34702) := (n_setP T_672 162 66 (some 208)).trans tn_672
def T_674 : mS := addC T_673 (100, 6) 6
theorem tn_674 : T_674.1 = (210, 34708) := n_addC tn_673
def T_675 : mS := setP T_674 162 67 (some 209)
theorem tn_675 : T_675.1 = (210, 34708) := (n_setP T_674 162 67 (some 209)).trans tn_674
def T_676 : mS := addC T_675 (100, 48) 48
theorem tn_676 : T_676.1 = (211, 34756) := n_addC tn_675
def T_677 : mS := setP T_676 162 70 (some 210)
theorem tn_677 : T_677.1 = (211, 34756) := (n_setP T_676 162 70 (some 210)).trans tn_676
def T_678 : mS := addC T_677 (100, 961) 961
theorem tn_678 : T_678.1 = (212, 35717) := n_addC tn_677
def T_679 : mS := setP T_678 162 71 (some 211)
theorem tn_679 : T_679.1 = (212, 35717) := (n_setP T_678 162 71 (some 211)).trans tn_678
def T_680 : mS := addC T_679 (100, 3160) 3160
theorem tn_680 : T_680.1 = (213, 38877) := n_addC tn_679
def T_681 : mS := setP T_680 162 72 (some 212)
theorem tn_681 : T_681.1 = (213, 38877) := (n_setP T_680 162 72 (some 212)).trans tn_680
def T_682 : mS := setJ T_681 162 75 (1 : Int64)
theorem tn_682 : T_682.1 = (213, 38877) := (n_setJ T_681 162 75 (1 : Int64)).trans tn_681
def T_683 : mS := addC T_682 (102, 5) 5
theorem tn_683 : T_683.1 = (214, 38882) := n_addC tn_682
def T_684 : mS := setI T_683 213 ((0 : Int32).toNatClampNeg) (vp_nar .char (102 : Int32))
theorem tn_684 : T_684.1 = (214, 38882) := (n_setI T_683 213 ((0 : Int32).toNatClampNeg) (vp_nar .char (102 : Int32))).trans tn_683
def T_685 : mS := setI T_684 213 ((1 : Int32).toNatClampNeg) (vp_nar .char (105 : Int32))
theorem tn_685 : T_685.1 = (214, 38882) := (n_setI T_684 213 ((1 : Int32).toNatClampNeg) (vp_nar .char (105 : Int32))).trans tn_684
def T_686 : mS := setI T_685 213 ((2 : Int32).toNatClampNeg) (vp_nar .char (114 : Int32))
theorem tn_686 : T_686.1 = (214, 38882) := (n_setI T_685 213 ((2 : Int32).toNatClampNeg) (vp_nar .char (114 : Int32))).trans tn_685
def T_687 : mS := setI T_686 213 ((3 : Int32).toNatClampNeg) (vp_nar .char (115 : Int32))
theorem tn_687 : T_687.1 = (214, 38882) := (n_setI T_686 213 ((3 : Int32).toNatClampNeg) (vp_nar .char (115 : Int32))).trans tn_686
def T_688 : mS := setI T_687 213 ((4 : Int32).toNatClampNeg) (vp_nar .char (116 : Int32))
theorem tn_688 : T_688.1 = (214, 38882) := (n_setI T_687 213 ((4 : Int32).toNatClampNeg) (vp_nar .char (116 : Int32))).trans tn_687
def T_689 : mS := setP T_688 162 76 (some 213)
theorem tn_689 : T_689.1 = (214, 38882) := (n_setP T_688 162 76 (some 213)).trans tn_688
def T_690 : mS := addC T_689 (102, 4) 4
theorem tn_690 : T_690.1 = (215, 38886) := n_addC tn_689
def T_691 : mS := setI T_690 214 ((0 : Int32).toNatClampNeg) (vp_nar .char (108 : Int32))
theorem tn_691 : T_691.1 = (215, 38886) := (n_setI T_690 214 ((0 : Int32).toNatClampNeg) (vp_nar .char (108 : Int32))).trans tn_690
def T_692 : mS := setI T_691 214 ((1 : Int32).toNatClampNeg) (vp_nar .char (97 : Int32))
theorem tn_692 : T_692.1 = (215, 38886) := (n_setI T_691 214 ((1 : Int32).toNatClampNeg) (vp_nar .char (97 : Int32))).trans tn_691
def T_693 : mS := setI T_692 214 ((2 : Int32).toNatClampNeg) (vp_nar .char (115 : Int32))
theorem tn_693 : T_693.1 = (215, 38886) := (n_setI T_692 214 ((2 : Int32).toNatClampNeg) (vp_nar .char (115 : Int32))).trans tn_692
def T_694 : mS := setI T_693 214 ((3 : Int32).toNatClampNeg) (vp_nar .char (116 : Int32))
theorem tn_694 : T_694.1 = (215, 38886) := (n_setI T_693 214 ((3 : Int32).toNatClampNeg) (vp_nar .char (116 : Int32))).trans tn_693
def T_695 : mS := setP T_694 162 77 (some 214)
theorem tn_695 : T_695.1 = (215, 38886) := (n_setP T_694 162 77 (some 214)).trans tn_694
def T_696 : mS := addC T_695 (102, 5) 5
theorem tn_696 : T_696.1 = (216, 38891) := n_addC tn_695
def T_697 : mS := setI T_696 215 ((0 : Int32).toNatClampNeg) (vp_nar .char (111 : Int32))
theorem tn_697 : T_697.1 = (216, 38891) := (n_setI T_696 215 ((0 : Int32).toNatClampNeg) (vp_nar .char (111 : Int32))).trans tn_696
def T_698 : mS := setI T_697 215 ((1 : Int32).toNatClampNeg) (vp_nar .char (102 : Int32))
theorem tn_698 : T_698.1 = (216, 38891) := (n_setI T_697 215 ((1 : Int32).toNatClampNeg) (vp_nar .char (102 : Int32))).trans tn_697
def T_699 : mS := setI T_698 215 ((2 : Int32).toNatClampNeg) (vp_nar .char (116 : Int32))
theorem tn_699 : T_699.1 = (216, 38891) := (n_setI T_698 215 ((2 : Int32).toNatClampNeg) (vp_nar .char (116 : Int32))).trans tn_698
def T_700 : mS := setI T_699 215 ((3 : Int32).toNatClampNeg) (vp_nar .char (101 : Int32))
theorem tn_700 : T_700.1 = (216, 38891) := (n_setI T_699 215 ((3 : Int32).toNatClampNeg) (vp_nar .char (101 : Int32))).trans tn_699
def T_701 : mS := setI T_700 215 ((4 : Int32).toNatClampNeg) (vp_nar .char (110 : Int32))
theorem tn_701 : T_701.1 = (216, 38891) := (n_setI T_700 215 ((4 : Int32).toNatClampNeg) (vp_nar .char (110 : Int32))).trans tn_700
def T_702 : mS := setP T_701 162 78 (some 215)
theorem tn_702 : T_702.1 = (216, 38891) := (n_setP T_701 162 78 (some 215)).trans tn_701
def T_703 : mS := addC T_702 (102, 5) 5
theorem tn_703 : T_703.1 = (217, 38896) := n_addC tn_702
def T_704 : mS := setI T_703 216 ((0 : Int32).toNatClampNeg) (vp_nar .char (116 : Int32))
theorem tn_704 : T_704.1 = (217, 38896) := (n_setI T_703 216 ((0 : Int32).toNatClampNeg) (vp_nar .char (116 : Int32))).trans tn_703
def T_705 : mS := setI T_704 216 ((1 : Int32).toNatClampNeg) (vp_nar .char (111 : Int32))
theorem tn_705 : T_705.1 = (217, 38896) := (n_setI T_704 216 ((1 : Int32).toNatClampNeg) (vp_nar .char (111 : Int32))).trans tn_704
def T_706 : mS := setI T_705 216 ((2 : Int32).toNatClampNeg) (vp_nar .char (116 : Int32))
theorem tn_706 : T_706.1 = (217, 38896) := (n_setI T_705 216 ((2 : Int32).toNatClampNeg) (vp_nar .char (116 : Int32))).trans tn_705
def T_707 : mS := setI T_706 216 ((3 : Int32).toNatClampNeg) (vp_nar .char (97 : Int32))
theorem tn_707 : T_707.1 = (217, 38896) := (n_setI T_706 216 ((3 : Int32).toNatClampNeg) (vp_nar .char (97 : Int32))).trans tn_706
def T_708 : mS := setI T_707 216 ((4 : Int32).toNatClampNeg) (vp_nar .char (108 : Int32))
theorem tn_708 : T_708.1 = (217, 38896) := (n_setI T_707 216 ((4 : Int32).toNatClampNeg) (vp_nar .char (108 : Int32))).trans tn_707
def T_709 : mS := setP T_708 162 79 (some 216)
theorem tn_709 : T_709.1 = (217, 38896) := (n_setP T_708 162 79 (some 216)).trans tn_708
def T_710 : mS := addC T_709 (102, 4) 4
theorem tn_710 : T_710.1 = (218, 38900) := n_addC tn_709
def T_711 : mS := setI T_710 217 ((0 : Int32).toNatClampNeg) (vp_nar .char (109 : Int32))
theorem tn_711 : T_711.1 = (218, 38900) := (n_setI T_710 217 ((0 : Int32).toNatClampNeg) (vp_nar .char (109 : Int32))).trans tn_710
def T_712 : mS := setI T_711 217 ((1 : Int32).toNatClampNeg) (vp_nar .char (111 : Int32))
theorem tn_712 : T_712.1 = (218, 38900) := (n_setI T_711 217 ((1 : Int32).toNatClampNeg) (vp_nar .char (111 : Int32))).trans tn_711
def T_713 : mS := setI T_712 217 ((2 : Int32).toNatClampNeg) (vp_nar .char (115 : Int32))
theorem tn_713 : T_713.1 = (218, 38900) := (n_setI T_712 217 ((2 : Int32).toNatClampNeg) (vp_nar .char (115 : Int32))).trans tn_712
def T_714 : mS := setI T_713 217 ((3 : Int32).toNatClampNeg) (vp_nar .char (116 : Int32))
theorem tn_714 : T_714.1 = (218, 38900) := (n_setI T_713 217 ((3 : Int32).toNatClampNeg) (vp_nar .char (116 : Int32))).trans tn_713
def T_715 : mS := setP T_714 162 80 (some 217)
theorem tn_715 : T_715.1 = (218, 38900) := (n_setP T_714 162 80 (some 217)).trans tn_714
def T_716 : mS := addC T_715 (102, 5) 5
theorem tn_716 : T_716.1 = (219, 38905) := n_addC tn_715
def T_717 : mS := setI T_716 218 ((0 : Int32).toNatClampNeg) (vp_nar .char (108 : Int32))
theorem tn_717 : T_717.1 = (219, 38905) := (n_setI T_716 218 ((0 : Int32).toNatClampNeg) (vp_nar .char (108 : Int32))).trans tn_716
def T_718 : mS := setI T_717 218 ((1 : Int32).toNatClampNeg) (vp_nar .char (101 : Int32))
theorem tn_718 : T_718.1 = (219, 38905) := (n_setI T_717 218 ((1 : Int32).toNatClampNeg) (vp_nar .char (101 : Int32))).trans tn_717
def T_719 : mS := setI T_718 218 ((2 : Int32).toNatClampNeg) (vp_nar .char (97 : Int32))
theorem tn_719 : T_719.1 = (219, 38905) := (n_setI T_718 218 ((2 : Int32).toNatClampNeg) (vp_nar .char (97 : Int32))).trans tn_718
def T_720 : mS := setI T_719 218 ((3 : Int32).toNatClampNeg) (vp_nar .char (115 : Int32))
theorem tn_720 : T_720.1 = (219, 38905) := (n_setI T_719 218 ((3 : Int32).toNatClampNeg) (vp_nar .char (115 : Int32))).trans tn_719
def T_721 : mS := setI T_720 218 ((4 : Int32).toNatClampNeg) (vp_nar .char (116 : Int32))
theorem tn_721 : T_721.1 = (219, 38905) := (n_setI T_720 218 ((4 : Int32).toNatClampNeg) (vp_nar .char (116 : Int32))).trans tn_720
def T_722 : mS := setP T_721 162 81 (some 218)
theorem tn_722 : T_722.1 = (219, 38905) := (n_setP T_721 162 81 (some 218)).trans tn_721
def T_723 : mS := addC T_722 (102, 3) 3
theorem tn_723 : T_723.1 = (220, 38908) := n_addC tn_722
def T_724 : mS := setI T_723 219 ((0 : Int32).toNatClampNeg) (vp_nar .char (110 : Int32))
theorem tn_724 : T_724.1 = (220, 38908) := (n_setI T_723 219 ((0 : Int32).toNatClampNeg) (vp_nar .char (110 : Int32))).trans tn_723
def T_725 : mS := setI T_724 219 ((1 : Int32).toNatClampNeg) (vp_nar .char (111 : Int32))
theorem tn_725 : T_725.1 = (220, 38908) := (n_setI T_724 219 ((1 : Int32).toNatClampNeg) (vp_nar .char (111 : Int32))).trans tn_724
def T_726 : mS := setI T_725 219 ((2 : Int32).toNatClampNeg) (vp_nar .char (116 : Int32))
theorem tn_726 : T_726.1 = (220, 38908) := (n_setI T_725 219 ((2 : Int32).toNatClampNeg) (vp_nar .char (116 : Int32))).trans tn_725
def T_727 : mS := setP T_726 162 82 (some 219)
theorem tn_727 : T_727.1 = (220, 38908) := (n_setP T_726 162 82 (some 219)).trans tn_726
def T_728 : mS := addC T_727 (102, 3) 3
theorem tn_728 : T_728.1 = (221, 38911) := n_addC tn_727
def T_729 : mS := setI T_728 220 ((0 : Int32).toNatClampNeg) (vp_nar .char (97 : Int32))
theorem tn_729 : T_729.1 = (221, 38911) := (n_setI T_728 220 ((0 : Int32).toNatClampNeg) (vp_nar .char (97 : Int32))).trans tn_728
def T_730 : mS := setI T_729 220 ((1 : Int32).toNatClampNeg) (vp_nar .char (110 : Int32))
theorem tn_730 : T_730.1 = (221, 38911) := (n_setI T_729 220 ((1 : Int32).toNatClampNeg) (vp_nar .char (110 : Int32))).trans tn_729
def T_731 : mS := setI T_730 220 ((2 : Int32).toNatClampNeg) (vp_nar .char (100 : Int32))
theorem tn_731 : T_731.1 = (221, 38911) := (n_setI T_730 220 ((2 : Int32).toNatClampNeg) (vp_nar .char (100 : Int32))).trans tn_730
def T_732 : mS := setP T_731 162 83 (some 220)
theorem tn_732 : T_732.1 = (221, 38911) := (n_setP T_731 162 83 (some 220)).trans tn_731
def T_733 : mS := addC T_732 (102, 2) 2
theorem tn_733 : T_733.1 = (222, 38913) := n_addC tn_732
def T_734 : mS := setI T_733 221 ((0 : Int32).toNatClampNeg) (vp_nar .char (111 : Int32))
theorem tn_734 : T_734.1 = (222, 38913) := (n_setI T_733 221 ((0 : Int32).toNatClampNeg) (vp_nar .char (111 : Int32))).trans tn_733
def T_735 : mS := setI T_734 221 ((1 : Int32).toNatClampNeg) (vp_nar .char (114 : Int32))
theorem tn_735 : T_735.1 = (222, 38913) := (n_setI T_734 221 ((1 : Int32).toNatClampNeg) (vp_nar .char (114 : Int32))).trans tn_734
def T_736 : mS := setP T_735 162 84 (some 221)
theorem tn_736 : T_736.1 = (222, 38913) := (n_setP T_735 162 84 (some 221)).trans tn_735
def T_737 : mS := addC T_736 (102, 3) 3
theorem tn_737 : T_737.1 = (223, 38916) := n_addC tn_736
def T_738 : mS := setI T_737 222 ((0 : Int32).toNatClampNeg) (vp_nar .char (97 : Int32))
theorem tn_738 : T_738.1 = (223, 38916) := (n_setI T_737 222 ((0 : Int32).toNatClampNeg) (vp_nar .char (97 : Int32))).trans tn_737
def T_739 : mS := setI T_738 222 ((1 : Int32).toNatClampNeg) (vp_nar .char (108 : Int32))
theorem tn_739 : T_739.1 = (223, 38916) := (n_setI T_738 222 ((1 : Int32).toNatClampNeg) (vp_nar .char (108 : Int32))).trans tn_738
def T_740 : mS := setI T_739 222 ((2 : Int32).toNatClampNeg) (vp_nar .char (108 : Int32))
theorem tn_740 : T_740.1 = (223, 38916) := (n_setI T_739 222 ((2 : Int32).toNatClampNeg) (vp_nar .char (108 : Int32))).trans tn_739
def T_741 : mS := setP T_740 162 85 (some 222)
theorem tn_741 : T_741.1 = (223, 38916) := (n_setP T_740 162 85 (some 222)).trans tn_740
def T_742 : mS := addC T_741 (102, 3) 3
theorem tn_742 : T_742.1 = (224, 38919) := n_addC tn_741
def T_743 : mS := setI T_742 223 ((0 : Int32).toNatClampNeg) (vp_nar .char (109 : Int32))
theorem tn_743 : T_743.1 = (224, 38919) := (n_setI T_742 223 ((0 : Int32).toNatClampNeg) (vp_nar .char (109 : Int32))).trans tn_742
def T_744 : mS := setI T_743 223 ((1 : Int32).toNatClampNeg) (vp_nar .char (105 : Int32))
theorem tn_744 : T_744.1 = (224, 38919) := (n_setI T_743 223 ((1 : Int32).toNatClampNeg) (vp_nar .char (105 : Int32))).trans tn_743
def T_745 : mS := setI T_744 223 ((2 : Int32).toNatClampNeg) (vp_nar .char (110 : Int32))
theorem tn_745 : T_745.1 = (224, 38919) := (n_setI T_744 223 ((2 : Int32).toNatClampNeg) (vp_nar .char (110 : Int32))).trans tn_744
def T_746 : mS := setP T_745 162 86 (some 223)
theorem tn_746 : T_746.1 = (224, 38919) := (n_setP T_745 162 86 (some 223)).trans tn_745
def T_747 : mS := addC T_746 (102, 3) 3
theorem tn_747 : T_747.1 = (225, 38922) := n_addC tn_746
def T_748 : mS := setI T_747 224 ((0 : Int32).toNatClampNeg) (vp_nar .char (109 : Int32))
theorem tn_748 : T_748.1 = (225, 38922) := (n_setI T_747 224 ((0 : Int32).toNatClampNeg) (vp_nar .char (109 : Int32))).trans tn_747
def T_749 : mS := setI T_748 224 ((1 : Int32).toNatClampNeg) (vp_nar .char (97 : Int32))
theorem tn_749 : T_749.1 = (225, 38922) := (n_setI T_748 224 ((1 : Int32).toNatClampNeg) (vp_nar .char (97 : Int32))).trans tn_748
def T_750 : mS := setI T_749 224 ((2 : Int32).toNatClampNeg) (vp_nar .char (120 : Int32))
theorem tn_750 : T_750.1 = (225, 38922) := (n_setI T_749 224 ((2 : Int32).toNatClampNeg) (vp_nar .char (120 : Int32))).trans tn_749
def T_751 : mS := setP T_750 162 87 (some 224)
theorem tn_751 : T_751.1 = (225, 38922) := (n_setP T_750 162 87 (some 224)).trans tn_750
def T_752 : mS := addC T_751 (102, 4) 4
theorem tn_752 : T_752.1 = (226, 38926) := n_addC tn_751
def T_753 : mS := setI T_752 225 ((0 : Int32).toNatClampNeg) (vp_nar .char (115 : Int32))
theorem tn_753 : T_753.1 = (226, 38926) := (n_setI T_752 225 ((0 : Int32).toNatClampNeg) (vp_nar .char (115 : Int32))).trans tn_752
def T_754 : mS := setI T_753 225 ((1 : Int32).toNatClampNeg) (vp_nar .char (105 : Int32))
theorem tn_754 : T_754.1 = (226, 38926) := (n_setI T_753 225 ((1 : Int32).toNatClampNeg) (vp_nar .char (105 : Int32))).trans tn_753
def T_755 : mS := setI T_754 225 ((2 : Int32).toNatClampNeg) (vp_nar .char (122 : Int32))
theorem tn_755 : T_755.1 = (226, 38926) := (n_setI T_754 225 ((2 : Int32).toNatClampNeg) (vp_nar .char (122 : Int32))).trans tn_754
def T_756 : mS := setI T_755 225 ((3 : Int32).toNatClampNeg) (vp_nar .char (101 : Int32))
theorem tn_756 : T_756.1 = (226, 38926) := (n_setI T_755 225 ((3 : Int32).toNatClampNeg) (vp_nar .char (101 : Int32))).trans tn_755
def T_757 : mS := setP T_756 162 88 (some 225)
theorem tn_757 : T_757.1 = (226, 38926) := (n_setP T_756 162 88 (some 225)).trans tn_756
def T_758 : mS := addC T_757 (102, 5) 5
theorem tn_758 : T_758.1 = (227, 38931) := n_addC tn_757
def T_759 : mS := setI T_758 226 ((0 : Int32).toNatClampNeg) (vp_nar .char (115 : Int32))
theorem tn_759 : T_759.1 = (227, 38931) := (n_setI T_758 226 ((0 : Int32).toNatClampNeg) (vp_nar .char (115 : Int32))).trans tn_758
def T_760 : mS := setI T_759 226 ((1 : Int32).toNatClampNeg) (vp_nar .char (116 : Int32))
theorem tn_760 : T_760.1 = (227, 38931) := (n_setI T_759 226 ((1 : Int32).toNatClampNeg) (vp_nar .char (116 : Int32))).trans tn_759
def T_761 : mS := setI T_760 226 ((2 : Int32).toNatClampNeg) (vp_nar .char (111 : Int32))
theorem tn_761 : T_761.1 = (227, 38931) := (n_setI T_760 226 ((2 : Int32).toNatClampNeg) (vp_nar .char (111 : Int32))).trans tn_760
def T_762 : mS := setI T_761 226 ((3 : Int32).toNatClampNeg) (vp_nar .char (99 : Int32))
theorem tn_762 : T_762.1 = (227, 38931) := (n_setI T_761 226 ((3 : Int32).toNatClampNeg) (vp_nar .char (99 : Int32))).trans tn_761
def T_763 : mS := setI T_762 226 ((4 : Int32).toNatClampNeg) (vp_nar .char (107 : Int32))
theorem tn_763 : T_763.1 = (227, 38931) := (n_setI T_762 226 ((4 : Int32).toNatClampNeg) (vp_nar .char (107 : Int32))).trans tn_762
def T_764 : mS := setP T_763 162 89 (some 226)
theorem tn_764 : T_764.1 = (227, 38931) := (n_setP T_763 162 89 (some 226)).trans tn_763
def T_765 : mS := addC T_764 (102, 3) 3
theorem tn_765 : T_765.1 = (228, 38934) := n_addC tn_764
def T_766 : mS := setI T_765 227 ((0 : Int32).toNatClampNeg) (vp_nar .char (100 : Int32))
theorem tn_766 : T_766.1 = (228, 38934) := (n_setI T_765 227 ((0 : Int32).toNatClampNeg) (vp_nar .char (100 : Int32))).trans tn_765
def T_767 : mS := setI T_766 227 ((1 : Int32).toNatClampNeg) (vp_nar .char (97 : Int32))
theorem tn_767 : T_767.1 = (228, 38934) := (n_setI T_766 227 ((1 : Int32).toNatClampNeg) (vp_nar .char (97 : Int32))).trans tn_766
def T_768 : mS := setI T_767 227 ((2 : Int32).toNatClampNeg) (vp_nar .char (121 : Int32))
theorem tn_768 : T_768.1 = (228, 38934) := (n_setI T_767 227 ((2 : Int32).toNatClampNeg) (vp_nar .char (121 : Int32))).trans tn_767
def T_769 : mS := setP T_768 162 90 (some 227)
theorem tn_769 : T_769.1 = (228, 38934) := (n_setP T_768 162 90 (some 227)).trans tn_768
def T_770 : mS := addC T_769 (102, 5) 5
theorem tn_770 : T_770.1 = (229, 38939) := n_addC tn_769
def T_771 : mS := setI T_770 228 ((0 : Int32).toNatClampNeg) (vp_nar .char (112 : Int32))
theorem tn_771 : T_771.1 = (229, 38939) := (n_setI T_770 228 ((0 : Int32).toNatClampNeg) (vp_nar .char (112 : Int32))).trans tn_770
def T_772 : mS := setI T_771 228 ((1 : Int32).toNatClampNeg) (vp_nar .char (108 : Int32))
theorem tn_772 : T_772.1 = (229, 38939) := (n_setI T_771 228 ((1 : Int32).toNatClampNeg) (vp_nar .char (108 : Int32))).trans tn_771
def T_773 : mS := setI T_772 228 ((2 : Int32).toNatClampNeg) (vp_nar .char (97 : Int32))
theorem tn_773 : T_773.1 = (229, 38939) := (n_setI T_772 228 ((2 : Int32).toNatClampNeg) (vp_nar .char (97 : Int32))).trans tn_772
def T_774 : mS := setI T_773 228 ((3 : Int32).toNatClampNeg) (vp_nar .char (99 : Int32))
theorem tn_774 : T_774.1 = (229, 38939) := (n_setI T_773 228 ((3 : Int32).toNatClampNeg) (vp_nar .char (99 : Int32))).trans tn_773
def T_775 : mS := setI T_774 228 ((4 : Int32).toNatClampNeg) (vp_nar .char (101 : Int32))
theorem tn_775 : T_775.1 = (229, 38939) := (n_setI T_774 228 ((4 : Int32).toNatClampNeg) (vp_nar .char (101 : Int32))).trans tn_774
def T_776 : mS := setP T_775 162 91 (some 228)
theorem tn_776 : T_776.1 = (229, 38939) := (n_setP T_775 162 91 (some 228)).trans tn_775
def T_777 : mS := addC T_776 (102, 6) 6
theorem tn_777 : T_777.1 = (230, 38945) := n_addC tn_776
def T_778 : mS := setI T_777 229 ((0 : Int32).toNatClampNeg) (vp_nar .char (104 : Int32))
theorem tn_778 : T_778.1 = (230, 38945) := (n_setI T_777 229 ((0 : Int32).toNatClampNeg) (vp_nar .char (104 : Int32))).trans tn_777
def T_779 : mS := setI T_778 229 ((1 : Int32).toNatClampNeg) (vp_nar .char (117 : Int32))
theorem tn_779 : T_779.1 = (230, 38945) := (n_setI T_778 229 ((1 : Int32).toNatClampNeg) (vp_nar .char (117 : Int32))).trans tn_778
def T_780 : mS := setI T_779 229 ((2 : Int32).toNatClampNeg) (vp_nar .char (110 : Int32))
theorem tn_780 : T_780.1 = (230, 38945) := (n_setI T_779 229 ((2 : Int32).toNatClampNeg) (vp_nar .char (110 : Int32))).trans tn_779
def T_781 : mS := setI T_780 229 ((3 : Int32).toNatClampNeg) (vp_nar .char (103 : Int32))
theorem tn_781 : T_781.1 = (230, 38945) := (n_setI T_780 229 ((3 : Int32).toNatClampNeg) (vp_nar .char (103 : Int32))).trans tn_780
def T_782 : mS := setI T_781 229 ((4 : Int32).toNatClampNeg) (vp_nar .char (101 : Int32))
theorem tn_782 : T_782.1 = (230, 38945) := (n_setI T_781 229 ((4 : Int32).toNatClampNeg) (vp_nar .char (101 : Int32))).trans tn_781
def T_783 : mS := setI T_782 229 ((5 : Int32).toNatClampNeg) (vp_nar .char (114 : Int32))
theorem tn_783 : T_783.1 = (230, 38945) := (n_setI T_782 229 ((5 : Int32).toNatClampNeg) (vp_nar .char (114 : Int32))).trans tn_782
def T_784 : mS := setP T_783 162 92 (some 229)
theorem tn_784 : T_784.1 = (230, 38945) := (n_setP T_783 162 92 (some 229)).trans tn_783
def T_785 : mS := addC T_784 (102, 6) 6
theorem tn_785 : T_785.1 = (231, 38951) := n_addC tn_784
def T_786 : mS := setI T_785 230 ((0 : Int32).toNatClampNeg) (vp_nar .char (110 : Int32))
theorem tn_786 : T_786.1 = (231, 38951) := (n_setI T_785 230 ((0 : Int32).toNatClampNeg) (vp_nar .char (110 : Int32))).trans tn_785
def T_787 : mS := setI T_786 230 ((1 : Int32).toNatClampNeg) (vp_nar .char (117 : Int32))
theorem tn_787 : T_787.1 = (231, 38951) := (n_setI T_786 230 ((1 : Int32).toNatClampNeg) (vp_nar .char (117 : Int32))).trans tn_786
def T_788 : mS := setI T_787 230 ((2 : Int32).toNatClampNeg) (vp_nar .char (109 : Int32))
theorem tn_788 : T_788.1 = (231, 38951) := (n_setI T_787 230 ((2 : Int32).toNatClampNeg) (vp_nar .char (109 : Int32))).trans tn_787
def T_789 : mS := setI T_788 230 ((3 : Int32).toNatClampNeg) (vp_nar .char (98 : Int32))
theorem tn_789 : T_789.1 = (231, 38951) := (n_setI T_788 230 ((3 : Int32).toNatClampNeg) (vp_nar .char (98 : Int32))).trans tn_788
def T_790 : mS := setI T_789 230 ((4 : Int32).toNatClampNeg) (vp_nar .char (101 : Int32))
theorem tn_790 : T_790.1 = (231, 38951) := (n_setI T_789 230 ((4 : Int32).toNatClampNeg) (vp_nar .char (101 : Int32))).trans tn_789
def T_791 : mS := setI T_790 230 ((5 : Int32).toNatClampNeg) (vp_nar .char (114 : Int32))
theorem tn_791 : T_791.1 = (231, 38951) := (n_setI T_790 230 ((5 : Int32).toNatClampNeg) (vp_nar .char (114 : Int32))).trans tn_790
def T_792 : mS := setP T_791 162 93 (some 230)
theorem tn_792 : T_792.1 = (231, 38951) := (n_setP T_791 162 93 (some 230)).trans tn_791
def T_793 : mS := addC T_792 (102, 3) 3
theorem tn_793 : T_793.1 = (232, 38954) := n_addC tn_792
def T_794 : mS := setI T_793 231 ((0 : Int32).toNatClampNeg) (vp_nar .char (116 : Int32))
theorem tn_794 : T_794.1 = (232, 38954) := (n_setI T_793 231 ((0 : Int32).toNatClampNeg) (vp_nar .char (116 : Int32))).trans tn_793
def T_795 : mS := setI T_794 231 ((1 : Int32).toNatClampNeg) (vp_nar .char (111 : Int32))
theorem tn_795 : T_795.1 = (232, 38954) := (n_setI T_794 231 ((1 : Int32).toNatClampNeg) (vp_nar .char (111 : Int32))).trans tn_794
def T_796 : mS := setI T_795 231 ((2 : Int32).toNatClampNeg) (vp_nar .char (112 : Int32))
theorem tn_796 : T_796.1 = (232, 38954) := (n_setI T_795 231 ((2 : Int32).toNatClampNeg) (vp_nar .char (112 : Int32))).trans tn_795
def T_797 : mS := setP T_796 162 94 (some 231)
theorem tn_797 : T_797.1 = (232, 38954) := (n_setP T_796 162 94 (some 231)).trans tn_796
def T_798 : mS := addC T_797 (102, 6) 6
theorem tn_798 : T_798.1 = (233, 38960) := n_addC tn_797
def T_799 : mS := setI T_798 232 ((0 : Int32).toNatClampNeg) (vp_nar .char (98 : Int32))
theorem tn_799 : T_799.1 = (233, 38960) := (n_setI T_798 232 ((0 : Int32).toNatClampNeg) (vp_nar .char (98 : Int32))).trans tn_798
def T_800 : mS := setI T_799 232 ((1 : Int32).toNatClampNeg) (vp_nar .char (111 : Int32))
theorem tn_800 : T_800.1 = (233, 38960) := (n_setI T_799 232 ((1 : Int32).toNatClampNeg) (vp_nar .char (111 : Int32))).trans tn_799
def T_801 : mS := setI T_800 232 ((2 : Int32).toNatClampNeg) (vp_nar .char (116 : Int32))
theorem tn_801 : T_801.1 = (233, 38960) := (n_setI T_800 232 ((2 : Int32).toNatClampNeg) (vp_nar .char (116 : Int32))).trans tn_800
def T_802 : mS := setI T_801 232 ((3 : Int32).toNatClampNeg) (vp_nar .char (116 : Int32))
theorem tn_802 : T_802.1 = (233, 38960) := (n_setI T_801 232 ((3 : Int32).toNatClampNeg) (vp_nar .char (116 : Int32))).trans tn_801
def T_803 : mS := setI T_802 232 ((4 : Int32).toNatClampNeg) (vp_nar .char (111 : Int32))
theorem tn_803 : T_803.1 = (233, 38960) := (n_setI T_802 232 ((4 : Int32).toNatClampNeg) (vp_nar .char (111 : Int32))).trans tn_802
def T_804 : mS := setI T_803 232 ((5 : Int32).toNatClampNeg) (vp_nar .char (109 : Int32))
theorem tn_804 : T_804.1 = (233, 38960) := (n_setI T_803 232 ((5 : Int32).toNatClampNeg) (vp_nar .char (109 : Int32))).trans tn_803
def T_805 : mS := setP T_804 162 95 (some 232)
theorem tn_805 : T_805.1 = (233, 38960) := (n_setP T_804 162 95 (some 232)).trans tn_804
def T_806 : mS := addC T_805 (102, 4) 4
theorem tn_806 : T_806.1 = (234, 38964) := n_addC tn_805
def T_807 : mS := setI T_806 233 ((0 : Int32).toNatClampNeg) (vp_nar .char (119 : Int32))
theorem tn_807 : T_807.1 = (234, 38964) := (n_setI T_806 233 ((0 : Int32).toNatClampNeg) (vp_nar .char (119 : Int32))).trans tn_806
def T_808 : mS := setI T_807 233 ((1 : Int32).toNatClampNeg) (vp_nar .char (97 : Int32))
theorem tn_808 : T_808.1 = (234, 38964) := (n_setI T_807 233 ((1 : Int32).toNatClampNeg) (vp_nar .char (97 : Int32))).trans tn_807
def T_809 : mS := setI T_808 233 ((2 : Int32).toNatClampNeg) (vp_nar .char (121 : Int32))
theorem tn_809 : T_809.1 = (234, 38964) := (n_setI T_808 233 ((2 : Int32).toNatClampNeg) (vp_nar .char (121 : Int32))).trans tn_808
def T_810 : mS := setI T_809 233 ((3 : Int32).toNatClampNeg) (vp_nar .char (115 : Int32))
theorem tn_810 : T_810.1 = (234, 38964) := (n_setI T_809 233 ((3 : Int32).toNatClampNeg) (vp_nar .char (115 : Int32))).trans tn_809
def T_811 : mS := setP T_810 162 96 (some 233)
theorem tn_811 : T_811.1 = (234, 38964) := (n_setP T_810 162 96 (some 233)).trans tn_810
def T_812 : mS := addC T_811 (102, 3) 3
theorem tn_812 : T_812.1 = (235, 38967) := n_addC tn_811
def T_813 : mS := setI T_812 234 ((0 : Int32).toNatClampNeg) (vp_nar .char (104 : Int32))
theorem tn_813 : T_813.1 = (235, 38967) := (n_setI T_812 234 ((0 : Int32).toNatClampNeg) (vp_nar .char (104 : Int32))).trans tn_812
def T_814 : mS := setI T_813 234 ((1 : Int32).toNatClampNeg) (vp_nar .char (97 : Int32))
theorem tn_814 : T_814.1 = (235, 38967) := (n_setI T_813 234 ((1 : Int32).toNatClampNeg) (vp_nar .char (97 : Int32))).trans tn_813
def T_815 : mS := setI T_814 234 ((2 : Int32).toNatClampNeg) (vp_nar .char (100 : Int32))
theorem tn_815 : T_815.1 = (235, 38967) := (n_setI T_814 234 ((2 : Int32).toNatClampNeg) (vp_nar .char (100 : Int32))).trans tn_814
def T_816 : mS := setP T_815 162 97 (some 234)
theorem tn_816 : T_816.1 = (235, 38967) := (n_setP T_815 162 97 (some 234)).trans tn_815
def T_817 : mS := addC T_816 (102, 5) 5
theorem tn_817 : T_817.1 = (236, 38972) := n_addC tn_816
def T_818 : mS := setI T_817 235 ((0 : Int32).toNatClampNeg) (vp_nar .char (115 : Int32))
theorem tn_818 : T_818.1 = (236, 38972) := (n_setI T_817 235 ((0 : Int32).toNatClampNeg) (vp_nar .char (115 : Int32))).trans tn_817
def T_819 : mS := setI T_818 235 ((1 : Int32).toNatClampNeg) (vp_nar .char (116 : Int32))
theorem tn_819 : T_819.1 = (236, 38972) := (n_setI T_818 235 ((1 : Int32).toNatClampNeg) (vp_nar .char (116 : Int32))).trans tn_818
def T_820 : mS := setI T_819 235 ((2 : Int32).toNatClampNeg) (vp_nar .char (111 : Int32))
theorem tn_820 : T_820.1 = (236, 38972) := (n_setI T_819 235 ((2 : Int32).toNatClampNeg) (vp_nar .char (111 : Int32))).trans tn_819
def T_821 : mS := setI T_820 235 ((3 : Int32).toNatClampNeg) (vp_nar .char (99 : Int32))
theorem tn_821 : T_821.1 = (236, 38972) := (n_setI T_820 235 ((3 : Int32).toNatClampNeg) (vp_nar .char (99 : Int32))).trans tn_820
def T_822 : mS := setI T_821 235 ((4 : Int32).toNatClampNeg) (vp_nar .char (107 : Int32))
theorem tn_822 : T_822.1 = (236, 38972) := (n_setI T_821 235 ((4 : Int32).toNatClampNeg) (vp_nar .char (107 : Int32))).trans tn_821
def T_823 : mS := setP T_822 162 98 (some 235)
theorem tn_823 : T_823.1 = (236, 38972) := (n_setP T_822 162 98 (some 235)).trans tn_822
def T_824 : mS := addC T_823 (102, 4) 4
theorem tn_824 : T_824.1 = (237, 38976) := n_addC tn_823
def T_825 : mS := setI T_824 236 ((0 : Int32).toNatClampNeg) (vp_nar .char (102 : Int32))
theorem tn_825 : T_825.1 = (237, 38976) := (n_setI T_824 236 ((0 : Int32).toNatClampNeg) (vp_nar .char (102 : Int32))).trans tn_824
def T_826 : mS := setI T_825 236 ((1 : Int32).toNatClampNeg) (vp_nar .char (105 : Int32))
theorem tn_826 : T_826.1 = (237, 38976) := (n_setI T_825 236 ((1 : Int32).toNatClampNeg) (vp_nar .char (105 : Int32))).trans tn_825
def T_827 : mS := setI T_826 236 ((2 : Int32).toNatClampNeg) (vp_nar .char (116 : Int32))
theorem tn_827 : T_827.1 = (237, 38976) := (n_setI T_826 236 ((2 : Int32).toNatClampNeg) (vp_nar .char (116 : Int32))).trans tn_826
def T_828 : mS := setI T_827 236 ((3 : Int32).toNatClampNeg) (vp_nar .char (115 : Int32))
theorem tn_828 : T_828.1 = (237, 38976) := (n_setI T_827 236 ((3 : Int32).toNatClampNeg) (vp_nar .char (115 : Int32))).trans tn_827
def T_829 : mS := setP T_828 162 99 (some 236)
theorem tn_829 : T_829.1 = (237, 38976) := (n_setP T_828 162 99 (some 236)).trans tn_828
def T_830 : mS := addC T_829 (100, 1700) 1700
theorem tn_830 : T_830.1 = (238, 40676) := n_addC tn_829
def T_831 : mS := setP T_830 162 100 (some 237)
theorem tn_831 : T_831.1 = (238, 40676) := (n_setP T_830 162 100 (some 237)).trans tn_830
def T_832 : mS := addC T_831 (100, 1700) 1700
theorem tn_832 : T_832.1 = (239, 42376) := n_addC tn_831
def T_833 : mS := setP T_832 162 102 (some 238)
theorem tn_833 : T_833.1 = (239, 42376) := (n_setP T_832 162 102 (some 238)).trans tn_832
def T_834 : mS := addC T_833 (101, 1700) 1700
theorem tn_834 : T_834.1 = (240, 44076) := n_addC tn_833
def T_835 : mS := setP T_834 162 106 (some 239)
theorem tn_835 : T_835.1 = (240, 44076) := (n_setP T_834 162 106 (some 239)).trans tn_834
def T_836 : mS := addC T_835 (100, 69) 69
theorem tn_836 : T_836.1 = (241, 44145) := n_addC tn_835
def T_837 : mS := setP T_836 162 110 (some 240)
theorem tn_837 : T_837.1 = (241, 44145) := (n_setP T_836 162 110 (some 240)).trans tn_836
