-- the resolved code is that of the bytes
theorem ck_0_0 : chkP m_0 0 25 = true := by decide +kernel
theorem ck_0_25 : chkP m_0 25 25 = true := by decide +kernel
theorem ck_0_50 : chkP m_0 50 25 = true := by decide +kernel
theorem ck_0_75 : chkP m_0 75 25 = true := by decide +kernel
theorem ck_0_100 : chkP m_0 100 25 = true := by decide +kernel
theorem ck_0_125 : chkP m_0 125 25 = true := by decide +kernel
theorem ck_0_150 : chkP m_0 150 25 = true := by decide +kernel
theorem ck_0_175 : chkP m_0 175 25 = true := by decide +kernel
theorem ck_0_200 : chkP m_0 200 25 = true := by decide +kernel
theorem ck_0_225 : chkP m_0 225 25 = true := by decide +kernel
theorem ck_0_250 : chkP m_0 250 25 = true := by decide +kernel
theorem ck_0_275 : chkP m_0 275 25 = true := by decide +kernel
theorem ck_0_300 : chkP m_0 300 25 = true := by decide +kernel
theorem ck_0_325 : chkP m_0 325 25 = true := by decide +kernel
theorem ck_0_350 : chkP m_0 350 25 = true := by decide +kernel
theorem ck_0_375 : chkP m_0 375 25 = true := by decide +kernel
theorem ck_0_400 : chkP m_0 400 25 = true := by decide +kernel
theorem ck_0_425 : chkP m_0 425 25 = true := by decide +kernel
theorem ck_0_450 : chkP m_0 450 25 = true := by decide +kernel
theorem ck_0_475 : chkP m_0 475 25 = true := by decide +kernel
theorem ck_0_500 : chkP m_0 500 25 = true := by decide +kernel
theorem ck_0_525 : chkP m_0 525 25 = true := by decide +kernel
theorem ck_0_550 : chkP m_0 550 25 = true := by decide +kernel
theorem ck_0_575 : chkP m_0 575 25 = true := by decide +kernel
theorem ck_0_600 : chkP m_0 600 25 = true := by decide +kernel
theorem ck_0_625 : chkP m_0 625 25 = true := by decide +kernel
theorem ck_0_650 : chkP m_0 650 25 = true := by decide +kernel
theorem ck_0_675 : chkP m_0 675 25 = true := by decide +kernel
theorem ck_0_700 : chkP m_0 700 25 = true := by decide +kernel
theorem ck_0_725 : chkP m_0 725 25 = true := by decide +kernel
theorem ck_0_750 : chkP m_0 750 25 = true := by decide +kernel
theorem ck_0_775 : chkP m_0 775 25 = true := by decide +kernel
theorem ck_0_800 : chkP m_0 800 6 = true := by decide +kernel
theorem ck_0_l : (miC m_0).length = 806 := by decide +kernel
theorem ck_0 : chkM m_0 := by
  refine ⟨fun i hi => ?_, by decide +kernel⟩
  rw [ck_0_l] at hi
  by_cases h0 : i < 25
  · exact chkP_in ck_0_0 (by omega) (by omega)
  by_cases h25 : i < 50
  · exact chkP_in ck_0_25 (by omega) (by omega)
  by_cases h50 : i < 75
  · exact chkP_in ck_0_50 (by omega) (by omega)
  by_cases h75 : i < 100
  · exact chkP_in ck_0_75 (by omega) (by omega)
  by_cases h100 : i < 125
  · exact chkP_in ck_0_100 (by omega) (by omega)
  by_cases h125 : i < 150
  · exact chkP_in ck_0_125 (by omega) (by omega)
  by_cases h150 : i < 175
  · exact chkP_in ck_0_150 (by omega) (by omega)
  by_cases h175 : i < 200
  · exact chkP_in ck_0_175 (by omega) (by omega)
  by_cases h200 : i < 225
  · exact chkP_in ck_0_200 (by omega) (by omega)
  by_cases h225 : i < 250
  · exact chkP_in ck_0_225 (by omega) (by omega)
  by_cases h250 : i < 275
  · exact chkP_in ck_0_250 (by omega) (by omega)
  by_cases h275 : i < 300
  · exact chkP_in ck_0_275 (by omega) (by omega)
  by_cases h300 : i < 325
  · exact chkP_in ck_0_300 (by omega) (by omega)
  by_cases h325 : i < 350
  · exact chkP_in ck_0_325 (by omega) (by omega)
  by_cases h350 : i < 375
  · exact chkP_in ck_0_350 (by omega) (by omega)
  by_cases h375 : i < 400
  · exact chkP_in ck_0_375 (by omega) (by omega)
  by_cases h400 : i < 425
  · exact chkP_in ck_0_400 (by omega) (by omega)
  by_cases h425 : i < 450
  · exact chkP_in ck_0_425 (by omega) (by omega)
  by_cases h450 : i < 475
  · exact chkP_in ck_0_450 (by omega) (by omega)
  by_cases h475 : i < 500
  · exact chkP_in ck_0_475 (by omega) (by omega)
  by_cases h500 : i < 525
  · exact chkP_in ck_0_500 (by omega) (by omega)
  by_cases h525 : i < 550
  · exact chkP_in ck_0_525 (by omega) (by omega)
  by_cases h550 : i < 575
  · exact chkP_in ck_0_550 (by omega) (by omega)
  by_cases h575 : i < 600
  · exact chkP_in ck_0_575 (by omega) (by omega)
  by_cases h600 : i < 625
  · exact chkP_in ck_0_600 (by omega) (by omega)
  by_cases h625 : i < 650
  · exact chkP_in ck_0_625 (by omega) (by omega)
  by_cases h650 : i < 675
  · exact chkP_in ck_0_650 (by omega) (by omega)
  by_cases h675 : i < 700
  · exact chkP_in ck_0_675 (by omega) (by omega)
  by_cases h700 : i < 725
  · exact chkP_in ck_0_700 (by omega) (by omega)
  by_cases h725 : i < 750
  · exact chkP_in ck_0_725 (by omega) (by omega)
  by_cases h750 : i < 775
  · exact chkP_in ck_0_750 (by omega) (by omega)
  by_cases h775 : i < 800
  · exact chkP_in ck_0_775 (by omega) (by omega)
  exact chkP_in ck_0_800 (by omega) (by omega)
theorem ck_1 : chkM m_1 := chkM_1 (by decide +kernel)
theorem ck_2 : chkM m_2 := chkM_1 (by decide +kernel)
theorem ck_3 : chkM m_3 := chkM_1 (by decide +kernel)
theorem ck_4 : chkM m_4 := chkM_1 (by decide +kernel)
theorem ck_5 : chkM m_5 := chkM_1 (by decide +kernel)
theorem ck_6 : chkM m_6 := chkM_1 (by decide +kernel)
theorem ck_7 : chkM m_7 := chkM_1 (by decide +kernel)
theorem ck_8 : chkM m_8 := chkM_1 (by decide +kernel)
theorem ck_9 : chkM m_9 := chkM_1 (by decide +kernel)
theorem ck_10 : chkM m_10 := chkM_1 (by decide +kernel)
theorem ck_11 : chkM m_11 := chkM_1 (by decide +kernel)
theorem ck_12 : chkM m_12 := chkM_1 (by decide +kernel)
theorem ck_13 : chkM m_13 := chkM_1 (by decide +kernel)
theorem ck_14 : chkM m_14 := chkM_1 (by decide +kernel)
theorem ck_15 : chkM m_15 := chkM_1 (by decide +kernel)
theorem ck_16 : chkM m_16 := chkM_1 (by decide +kernel)
theorem ck_17 : chkM m_17 := chkM_1 (by decide +kernel)
theorem ck_18 : chkM m_18 := chkM_1 (by decide +kernel)
theorem ck_19 : chkM m_19 := chkM_1 (by decide +kernel)
theorem ck_20 : chkM m_20 := chkM_1 (by decide +kernel)
theorem ck_21 : chkM m_21 := chkM_1 (by decide +kernel)
theorem ck_22 : chkM m_22 := chkM_1 (by decide +kernel)
theorem ck_23 : chkM m_23 := chkM_1 (by decide +kernel)
theorem ck_24 : chkM m_24 := chkM_1 (by decide +kernel)
theorem ck_25 : chkM m_25 := chkM_1 (by decide +kernel)
theorem ck_26 : chkM m_26 := chkM_1 (by decide +kernel)
theorem ck_27 : chkM m_27 := chkM_1 (by decide +kernel)
theorem ck_28 : chkM m_28 := chkM_1 (by decide +kernel)
theorem ck_29 : chkM m_29 := chkM_1 (by decide +kernel)
theorem ck_30 : chkM m_30 := chkM_1 (by decide +kernel)
theorem ck_31 : chkM m_31 := chkM_1 (by decide +kernel)
theorem ck_32 : chkM m_32 := chkM_1 (by decide +kernel)
theorem ck_33 : chkM m_33 := chkM_1 (by decide +kernel)
theorem ck_34 : chkM m_34 := chkM_1 (by decide +kernel)
theorem ck_35 : chkM m_35 := chkM_1 (by decide +kernel)
theorem ck_36 : chkM m_36 := chkM_1 (by decide +kernel)
theorem ck_37 : chkM m_37 := chkM_1 (by decide +kernel)
theorem ck_38 : chkM m_38 := chkM_1 (by decide +kernel)
theorem ck_39 : chkM m_39 := chkM_1 (by decide +kernel)
theorem ck_40 : chkM m_40 := chkM_1 (by decide +kernel)
theorem ck_41 : chkM m_41 := chkM_1 (by decide +kernel)
theorem ck_42 : chkM m_42 := chkM_1 (by decide +kernel)
theorem ck_43 : chkM m_43 := chkM_1 (by decide +kernel)
theorem ck_44 : chkM m_44 := chkM_1 (by decide +kernel)
theorem ck_45 : chkM m_45 := chkM_1 (by decide +kernel)
theorem ck_46 : chkM m_46 := chkM_1 (by decide +kernel)
theorem ck_47 : chkM m_47 := chkM_1 (by decide +kernel)
theorem ck_48 : chkM m_48 := chkM_1 (by decide +kernel)
theorem ck_49 : chkM m_49 := chkM_1 (by decide +kernel)
theorem ck_50 : chkM m_50 := chkM_1 (by decide +kernel)
theorem ck_51 : chkM m_51 := chkM_1 (by decide +kernel)
theorem ck_52 : chkM m_52 := chkM_1 (by decide +kernel)
theorem ck_53 : chkM m_53 := chkM_1 (by decide +kernel)
theorem ck_54 : chkM m_54 := chkM_1 (by decide +kernel)
theorem ck_55 : chkM m_55 := chkM_1 (by decide +kernel)
theorem ck_56 : chkM m_56 := chkM_1 (by decide +kernel)
theorem ck_57 : chkM m_57 := chkM_1 (by decide +kernel)
theorem ck_58 : chkM m_58 := chkM_1 (by decide +kernel)
theorem ck_59 : chkM m_59 := chkM_1 (by decide +kernel)
theorem ck_60 : chkM m_60 := chkM_1 (by decide +kernel)
theorem ck_61 : chkM m_61 := chkM_1 (by decide +kernel)
theorem ck_62 : chkM m_62 := chkM_1 (by decide +kernel)
theorem ck_63 : chkM m_63 := chkM_1 (by decide +kernel)
theorem ck_64 : chkM m_64 := chkM_1 (by decide +kernel)
theorem ck_65 : chkM m_65 := chkM_1 (by decide +kernel)
theorem ck_66 : chkM m_66 := chkM_1 (by decide +kernel)
theorem ck_67 : chkM m_67 := chkM_1 (by decide +kernel)
theorem ck_68 : chkM m_68 := chkM_1 (by decide +kernel)
theorem ck_69 : chkM m_69 := chkM_1 (by decide +kernel)
theorem ck_70 : chkM m_70 := chkM_1 (by decide +kernel)
theorem ck_71 : chkM m_71 := chkM_1 (by decide +kernel)
theorem ck_72 : chkM m_72 := chkM_1 (by decide +kernel)
theorem ck_73 : chkM m_73 := chkM_1 (by decide +kernel)
theorem ck_74 : chkM m_74 := chkM_1 (by decide +kernel)
theorem ck_75 : chkM m_75 := chkM_1 (by decide +kernel)
theorem ck_76 : chkM m_76 := chkM_1 (by decide +kernel)
theorem ck_77 : chkM m_77 := chkM_1 (by decide +kernel)
theorem ck_78 : chkM m_78 := chkM_1 (by decide +kernel)
theorem ck_79 : chkM m_79 := chkM_1 (by decide +kernel)
theorem ck_80 : chkM m_80 := chkM_1 (by decide +kernel)
theorem ck_81 : chkM m_81 := chkM_1 (by decide +kernel)
theorem ck_82 : chkM m_82 := chkM_1 (by decide +kernel)
theorem ck_83 : chkM m_83 := chkM_1 (by decide +kernel)
theorem ck_84 : chkM m_84 := chkM_1 (by decide +kernel)
theorem ck_85 : chkM m_85 := chkM_1 (by decide +kernel)
theorem ck_86 : chkM m_86 := chkM_1 (by decide +kernel)
theorem ck_87 : chkM m_87 := chkM_1 (by decide +kernel)
theorem ck_88 : chkM m_88 := chkM_1 (by decide +kernel)
theorem ck_89 : chkM m_89 := chkM_1 (by decide +kernel)
theorem ck_90 : chkM m_90 := chkM_1 (by decide +kernel)
theorem ck_91 : chkM m_91 := chkM_1 (by decide +kernel)
theorem ck_92 : chkM m_92 := chkM_1 (by decide +kernel)
theorem ck_93 : chkM m_93 := chkM_1 (by decide +kernel)
theorem ck_94 : chkM m_94 := chkM_1 (by decide +kernel)
theorem ck_95 : chkM m_95 := chkM_1 (by decide +kernel)
theorem ck_96 : chkM m_96 := chkM_1 (by decide +kernel)
theorem ck_97 : chkM m_97 := chkM_1 (by decide +kernel)
theorem ck_98 : chkM m_98 := chkM_1 (by decide +kernel)
theorem ck_99 : chkM m_99 := chkM_1 (by decide +kernel)
theorem ck_100 : chkM m_100 := chkM_1 (by decide +kernel)
theorem ck_101 : chkM m_101 := chkM_1 (by decide +kernel)
theorem ck_102 : chkM m_102 := chkM_1 (by decide +kernel)
theorem ck_103 : chkM m_103 := chkM_1 (by decide +kernel)
theorem ck_104 : chkM m_104 := chkM_1 (by decide +kernel)
theorem ck_105 : chkM m_105 := chkM_1 (by decide +kernel)
theorem ck_106 : chkM m_106 := chkM_1 (by decide +kernel)
theorem ck_107 : chkM m_107 := chkM_1 (by decide +kernel)
theorem ck_108 : chkM m_108 := chkM_1 (by decide +kernel)
theorem ck_109 : chkM m_109 := chkM_1 (by decide +kernel)
theorem ck_110 : chkM m_110 := chkM_1 (by decide +kernel)
theorem ck_111 : chkM m_111 := chkM_1 (by decide +kernel)
theorem ck_112 : chkM m_112 := chkM_1 (by decide +kernel)
theorem ck_113 : chkM m_113 := chkM_1 (by decide +kernel)
theorem ck_114 : chkM m_114 := chkM_1 (by decide +kernel)
theorem ck_115 : chkM m_115 := chkM_1 (by decide +kernel)
theorem ck_116 : chkM m_116 := chkM_1 (by decide +kernel)
theorem ck_117 : chkM m_117 := chkM_1 (by decide +kernel)
theorem ck_118 : chkM m_118 := chkM_1 (by decide +kernel)
theorem ck_119 : chkM m_119 := chkM_1 (by decide +kernel)
theorem ck_120 : chkM m_120 := chkM_1 (by decide +kernel)
theorem ck_121 : chkM m_121 := chkM_1 (by decide +kernel)
theorem ck_122 : chkM m_122 := chkM_1 (by decide +kernel)
theorem ck_123 : chkM m_123 := chkM_1 (by decide +kernel)
theorem ck_124 : chkM m_124 := chkM_1 (by decide +kernel)
theorem ck_125 : chkM m_125 := chkM_1 (by decide +kernel)
theorem ck_126 : chkM m_126 := chkM_1 (by decide +kernel)
theorem ck_127 : chkM m_127 := chkM_1 (by decide +kernel)
theorem ck_128 : chkM m_128 := chkM_1 (by decide +kernel)
theorem ck_129 : chkM m_129 := chkM_1 (by decide +kernel)
theorem ck_130 : chkM m_130 := chkM_1 (by decide +kernel)
theorem ck_131 : chkM m_131 := chkM_1 (by decide +kernel)
theorem ck_132 : chkM m_132 := chkM_1 (by decide +kernel)
theorem ck_133 : chkM m_133 := chkM_1 (by decide +kernel)
theorem ck_134 : chkM m_134 := chkM_1 (by decide +kernel)
theorem ck_135 : chkM m_135 := chkM_1 (by decide +kernel)
theorem ck_136 : chkM m_136 := chkM_1 (by decide +kernel)
theorem ck_137 : chkM m_137 := chkM_1 (by decide +kernel)
theorem ck_138 : chkM m_138 := chkM_1 (by decide +kernel)
theorem ck_139 : chkM m_139 := chkM_1 (by decide +kernel)
theorem ck_140 : chkM m_140 := chkM_1 (by decide +kernel)
theorem ck_141 : chkM m_141 := chkM_1 (by decide +kernel)
theorem ck_142 : chkM m_142 := chkM_1 (by decide +kernel)
theorem ck_143 : chkM m_143 := chkM_1 (by decide +kernel)
theorem ck_144 : chkM m_144 := chkM_1 (by decide +kernel)
theorem ck_145 : chkM m_145 := chkM_1 (by decide +kernel)
theorem ck_146 : chkM m_146 := chkM_1 (by decide +kernel)
theorem ck_147 : chkM m_147 := chkM_1 (by decide +kernel)
theorem ck_148 : chkM m_148 := chkM_1 (by decide +kernel)
theorem ck_149 : chkM m_149 := chkM_1 (by decide +kernel)
theorem ck_150 : chkM m_150 := chkM_1 (by decide +kernel)
theorem ck_151 : chkM m_151 := chkM_1 (by decide +kernel)
theorem ck_152 : chkM m_152 := chkM_1 (by decide +kernel)
theorem ck_153 : chkM m_153 := chkM_1 (by decide +kernel)
theorem ck_154 : chkM m_154 := chkM_1 (by decide +kernel)
theorem ck_155 : chkM m_155 := chkM_1 (by decide +kernel)
theorem ck_156 : chkM m_156 := chkM_1 (by decide +kernel)
theorem ck_157 : chkM m_157 := chkM_1 (by decide +kernel)
theorem ck_158 : chkM m_158 := chkM_1 (by decide +kernel)
theorem ck_159 : chkM m_159 := chkM_1 (by decide +kernel)
theorem ck_160 : chkM m_160 := chkM_1 (by decide +kernel)
theorem ck_161 : chkM m_161 := chkM_1 (by decide +kernel)
theorem ck_162 : chkM m_162 := chkM_1 (by decide +kernel)
theorem ck_163 : chkM m_163 := chkM_1 (by decide +kernel)
theorem ck_164 : chkM m_164 := chkM_1 (by decide +kernel)
theorem ck_165 : chkM m_165 := chkM_1 (by decide +kernel)
theorem ck_166 : chkM m_166 := chkM_1 (by decide +kernel)
theorem ck_167 : chkM m_167 := chkM_1 (by decide +kernel)
theorem ck_168 : chkM m_168 := chkM_1 (by decide +kernel)
theorem ck_169 : chkM m_169 := chkM_1 (by decide +kernel)
theorem ck_170 : chkM m_170 := chkM_1 (by decide +kernel)
theorem ck_171 : chkM m_171 := chkM_1 (by decide +kernel)
theorem ck_172 : chkM m_172 := chkM_1 (by decide +kernel)
theorem ck_173 : chkM m_173 := chkM_1 (by decide +kernel)
theorem ck_174 : chkM m_174 := chkM_1 (by decide +kernel)
theorem ck_175 : chkM m_175 := chkM_1 (by decide +kernel)
theorem ck_176 : chkM m_176 := chkM_1 (by decide +kernel)
theorem ck_177 : chkM m_177 := chkM_1 (by decide +kernel)
theorem ck_178 : chkM m_178 := chkM_1 (by decide +kernel)
theorem ck_179 : chkM m_179 := chkM_1 (by decide +kernel)
theorem ck_180 : chkM m_180 := chkM_1 (by decide +kernel)
theorem ck_181 : chkM m_181 := chkM_1 (by decide +kernel)
theorem ck_182 : chkM m_182 := chkM_1 (by decide +kernel)
theorem ck_183_0 : chkP m_183 0 25 = true := by decide +kernel
theorem ck_183_25 : chkP m_183 25 25 = true := by decide +kernel
theorem ck_183_50 : chkP m_183 50 25 = true := by decide +kernel
theorem ck_183_75 : chkP m_183 75 25 = true := by decide +kernel
theorem ck_183_100 : chkP m_183 100 25 = true := by decide +kernel
theorem ck_183_125 : chkP m_183 125 25 = true := by decide +kernel
theorem ck_183_150 : chkP m_183 150 25 = true := by decide +kernel
theorem ck_183_175 : chkP m_183 175 25 = true := by decide +kernel
theorem ck_183_200 : chkP m_183 200 25 = true := by decide +kernel
theorem ck_183_225 : chkP m_183 225 25 = true := by decide +kernel
theorem ck_183_250 : chkP m_183 250 25 = true := by decide +kernel
theorem ck_183_275 : chkP m_183 275 25 = true := by decide +kernel
theorem ck_183_300 : chkP m_183 300 25 = true := by decide +kernel
theorem ck_183_325 : chkP m_183 325 25 = true := by decide +kernel
theorem ck_183_350 : chkP m_183 350 25 = true := by decide +kernel
theorem ck_183_375 : chkP m_183 375 25 = true := by decide +kernel
theorem ck_183_400 : chkP m_183 400 25 = true := by decide +kernel
theorem ck_183_425 : chkP m_183 425 25 = true := by decide +kernel
theorem ck_183_450 : chkP m_183 450 25 = true := by decide +kernel
theorem ck_183_475 : chkP m_183 475 25 = true := by decide +kernel
theorem ck_183_500 : chkP m_183 500 25 = true := by decide +kernel
theorem ck_183_525 : chkP m_183 525 25 = true := by decide +kernel
theorem ck_183_550 : chkP m_183 550 25 = true := by decide +kernel
theorem ck_183_575 : chkP m_183 575 25 = true := by decide +kernel
theorem ck_183_600 : chkP m_183 600 16 = true := by decide +kernel
theorem ck_183_l : (miC m_183).length = 616 := by decide +kernel
theorem ck_183 : chkM m_183 := by
  refine ⟨fun i hi => ?_, by decide +kernel⟩
  rw [ck_183_l] at hi
  by_cases h0 : i < 25
  · exact chkP_in ck_183_0 (by omega) (by omega)
  by_cases h25 : i < 50
  · exact chkP_in ck_183_25 (by omega) (by omega)
  by_cases h50 : i < 75
  · exact chkP_in ck_183_50 (by omega) (by omega)
  by_cases h75 : i < 100
  · exact chkP_in ck_183_75 (by omega) (by omega)
  by_cases h100 : i < 125
  · exact chkP_in ck_183_100 (by omega) (by omega)
  by_cases h125 : i < 150
  · exact chkP_in ck_183_125 (by omega) (by omega)
  by_cases h150 : i < 175
  · exact chkP_in ck_183_150 (by omega) (by omega)
  by_cases h175 : i < 200
  · exact chkP_in ck_183_175 (by omega) (by omega)
  by_cases h200 : i < 225
  · exact chkP_in ck_183_200 (by omega) (by omega)
  by_cases h225 : i < 250
  · exact chkP_in ck_183_225 (by omega) (by omega)
  by_cases h250 : i < 275
  · exact chkP_in ck_183_250 (by omega) (by omega)
  by_cases h275 : i < 300
  · exact chkP_in ck_183_275 (by omega) (by omega)
  by_cases h300 : i < 325
  · exact chkP_in ck_183_300 (by omega) (by omega)
  by_cases h325 : i < 350
  · exact chkP_in ck_183_325 (by omega) (by omega)
  by_cases h350 : i < 375
  · exact chkP_in ck_183_350 (by omega) (by omega)
  by_cases h375 : i < 400
  · exact chkP_in ck_183_375 (by omega) (by omega)
  by_cases h400 : i < 425
  · exact chkP_in ck_183_400 (by omega) (by omega)
  by_cases h425 : i < 450
  · exact chkP_in ck_183_425 (by omega) (by omega)
  by_cases h450 : i < 475
  · exact chkP_in ck_183_450 (by omega) (by omega)
  by_cases h475 : i < 500
  · exact chkP_in ck_183_475 (by omega) (by omega)
  by_cases h500 : i < 525
  · exact chkP_in ck_183_500 (by omega) (by omega)
  by_cases h525 : i < 550
  · exact chkP_in ck_183_525 (by omega) (by omega)
  by_cases h550 : i < 575
  · exact chkP_in ck_183_550 (by omega) (by omega)
  by_cases h575 : i < 600
  · exact chkP_in ck_183_575 (by omega) (by omega)
  exact chkP_in ck_183_600 (by omega) (by omega)
theorem ck_184 : chkM m_184 := chkM_1 (by decide +kernel)
theorem ck_185 : chkM m_185 := chkM_1 (by decide +kernel)
theorem ck_186 : chkM m_186 := chkM_1 (by decide +kernel)
theorem ck_187 : chkM m_187 := chkM_1 (by decide +kernel)
theorem ck_188 : chkM m_188 := chkM_1 (by decide +kernel)
theorem ck_189 : chkM m_189 := chkM_1 (by decide +kernel)
theorem ck_190 : chkM m_190 := chkM_1 (by decide +kernel)
theorem ck_191 : chkM m_191 := chkM_1 (by decide +kernel)
theorem ck_192 : chkM m_192 := chkM_1 (by decide +kernel)
theorem ck_193 : chkM m_193 := chkM_1 (by decide +kernel)
theorem ck_194 : chkM m_194 := chkM_1 (by decide +kernel)
theorem ck_195 : chkM m_195 := chkM_1 (by decide +kernel)
theorem ck_196 : chkM m_196 := chkM_1 (by decide +kernel)
theorem ck_197 : chkM m_197 := chkM_1 (by decide +kernel)
theorem ck_198 : chkM m_198 := chkM_1 (by decide +kernel)
theorem ck_199 : chkM m_199 := chkM_1 (by decide +kernel)
theorem ck_200 : chkM m_200 := chkM_1 (by decide +kernel)
theorem ck_201 : chkM m_201 := chkM_1 (by decide +kernel)
theorem ck_202 : chkM m_202 := chkM_1 (by decide +kernel)
theorem ck_203 : chkM m_203 := chkM_1 (by decide +kernel)
theorem ck_204 : chkM m_204 := chkM_1 (by decide +kernel)
theorem ck_205 : chkM m_205 := chkM_1 (by decide +kernel)
theorem ck_206 : chkM m_206 := chkM_1 (by decide +kernel)
theorem ck_207 : chkM m_207 := chkM_1 (by decide +kernel)
theorem ck_208 : chkM m_208 := chkM_1 (by decide +kernel)
theorem ck_209 : chkM m_209 := chkM_1 (by decide +kernel)
theorem ck_210 : chkM m_210 := chkM_1 (by decide +kernel)
theorem ck_211 : chkM m_211 := chkM_1 (by decide +kernel)
theorem ck_212 : chkM m_212 := chkM_1 (by decide +kernel)
theorem ck_213 : chkM m_213 := chkM_1 (by decide +kernel)
theorem ck_214 : chkM m_214 := chkM_1 (by decide +kernel)
theorem ck_215 : chkM m_215 := chkM_1 (by decide +kernel)
theorem ck_216 : chkM m_216 := chkM_1 (by decide +kernel)
theorem ck_217 : chkM m_217 := chkM_1 (by decide +kernel)
theorem ck_218 : chkM m_218 := chkM_1 (by decide +kernel)
theorem ck_219 : chkM m_219 := chkM_1 (by decide +kernel)
theorem ck_220 : chkM m_220 := chkM_1 (by decide +kernel)
theorem ck_221 : chkM m_221 := chkM_1 (by decide +kernel)
theorem ck_222 : chkM m_222 := chkM_1 (by decide +kernel)
theorem ck_223 : chkM m_223 := chkM_1 (by decide +kernel)
theorem ck_224 : chkM m_224 := chkM_1 (by decide +kernel)
theorem ck_225 : chkM m_225 := chkM_1 (by decide +kernel)
theorem ck_226 : chkM m_226 := chkM_1 (by decide +kernel)
theorem ck_227 : chkM m_227 := chkM_1 (by decide +kernel)
theorem ck_228 : chkM m_228 := chkM_1 (by decide +kernel)
theorem ck_229 : chkM m_229 := chkM_1 (by decide +kernel)
theorem ck_230 : chkM m_230 := chkM_1 (by decide +kernel)
theorem ck_231 : chkM m_231 := chkM_1 (by decide +kernel)
theorem ck_232 : chkM m_232 := chkM_1 (by decide +kernel)
theorem ck_233 : chkM m_233 := chkM_1 (by decide +kernel)
theorem ck_234 : chkM m_234 := chkM_1 (by decide +kernel)
theorem ck_235 : chkM m_235 := chkM_1 (by decide +kernel)
theorem ck_236 : chkM m_236 := chkM_1 (by decide +kernel)
theorem ck_237 : chkM m_237 := chkM_1 (by decide +kernel)
theorem ck_238 : chkM m_238 := chkM_1 (by decide +kernel)
theorem ck_239 : chkM m_239 := chkM_1 (by decide +kernel)
theorem ck_240 : chkM m_240 := chkM_1 (by decide +kernel)
theorem ck_241 : chkM m_241 := chkM_1 (by decide +kernel)
theorem ck_242 : chkM m_242 := chkM_1 (by decide +kernel)
theorem ck_243 : chkM m_243 := chkM_1 (by decide +kernel)
theorem ck_244 : chkM m_244 := chkM_1 (by decide +kernel)
theorem ck_245 : chkM m_245 := chkM_1 (by decide +kernel)
theorem ck_246 : chkM m_246 := chkM_1 (by decide +kernel)
theorem ck_247 : chkM m_247 := chkM_1 (by decide +kernel)
theorem ck_248 : chkM m_248 := chkM_1 (by decide +kernel)
theorem ck_249 : chkM m_249 := chkM_1 (by decide +kernel)
theorem ck_250 : chkM m_250 := chkM_1 (by decide +kernel)
theorem ck_251 : chkM m_251 := chkM_1 (by decide +kernel)
theorem ck_252 : chkM m_252 := chkM_1 (by decide +kernel)
theorem ck_253 : chkM m_253 := chkM_1 (by decide +kernel)
theorem ck_254 : chkM m_254 := chkM_1 (by decide +kernel)
theorem ck_255 : chkM m_255 := chkM_1 (by decide +kernel)
theorem ck_256 : chkM m_256 := chkM_1 (by decide +kernel)
theorem ck_257 : chkM m_257 := chkM_1 (by decide +kernel)
theorem ck_258 : chkM m_258 := chkM_1 (by decide +kernel)
theorem ck_259 : chkM m_259 := chkM_1 (by decide +kernel)
theorem ck_260 : chkM m_260 := chkM_1 (by decide +kernel)
theorem ck_261 : chkM m_261 := chkM_1 (by decide +kernel)
theorem ck_262 : chkM m_262 := chkM_1 (by decide +kernel)
theorem ck_263 : chkM m_263 := chkM_1 (by decide +kernel)
theorem ck_264 : chkM m_264 := chkM_1 (by decide +kernel)
theorem ck_265 : chkM m_265 := chkM_1 (by decide +kernel)
theorem ck_266 : chkM m_266 := chkM_1 (by decide +kernel)
theorem ck_267 : chkM m_267 := chkM_1 (by decide +kernel)
theorem ck_268 : chkM m_268 := chkM_1 (by decide +kernel)
theorem ck_269 : chkM m_269 := chkM_1 (by decide +kernel)
theorem ck_270 : chkM m_270 := chkM_1 (by decide +kernel)
theorem ck_271 : chkM m_271 := chkM_1 (by decide +kernel)
theorem ck_272 : chkM m_272 := chkM_1 (by decide +kernel)
theorem ck_273 : chkM m_273 := chkM_1 (by decide +kernel)
theorem ck_274 : chkM m_274 := chkM_1 (by decide +kernel)
theorem ck_275 : chkM m_275 := chkM_1 (by decide +kernel)
theorem ck_276 : chkM m_276 := chkM_1 (by decide +kernel)
theorem ck_277 : chkM m_277 := chkM_1 (by decide +kernel)
theorem ck_278 : chkM m_278 := chkM_1 (by decide +kernel)
theorem ck_279 : chkM m_279 := chkM_1 (by decide +kernel)
theorem ck_280 : chkM m_280 := chkM_1 (by decide +kernel)
theorem ck_281 : chkM m_281 := chkM_1 (by decide +kernel)
theorem ck_282 : chkM m_282 := chkM_1 (by decide +kernel)
theorem ck_283 : chkM m_283 := chkM_1 (by decide +kernel)
theorem ck_284 : chkM m_284 := chkM_1 (by decide +kernel)
theorem ck_285 : chkM m_285 := chkM_1 (by decide +kernel)
theorem ck_286 : chkM m_286 := chkM_1 (by decide +kernel)
theorem ck_287 : chkM m_287 := chkM_1 (by decide +kernel)
theorem ck_288 : chkM m_288 := chkM_1 (by decide +kernel)
theorem ck_289 : chkM m_289 := chkM_1 (by decide +kernel)
theorem ck_290 : chkM m_290 := chkM_1 (by decide +kernel)
theorem ck_291 : chkM m_291 := chkM_1 (by decide +kernel)
theorem ck_292 : chkM m_292 := chkM_1 (by decide +kernel)
theorem ck_293 : chkM m_293 := chkM_1 (by decide +kernel)
theorem ck_294 : chkM m_294 := chkM_1 (by decide +kernel)
theorem ck_295 : chkM m_295 := chkM_1 (by decide +kernel)
theorem ck_296 : chkM m_296 := chkM_1 (by decide +kernel)
theorem ck_297 : chkM m_297 := chkM_1 (by decide +kernel)
theorem ck_298 : chkM m_298 := chkM_1 (by decide +kernel)
theorem ck_299 : chkM m_299 := chkM_1 (by decide +kernel)
theorem ck_300 : chkM m_300 := chkM_1 (by decide +kernel)
theorem ck_301 : chkM m_301 := chkM_1 (by decide +kernel)
theorem ck_302 : chkM m_302 := chkM_1 (by decide +kernel)
theorem ck_303 : chkM m_303 := chkM_1 (by decide +kernel)
theorem ck_304 : chkM m_304 := chkM_1 (by decide +kernel)
theorem ck_305 : chkM m_305 := chkM_1 (by decide +kernel)
theorem ck_306 : chkM m_306 := chkM_1 (by decide +kernel)
theorem ck_307 : chkM m_307 := chkM_1 (by decide +kernel)
theorem ck_308 : chkM m_308 := chkM_1 (by decide +kernel)
theorem ck_309 : chkM m_309 := chkM_1 (by decide +kernel)
theorem ck_310 : chkM m_310 := chkM_1 (by decide +kernel)
theorem ck_311 : chkM m_311 := chkM_1 (by decide +kernel)
theorem ck_312 : chkM m_312 := chkM_1 (by decide +kernel)
theorem ck_313 : chkM m_313 := chkM_1 (by decide +kernel)
theorem ck_314 : chkM m_314 := chkM_1 (by decide +kernel)
theorem ck_315 : chkM m_315 := chkM_1 (by decide +kernel)
theorem ck_316 : chkM m_316 := chkM_1 (by decide +kernel)
theorem ck_317 : chkM m_317 := chkM_1 (by decide +kernel)
theorem ck_318 : chkM m_318 := chkM_1 (by decide +kernel)
theorem ck_319 : chkM m_319 := chkM_1 (by decide +kernel)
theorem ck_320 : chkM m_320 := chkM_1 (by decide +kernel)
theorem ck_321 : chkM m_321 := chkM_1 (by decide +kernel)
theorem ck_322 : chkM m_322 := chkM_1 (by decide +kernel)
theorem ck_323 : chkM m_323 := chkM_1 (by decide +kernel)
theorem ck_324 : chkM m_324 := chkM_1 (by decide +kernel)
theorem ck_325 : chkM m_325 := chkM_1 (by decide +kernel)
theorem ck_326 : chkM m_326 := chkM_1 (by decide +kernel)
theorem ck_327 : chkM m_327 := chkM_1 (by decide +kernel)
theorem ck_328 : chkM m_328 := chkM_1 (by decide +kernel)
theorem ck_329 : chkM m_329 := chkM_1 (by decide +kernel)
theorem ck_330 : chkM m_330 := chkM_1 (by decide +kernel)
theorem ck_331 : chkM m_331 := chkM_1 (by decide +kernel)
theorem ck_332 : chkM m_332 := chkM_1 (by decide +kernel)
theorem ck_333 : chkM m_333 := chkM_1 (by decide +kernel)
theorem ck_334 : chkM m_334 := chkM_1 (by decide +kernel)
theorem ck_335 : chkM m_335 := chkM_1 (by decide +kernel)
theorem ck_336 : chkM m_336 := chkM_1 (by decide +kernel)
theorem ck_337 : chkM m_337 := chkM_1 (by decide +kernel)
theorem ck_338 : chkM m_338 := chkM_1 (by decide +kernel)
theorem ck_339 : chkM m_339 := chkM_1 (by decide +kernel)
theorem ck_340 : chkM m_340 := chkM_1 (by decide +kernel)
theorem ck_341 : chkM m_341 := chkM_1 (by decide +kernel)
theorem ck_342 : chkM m_342 := chkM_1 (by decide +kernel)
theorem ck_343 : chkM m_343 := chkM_1 (by decide +kernel)
theorem ck_344 : chkM m_344 := chkM_1 (by decide +kernel)
theorem ck_345 : chkM m_345 := chkM_1 (by decide +kernel)
theorem ck_346 : chkM m_346 := chkM_1 (by decide +kernel)
theorem ck_347 : chkM m_347 := chkM_1 (by decide +kernel)
theorem ck_348 : chkM m_348 := chkM_1 (by decide +kernel)
theorem ck_349 : chkM m_349 := chkM_1 (by decide +kernel)
theorem ck_350 : chkM m_350 := chkM_1 (by decide +kernel)
theorem ck_351 : chkM m_351 := chkM_1 (by decide +kernel)
theorem ck_352 : chkM m_352 := chkM_1 (by decide +kernel)
theorem ck_353 : chkM m_353 := chkM_1 (by decide +kernel)
theorem ck_354 : chkM m_354 := chkM_1 (by decide +kernel)
theorem ck_355 : chkM m_355 := chkM_1 (by decide +kernel)
theorem ck_356 : chkM m_356 := chkM_1 (by decide +kernel)
theorem ck_357 : chkM m_357 := chkM_1 (by decide +kernel)
theorem ck_358 : chkM m_358 := chkM_1 (by decide +kernel)
theorem ck_359 : chkM m_359 := chkM_1 (by decide +kernel)
theorem ck_360 : chkM m_360 := chkM_1 (by decide +kernel)
theorem ck_361 : chkM m_361 := chkM_1 (by decide +kernel)
theorem ck_362 : chkM m_362 := chkM_1 (by decide +kernel)
theorem ck_363 : chkM m_363 := chkM_1 (by decide +kernel)
theorem ck_364 : chkM m_364 := chkM_1 (by decide +kernel)
theorem ck_365 : chkM m_365 := chkM_1 (by decide +kernel)
theorem ck_366 : chkM m_366 := chkM_1 (by decide +kernel)
theorem ck_367 : chkM m_367 := chkM_1 (by decide +kernel)
theorem ck_368 : chkM m_368 := chkM_1 (by decide +kernel)
theorem ck_369 : chkM m_369 := chkM_1 (by decide +kernel)
theorem ck_370 : chkM m_370 := chkM_1 (by decide +kernel)
theorem ckp_0 : ∀ x ∈ MIs_0, chkM x := List.forall_mem_cons.mpr ⟨ck_0, List.forall_mem_cons.mpr ⟨ck_1, List.forall_mem_cons.mpr ⟨ck_2, List.forall_mem_cons.mpr ⟨ck_3, List.forall_mem_cons.mpr ⟨ck_4, List.forall_mem_cons.mpr ⟨ck_5, List.forall_mem_cons.mpr ⟨ck_6, List.forall_mem_cons.mpr ⟨ck_7, List.forall_mem_cons.mpr ⟨ck_8, List.forall_mem_cons.mpr ⟨ck_9, List.forall_mem_cons.mpr ⟨ck_10, List.forall_mem_cons.mpr ⟨ck_11, List.forall_mem_cons.mpr ⟨ck_12, List.forall_mem_cons.mpr ⟨ck_13, List.forall_mem_cons.mpr ⟨ck_14, List.forall_mem_cons.mpr ⟨ck_15, List.forall_mem_cons.mpr ⟨ck_16, List.forall_mem_cons.mpr ⟨ck_17, List.forall_mem_cons.mpr ⟨ck_18, List.forall_mem_cons.mpr ⟨ck_19, List.forall_mem_cons.mpr ⟨ck_20, List.forall_mem_cons.mpr ⟨ck_21, List.forall_mem_cons.mpr ⟨ck_22, List.forall_mem_cons.mpr ⟨ck_23, List.forall_mem_cons.mpr ⟨ck_24, List.forall_mem_cons.mpr ⟨ck_25, List.forall_mem_cons.mpr ⟨ck_26, List.forall_mem_cons.mpr ⟨ck_27, List.forall_mem_cons.mpr ⟨ck_28, List.forall_mem_cons.mpr ⟨ck_29, List.forall_mem_cons.mpr ⟨ck_30, List.forall_mem_cons.mpr ⟨ck_31, List.forall_mem_cons.mpr ⟨ck_32, List.forall_mem_cons.mpr ⟨ck_33, List.forall_mem_cons.mpr ⟨ck_34, List.forall_mem_cons.mpr ⟨ck_35, List.forall_mem_cons.mpr ⟨ck_36, List.forall_mem_cons.mpr ⟨ck_37, List.forall_mem_cons.mpr ⟨ck_38, List.forall_mem_cons.mpr ⟨ck_39, fun _ h => absurd h List.not_mem_nil⟩⟩⟩⟩⟩⟩⟩⟩⟩⟩⟩⟩⟩⟩⟩⟩⟩⟩⟩⟩⟩⟩⟩⟩⟩⟩⟩⟩⟩⟩⟩⟩⟩⟩⟩⟩⟩⟩⟩⟩
theorem ckp_1 : ∀ x ∈ MIs_1, chkM x := List.forall_mem_cons.mpr ⟨ck_40, List.forall_mem_cons.mpr ⟨ck_41, List.forall_mem_cons.mpr ⟨ck_42, List.forall_mem_cons.mpr ⟨ck_43, List.forall_mem_cons.mpr ⟨ck_44, List.forall_mem_cons.mpr ⟨ck_45, List.forall_mem_cons.mpr ⟨ck_46, List.forall_mem_cons.mpr ⟨ck_47, List.forall_mem_cons.mpr ⟨ck_48, List.forall_mem_cons.mpr ⟨ck_49, List.forall_mem_cons.mpr ⟨ck_50, List.forall_mem_cons.mpr ⟨ck_51, List.forall_mem_cons.mpr ⟨ck_52, List.forall_mem_cons.mpr ⟨ck_53, List.forall_mem_cons.mpr ⟨ck_54, List.forall_mem_cons.mpr ⟨ck_55, List.forall_mem_cons.mpr ⟨ck_56, List.forall_mem_cons.mpr ⟨ck_57, List.forall_mem_cons.mpr ⟨ck_58, List.forall_mem_cons.mpr ⟨ck_59, List.forall_mem_cons.mpr ⟨ck_60, List.forall_mem_cons.mpr ⟨ck_61, List.forall_mem_cons.mpr ⟨ck_62, List.forall_mem_cons.mpr ⟨ck_63, List.forall_mem_cons.mpr ⟨ck_64, List.forall_mem_cons.mpr ⟨ck_65, List.forall_mem_cons.mpr ⟨ck_66, List.forall_mem_cons.mpr ⟨ck_67, List.forall_mem_cons.mpr ⟨ck_68, List.forall_mem_cons.mpr ⟨ck_69, List.forall_mem_cons.mpr ⟨ck_70, List.forall_mem_cons.mpr ⟨ck_71, List.forall_mem_cons.mpr ⟨ck_72, List.forall_mem_cons.mpr ⟨ck_73, List.forall_mem_cons.mpr ⟨ck_74, List.forall_mem_cons.mpr ⟨ck_75, List.forall_mem_cons.mpr ⟨ck_76, List.forall_mem_cons.mpr ⟨ck_77, List.forall_mem_cons.mpr ⟨ck_78, List.forall_mem_cons.mpr ⟨ck_79, fun _ h => absurd h List.not_mem_nil⟩⟩⟩⟩⟩⟩⟩⟩⟩⟩⟩⟩⟩⟩⟩⟩⟩⟩⟩⟩⟩⟩⟩⟩⟩⟩⟩⟩⟩⟩⟩⟩⟩⟩⟩⟩⟩⟩⟩⟩
theorem ckp_2 : ∀ x ∈ MIs_2, chkM x := List.forall_mem_cons.mpr ⟨ck_80, List.forall_mem_cons.mpr ⟨ck_81, List.forall_mem_cons.mpr ⟨ck_82, List.forall_mem_cons.mpr ⟨ck_83, List.forall_mem_cons.mpr ⟨ck_84, List.forall_mem_cons.mpr ⟨ck_85, List.forall_mem_cons.mpr ⟨ck_86, List.forall_mem_cons.mpr ⟨ck_87, List.forall_mem_cons.mpr ⟨ck_88, List.forall_mem_cons.mpr ⟨ck_89, List.forall_mem_cons.mpr ⟨ck_90, List.forall_mem_cons.mpr ⟨ck_91, List.forall_mem_cons.mpr ⟨ck_92, List.forall_mem_cons.mpr ⟨ck_93, List.forall_mem_cons.mpr ⟨ck_94, List.forall_mem_cons.mpr ⟨ck_95, List.forall_mem_cons.mpr ⟨ck_96, List.forall_mem_cons.mpr ⟨ck_97, List.forall_mem_cons.mpr ⟨ck_98, List.forall_mem_cons.mpr ⟨ck_99, List.forall_mem_cons.mpr ⟨ck_100, List.forall_mem_cons.mpr ⟨ck_101, List.forall_mem_cons.mpr ⟨ck_102, List.forall_mem_cons.mpr ⟨ck_103, List.forall_mem_cons.mpr ⟨ck_104, List.forall_mem_cons.mpr ⟨ck_105, List.forall_mem_cons.mpr ⟨ck_106, List.forall_mem_cons.mpr ⟨ck_107, List.forall_mem_cons.mpr ⟨ck_108, List.forall_mem_cons.mpr ⟨ck_109, List.forall_mem_cons.mpr ⟨ck_110, List.forall_mem_cons.mpr ⟨ck_111, List.forall_mem_cons.mpr ⟨ck_112, List.forall_mem_cons.mpr ⟨ck_113, List.forall_mem_cons.mpr ⟨ck_114, List.forall_mem_cons.mpr ⟨ck_115, List.forall_mem_cons.mpr ⟨ck_116, List.forall_mem_cons.mpr ⟨ck_117, List.forall_mem_cons.mpr ⟨ck_118, List.forall_mem_cons.mpr ⟨ck_119, fun _ h => absurd h List.not_mem_nil⟩⟩⟩⟩⟩⟩⟩⟩⟩⟩⟩⟩⟩⟩⟩⟩⟩⟩⟩⟩⟩⟩⟩⟩⟩⟩⟩⟩⟩⟩⟩⟩⟩⟩⟩⟩⟩⟩⟩⟩
theorem ckp_3 : ∀ x ∈ MIs_3, chkM x := List.forall_mem_cons.mpr ⟨ck_120, List.forall_mem_cons.mpr ⟨ck_121, List.forall_mem_cons.mpr ⟨ck_122, List.forall_mem_cons.mpr ⟨ck_123, List.forall_mem_cons.mpr ⟨ck_124, List.forall_mem_cons.mpr ⟨ck_125, List.forall_mem_cons.mpr ⟨ck_126, List.forall_mem_cons.mpr ⟨ck_127, List.forall_mem_cons.mpr ⟨ck_128, List.forall_mem_cons.mpr ⟨ck_129, List.forall_mem_cons.mpr ⟨ck_130, List.forall_mem_cons.mpr ⟨ck_131, List.forall_mem_cons.mpr ⟨ck_132, List.forall_mem_cons.mpr ⟨ck_133, List.forall_mem_cons.mpr ⟨ck_134, List.forall_mem_cons.mpr ⟨ck_135, List.forall_mem_cons.mpr ⟨ck_136, List.forall_mem_cons.mpr ⟨ck_137, List.forall_mem_cons.mpr ⟨ck_138, List.forall_mem_cons.mpr ⟨ck_139, List.forall_mem_cons.mpr ⟨ck_140, List.forall_mem_cons.mpr ⟨ck_141, List.forall_mem_cons.mpr ⟨ck_142, List.forall_mem_cons.mpr ⟨ck_143, List.forall_mem_cons.mpr ⟨ck_144, List.forall_mem_cons.mpr ⟨ck_145, List.forall_mem_cons.mpr ⟨ck_146, List.forall_mem_cons.mpr ⟨ck_147, List.forall_mem_cons.mpr ⟨ck_148, List.forall_mem_cons.mpr ⟨ck_149, List.forall_mem_cons.mpr ⟨ck_150, List.forall_mem_cons.mpr ⟨ck_151, List.forall_mem_cons.mpr ⟨ck_152, List.forall_mem_cons.mpr ⟨ck_153, List.forall_mem_cons.mpr ⟨ck_154, List.forall_mem_cons.mpr ⟨ck_155, List.forall_mem_cons.mpr ⟨ck_156, List.forall_mem_cons.mpr ⟨ck_157, List.forall_mem_cons.mpr ⟨ck_158, List.forall_mem_cons.mpr ⟨ck_159, fun _ h => absurd h List.not_mem_nil⟩⟩⟩⟩⟩⟩⟩⟩⟩⟩⟩⟩⟩⟩⟩⟩⟩⟩⟩⟩⟩⟩⟩⟩⟩⟩⟩⟩⟩⟩⟩⟩⟩⟩⟩⟩⟩⟩⟩⟩
theorem ckp_4 : ∀ x ∈ MIs_4, chkM x := List.forall_mem_cons.mpr ⟨ck_160, List.forall_mem_cons.mpr ⟨ck_161, List.forall_mem_cons.mpr ⟨ck_162, List.forall_mem_cons.mpr ⟨ck_163, List.forall_mem_cons.mpr ⟨ck_164, List.forall_mem_cons.mpr ⟨ck_165, List.forall_mem_cons.mpr ⟨ck_166, List.forall_mem_cons.mpr ⟨ck_167, List.forall_mem_cons.mpr ⟨ck_168, List.forall_mem_cons.mpr ⟨ck_169, List.forall_mem_cons.mpr ⟨ck_170, List.forall_mem_cons.mpr ⟨ck_171, List.forall_mem_cons.mpr ⟨ck_172, List.forall_mem_cons.mpr ⟨ck_173, List.forall_mem_cons.mpr ⟨ck_174, List.forall_mem_cons.mpr ⟨ck_175, List.forall_mem_cons.mpr ⟨ck_176, List.forall_mem_cons.mpr ⟨ck_177, List.forall_mem_cons.mpr ⟨ck_178, List.forall_mem_cons.mpr ⟨ck_179, List.forall_mem_cons.mpr ⟨ck_180, List.forall_mem_cons.mpr ⟨ck_181, List.forall_mem_cons.mpr ⟨ck_182, List.forall_mem_cons.mpr ⟨ck_183, List.forall_mem_cons.mpr ⟨ck_184, List.forall_mem_cons.mpr ⟨ck_185, List.forall_mem_cons.mpr ⟨ck_186, List.forall_mem_cons.mpr ⟨ck_187, List.forall_mem_cons.mpr ⟨ck_188, List.forall_mem_cons.mpr ⟨ck_189, List.forall_mem_cons.mpr ⟨ck_190, List.forall_mem_cons.mpr ⟨ck_191, List.forall_mem_cons.mpr ⟨ck_192, List.forall_mem_cons.mpr ⟨ck_193, List.forall_mem_cons.mpr ⟨ck_194, List.forall_mem_cons.mpr ⟨ck_195, List.forall_mem_cons.mpr ⟨ck_196, List.forall_mem_cons.mpr ⟨ck_197, List.forall_mem_cons.mpr ⟨ck_198, List.forall_mem_cons.mpr ⟨ck_199, fun _ h => absurd h List.not_mem_nil⟩⟩⟩⟩⟩⟩⟩⟩⟩⟩⟩⟩⟩⟩⟩⟩⟩⟩⟩⟩⟩⟩⟩⟩⟩⟩⟩⟩⟩⟩⟩⟩⟩⟩⟩⟩⟩⟩⟩⟩
theorem ckp_5 : ∀ x ∈ MIs_5, chkM x := List.forall_mem_cons.mpr ⟨ck_200, List.forall_mem_cons.mpr ⟨ck_201, List.forall_mem_cons.mpr ⟨ck_202, List.forall_mem_cons.mpr ⟨ck_203, List.forall_mem_cons.mpr ⟨ck_204, List.forall_mem_cons.mpr ⟨ck_205, List.forall_mem_cons.mpr ⟨ck_206, List.forall_mem_cons.mpr ⟨ck_207, List.forall_mem_cons.mpr ⟨ck_208, List.forall_mem_cons.mpr ⟨ck_209, List.forall_mem_cons.mpr ⟨ck_210, List.forall_mem_cons.mpr ⟨ck_211, List.forall_mem_cons.mpr ⟨ck_212, List.forall_mem_cons.mpr ⟨ck_213, List.forall_mem_cons.mpr ⟨ck_214, List.forall_mem_cons.mpr ⟨ck_215, List.forall_mem_cons.mpr ⟨ck_216, List.forall_mem_cons.mpr ⟨ck_217, List.forall_mem_cons.mpr ⟨ck_218, List.forall_mem_cons.mpr ⟨ck_219, List.forall_mem_cons.mpr ⟨ck_220, List.forall_mem_cons.mpr ⟨ck_221, List.forall_mem_cons.mpr ⟨ck_222, List.forall_mem_cons.mpr ⟨ck_223, List.forall_mem_cons.mpr ⟨ck_224, List.forall_mem_cons.mpr ⟨ck_225, List.forall_mem_cons.mpr ⟨ck_226, List.forall_mem_cons.mpr ⟨ck_227, List.forall_mem_cons.mpr ⟨ck_228, List.forall_mem_cons.mpr ⟨ck_229, List.forall_mem_cons.mpr ⟨ck_230, List.forall_mem_cons.mpr ⟨ck_231, List.forall_mem_cons.mpr ⟨ck_232, List.forall_mem_cons.mpr ⟨ck_233, List.forall_mem_cons.mpr ⟨ck_234, List.forall_mem_cons.mpr ⟨ck_235, List.forall_mem_cons.mpr ⟨ck_236, List.forall_mem_cons.mpr ⟨ck_237, List.forall_mem_cons.mpr ⟨ck_238, List.forall_mem_cons.mpr ⟨ck_239, fun _ h => absurd h List.not_mem_nil⟩⟩⟩⟩⟩⟩⟩⟩⟩⟩⟩⟩⟩⟩⟩⟩⟩⟩⟩⟩⟩⟩⟩⟩⟩⟩⟩⟩⟩⟩⟩⟩⟩⟩⟩⟩⟩⟩⟩⟩
theorem ckp_6 : ∀ x ∈ MIs_6, chkM x := List.forall_mem_cons.mpr ⟨ck_240, List.forall_mem_cons.mpr ⟨ck_241, List.forall_mem_cons.mpr ⟨ck_242, List.forall_mem_cons.mpr ⟨ck_243, List.forall_mem_cons.mpr ⟨ck_244, List.forall_mem_cons.mpr ⟨ck_245, List.forall_mem_cons.mpr ⟨ck_246, List.forall_mem_cons.mpr ⟨ck_247, List.forall_mem_cons.mpr ⟨ck_248, List.forall_mem_cons.mpr ⟨ck_249, List.forall_mem_cons.mpr ⟨ck_250, List.forall_mem_cons.mpr ⟨ck_251, List.forall_mem_cons.mpr ⟨ck_252, List.forall_mem_cons.mpr ⟨ck_253, List.forall_mem_cons.mpr ⟨ck_254, List.forall_mem_cons.mpr ⟨ck_255, List.forall_mem_cons.mpr ⟨ck_256, List.forall_mem_cons.mpr ⟨ck_257, List.forall_mem_cons.mpr ⟨ck_258, List.forall_mem_cons.mpr ⟨ck_259, List.forall_mem_cons.mpr ⟨ck_260, List.forall_mem_cons.mpr ⟨ck_261, List.forall_mem_cons.mpr ⟨ck_262, List.forall_mem_cons.mpr ⟨ck_263, List.forall_mem_cons.mpr ⟨ck_264, List.forall_mem_cons.mpr ⟨ck_265, List.forall_mem_cons.mpr ⟨ck_266, List.forall_mem_cons.mpr ⟨ck_267, List.forall_mem_cons.mpr ⟨ck_268, List.forall_mem_cons.mpr ⟨ck_269, List.forall_mem_cons.mpr ⟨ck_270, List.forall_mem_cons.mpr ⟨ck_271, List.forall_mem_cons.mpr ⟨ck_272, List.forall_mem_cons.mpr ⟨ck_273, List.forall_mem_cons.mpr ⟨ck_274, List.forall_mem_cons.mpr ⟨ck_275, List.forall_mem_cons.mpr ⟨ck_276, List.forall_mem_cons.mpr ⟨ck_277, List.forall_mem_cons.mpr ⟨ck_278, List.forall_mem_cons.mpr ⟨ck_279, fun _ h => absurd h List.not_mem_nil⟩⟩⟩⟩⟩⟩⟩⟩⟩⟩⟩⟩⟩⟩⟩⟩⟩⟩⟩⟩⟩⟩⟩⟩⟩⟩⟩⟩⟩⟩⟩⟩⟩⟩⟩⟩⟩⟩⟩⟩
theorem ckp_7 : ∀ x ∈ MIs_7, chkM x := List.forall_mem_cons.mpr ⟨ck_280, List.forall_mem_cons.mpr ⟨ck_281, List.forall_mem_cons.mpr ⟨ck_282, List.forall_mem_cons.mpr ⟨ck_283, List.forall_mem_cons.mpr ⟨ck_284, List.forall_mem_cons.mpr ⟨ck_285, List.forall_mem_cons.mpr ⟨ck_286, List.forall_mem_cons.mpr ⟨ck_287, List.forall_mem_cons.mpr ⟨ck_288, List.forall_mem_cons.mpr ⟨ck_289, List.forall_mem_cons.mpr ⟨ck_290, List.forall_mem_cons.mpr ⟨ck_291, List.forall_mem_cons.mpr ⟨ck_292, List.forall_mem_cons.mpr ⟨ck_293, List.forall_mem_cons.mpr ⟨ck_294, List.forall_mem_cons.mpr ⟨ck_295, List.forall_mem_cons.mpr ⟨ck_296, List.forall_mem_cons.mpr ⟨ck_297, List.forall_mem_cons.mpr ⟨ck_298, List.forall_mem_cons.mpr ⟨ck_299, List.forall_mem_cons.mpr ⟨ck_300, List.forall_mem_cons.mpr ⟨ck_301, List.forall_mem_cons.mpr ⟨ck_302, List.forall_mem_cons.mpr ⟨ck_303, List.forall_mem_cons.mpr ⟨ck_304, List.forall_mem_cons.mpr ⟨ck_305, List.forall_mem_cons.mpr ⟨ck_306, List.forall_mem_cons.mpr ⟨ck_307, List.forall_mem_cons.mpr ⟨ck_308, List.forall_mem_cons.mpr ⟨ck_309, List.forall_mem_cons.mpr ⟨ck_310, List.forall_mem_cons.mpr ⟨ck_311, List.forall_mem_cons.mpr ⟨ck_312, List.forall_mem_cons.mpr ⟨ck_313, List.forall_mem_cons.mpr ⟨ck_314, List.forall_mem_cons.mpr ⟨ck_315, List.forall_mem_cons.mpr ⟨ck_316, List.forall_mem_cons.mpr ⟨ck_317, List.forall_mem_cons.mpr ⟨ck_318, List.forall_mem_cons.mpr ⟨ck_319, fun _ h => absurd h List.not_mem_nil⟩⟩⟩⟩⟩⟩⟩⟩⟩⟩⟩⟩⟩⟩⟩⟩⟩⟩⟩⟩⟩⟩⟩⟩⟩⟩⟩⟩⟩⟩⟩⟩⟩⟩⟩⟩⟩⟩⟩⟩
theorem ckp_8 : ∀ x ∈ MIs_8, chkM x := List.forall_mem_cons.mpr ⟨ck_320, List.forall_mem_cons.mpr ⟨ck_321, List.forall_mem_cons.mpr ⟨ck_322, List.forall_mem_cons.mpr ⟨ck_323, List.forall_mem_cons.mpr ⟨ck_324, List.forall_mem_cons.mpr ⟨ck_325, List.forall_mem_cons.mpr ⟨ck_326, List.forall_mem_cons.mpr ⟨ck_327, List.forall_mem_cons.mpr ⟨ck_328, List.forall_mem_cons.mpr ⟨ck_329, List.forall_mem_cons.mpr ⟨ck_330, List.forall_mem_cons.mpr ⟨ck_331, List.forall_mem_cons.mpr ⟨ck_332, List.forall_mem_cons.mpr ⟨ck_333, List.forall_mem_cons.mpr ⟨ck_334, List.forall_mem_cons.mpr ⟨ck_335, List.forall_mem_cons.mpr ⟨ck_336, List.forall_mem_cons.mpr ⟨ck_337, List.forall_mem_cons.mpr ⟨ck_338, List.forall_mem_cons.mpr ⟨ck_339, List.forall_mem_cons.mpr ⟨ck_340, List.forall_mem_cons.mpr ⟨ck_341, List.forall_mem_cons.mpr ⟨ck_342, List.forall_mem_cons.mpr ⟨ck_343, List.forall_mem_cons.mpr ⟨ck_344, List.forall_mem_cons.mpr ⟨ck_345, List.forall_mem_cons.mpr ⟨ck_346, List.forall_mem_cons.mpr ⟨ck_347, List.forall_mem_cons.mpr ⟨ck_348, List.forall_mem_cons.mpr ⟨ck_349, List.forall_mem_cons.mpr ⟨ck_350, List.forall_mem_cons.mpr ⟨ck_351, List.forall_mem_cons.mpr ⟨ck_352, List.forall_mem_cons.mpr ⟨ck_353, List.forall_mem_cons.mpr ⟨ck_354, List.forall_mem_cons.mpr ⟨ck_355, List.forall_mem_cons.mpr ⟨ck_356, List.forall_mem_cons.mpr ⟨ck_357, List.forall_mem_cons.mpr ⟨ck_358, List.forall_mem_cons.mpr ⟨ck_359, fun _ h => absurd h List.not_mem_nil⟩⟩⟩⟩⟩⟩⟩⟩⟩⟩⟩⟩⟩⟩⟩⟩⟩⟩⟩⟩⟩⟩⟩⟩⟩⟩⟩⟩⟩⟩⟩⟩⟩⟩⟩⟩⟩⟩⟩⟩
theorem ckp_9 : ∀ x ∈ MIs_9, chkM x := List.forall_mem_cons.mpr ⟨ck_360, List.forall_mem_cons.mpr ⟨ck_361, List.forall_mem_cons.mpr ⟨ck_362, List.forall_mem_cons.mpr ⟨ck_363, List.forall_mem_cons.mpr ⟨ck_364, List.forall_mem_cons.mpr ⟨ck_365, List.forall_mem_cons.mpr ⟨ck_366, List.forall_mem_cons.mpr ⟨ck_367, List.forall_mem_cons.mpr ⟨ck_368, List.forall_mem_cons.mpr ⟨ck_369, List.forall_mem_cons.mpr ⟨ck_370, fun _ h => absurd h List.not_mem_nil⟩⟩⟩⟩⟩⟩⟩⟩⟩⟩⟩
theorem ck_all : ∀ x ∈ MIs, chkM x := by
  intro x hx
  simp only [MIs, List.mem_append] at hx
  rcases hx with h | h | h | h | h | h | h | h | h | h
  · exact ckp_0 x h
  · exact ckp_1 x h
  · exact ckp_2 x h
  · exact ckp_3 x h
  · exact ckp_4 x h
  · exact ckp_5 x h
  · exact ckp_6 x h
  · exact ckp_7 x h
  · exact ckp_8 x h
  · exact ckp_9 x h
