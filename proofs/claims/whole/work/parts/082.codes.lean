-- the words of the code of the methods
theorem in_tables_1_1 : ∀ w ∈ tables_1_1, w ∈ lw_tbl := by
  intro w h
  refine List.mem_append_right _ ?_
  unfold tables_1
  simp only [List.mem_append]
  simp only [h, true_or, or_true]
theorem in_tables_1_2 : ∀ w ∈ tables_1_2, w ∈ lw_tbl := by
  intro w h
  refine List.mem_append_right _ ?_
  unfold tables_1
  simp only [List.mem_append]
  simp only [h, true_or, or_true]
theorem in_tables_1_3 : ∀ w ∈ tables_1_3, w ∈ lw_tbl := by
  intro w h
  refine List.mem_append_right _ ?_
  unfold tables_1
  simp only [List.mem_append]
  simp only [h, true_or, or_true]
theorem in_tables_1_4 : ∀ w ∈ tables_1_4, w ∈ lw_tbl := by
  intro w h
  refine List.mem_append_right _ ?_
  unfold tables_1
  simp only [List.mem_append]
  simp only [h, true_or, or_true]
theorem in_tables_1_5 : ∀ w ∈ tables_1_5, w ∈ lw_tbl := by
  intro w h
  refine List.mem_append_right _ ?_
  unfold tables_1
  simp only [List.mem_append]
  simp only [h, true_or, or_true]
theorem in_tables_1_6 : ∀ w ∈ tables_1_6, w ∈ lw_tbl := by
  intro w h
  refine List.mem_append_right _ ?_
  unfold tables_1
  simp only [List.mem_append]
  simp only [h, true_or, or_true]
theorem in_tables_1_7 : ∀ w ∈ tables_1_7, w ∈ lw_tbl := by
  intro w h
  refine List.mem_append_right _ ?_
  unfold tables_1
  simp only [List.mem_append]
  simp only [h, true_or, or_true]
theorem in_tables_1_8 : ∀ w ∈ tables_1_8, w ∈ lw_tbl := by
  intro w h
  refine List.mem_append_right _ ?_
  unfold tables_1
  simp only [List.mem_append]
  simp only [h, true_or, or_true]
theorem in_tables_1_9 : ∀ w ∈ tables_1_9, w ∈ lw_tbl := by
  intro w h
  refine List.mem_append_right _ ?_
  unfold tables_1
  simp only [List.mem_append]
  simp only [h, true_or, or_true]
theorem in_tables_1_10 : ∀ w ∈ tables_1_10, w ∈ lw_tbl := by
  intro w h
  refine List.mem_append_right _ ?_
  unfold tables_1
  simp only [List.mem_append]
  simp only [h, true_or, or_true]
def cwd (x : MI) : Prop := Cond.code (miY x) (miB x) (miL x) (miR x) ∈ lw_tbl
theorem cw_1 : tables_1_1[28]? = some (.code (miY m_1) (miB m_1) (miL m_1) (miR m_1)) := rfl
theorem cw_2 : tables_1_1[36]? = some (.code (miY m_2) (miB m_2) (miL m_2) (miR m_2)) := rfl
theorem cw_3 : tables_1_1[46]? = some (.code (miY m_3) (miB m_3) (miL m_3) (miR m_3)) := rfl
theorem cw_4 : tables_1_1[53]? = some (.code (miY m_4) (miB m_4) (miL m_4) (miR m_4)) := rfl
theorem cw_5 : tables_1_1[74]? = some (.code (miY m_5) (miB m_5) (miL m_5) (miR m_5)) := rfl
theorem cw_6 : tables_1_1[194]? = some (.code (miY m_6) (miB m_6) (miL m_6) (miR m_6)) := rfl
theorem cw_7 : tables_1_2[0]? = some (.code (miY m_7) (miB m_7) (miL m_7) (miR m_7)) := rfl
theorem cw_8 : tables_1_2[39]? = some (.code (miY m_8) (miB m_8) (miL m_8) (miR m_8)) := rfl
theorem cw_9 : tables_1_3[48]? = some (.code (miY m_9) (miB m_9) (miL m_9) (miR m_9)) := rfl
theorem cw_10 : tables_1_3[110]? = some (.code (miY m_10) (miB m_10) (miL m_10) (miR m_10)) := rfl
theorem cw_11 : tables_1_3[147]? = some (.code (miY m_11) (miB m_11) (miL m_11) (miR m_11)) := rfl
theorem cw_12 : tables_1_3[164]? = some (.code (miY m_12) (miB m_12) (miL m_12) (miR m_12)) := rfl
theorem cw_13 : tables_1_3[180]? = some (.code (miY m_13) (miB m_13) (miL m_13) (miR m_13)) := rfl
theorem cw_14 : tables_1_4[13]? = some (.code (miY m_14) (miB m_14) (miL m_14) (miR m_14)) := rfl
theorem cw_15 : tables_1_4[17]? = some (.code (miY m_15) (miB m_15) (miL m_15) (miR m_15)) := rfl
theorem cw_16 : tables_1_4[21]? = some (.code (miY m_16) (miB m_16) (miL m_16) (miR m_16)) := rfl
theorem cw_17 : tables_1_4[25]? = some (.code (miY m_17) (miB m_17) (miL m_17) (miR m_17)) := rfl
theorem cw_18 : tables_1_4[29]? = some (.code (miY m_18) (miB m_18) (miL m_18) (miR m_18)) := rfl
theorem cw_19 : tables_1_4[33]? = some (.code (miY m_19) (miB m_19) (miL m_19) (miR m_19)) := rfl
theorem cw_20 : tables_1_4[37]? = some (.code (miY m_20) (miB m_20) (miL m_20) (miR m_20)) := rfl
theorem cw_21 : tables_1_4[41]? = some (.code (miY m_21) (miB m_21) (miL m_21) (miR m_21)) := rfl
theorem cw_22 : tables_1_4[45]? = some (.code (miY m_22) (miB m_22) (miL m_22) (miR m_22)) := rfl
theorem cw_23 : tables_1_4[49]? = some (.code (miY m_23) (miB m_23) (miL m_23) (miR m_23)) := rfl
theorem cw_24 : tables_1_4[53]? = some (.code (miY m_24) (miB m_24) (miL m_24) (miR m_24)) := rfl
theorem cw_25 : tables_1_4[57]? = some (.code (miY m_25) (miB m_25) (miL m_25) (miR m_25)) := rfl
theorem cw_26 : tables_1_4[61]? = some (.code (miY m_26) (miB m_26) (miL m_26) (miR m_26)) := rfl
theorem cw_27 : tables_1_4[65]? = some (.code (miY m_27) (miB m_27) (miL m_27) (miR m_27)) := rfl
theorem cw_28 : tables_1_4[69]? = some (.code (miY m_28) (miB m_28) (miL m_28) (miR m_28)) := rfl
theorem cw_29 : tables_1_4[72]? = some (.code (miY m_29) (miB m_29) (miL m_29) (miR m_29)) := rfl
theorem cw_30 : tables_1_4[76]? = some (.code (miY m_30) (miB m_30) (miL m_30) (miR m_30)) := rfl
theorem cw_31 : tables_1_4[80]? = some (.code (miY m_31) (miB m_31) (miL m_31) (miR m_31)) := rfl
theorem cw_32 : tables_1_4[84]? = some (.code (miY m_32) (miB m_32) (miL m_32) (miR m_32)) := rfl
theorem cw_33 : tables_1_4[89]? = some (.code (miY m_33) (miB m_33) (miL m_33) (miR m_33)) := rfl
theorem cw_34 : tables_1_4[93]? = some (.code (miY m_34) (miB m_34) (miL m_34) (miR m_34)) := rfl
theorem cw_35 : tables_1_4[97]? = some (.code (miY m_35) (miB m_35) (miL m_35) (miR m_35)) := rfl
theorem cw_36 : tables_1_4[101]? = some (.code (miY m_36) (miB m_36) (miL m_36) (miR m_36)) := rfl
theorem cw_37 : tables_1_4[105]? = some (.code (miY m_37) (miB m_37) (miL m_37) (miR m_37)) := rfl
theorem cw_38 : tables_1_4[109]? = some (.code (miY m_38) (miB m_38) (miL m_38) (miR m_38)) := rfl
theorem cw_39 : tables_1_4[113]? = some (.code (miY m_39) (miB m_39) (miL m_39) (miR m_39)) := rfl
theorem cw_40 : tables_1_4[117]? = some (.code (miY m_40) (miB m_40) (miL m_40) (miR m_40)) := rfl
theorem cw_41 : tables_1_4[121]? = some (.code (miY m_41) (miB m_41) (miL m_41) (miR m_41)) := rfl
theorem cw_42 : tables_1_4[125]? = some (.code (miY m_42) (miB m_42) (miL m_42) (miR m_42)) := rfl
theorem cw_43 : tables_1_4[129]? = some (.code (miY m_43) (miB m_43) (miL m_43) (miR m_43)) := rfl
theorem cw_44 : tables_1_4[133]? = some (.code (miY m_44) (miB m_44) (miL m_44) (miR m_44)) := rfl
theorem cw_45 : tables_1_4[137]? = some (.code (miY m_45) (miB m_45) (miL m_45) (miR m_45)) := rfl
theorem cw_46 : tables_1_4[141]? = some (.code (miY m_46) (miB m_46) (miL m_46) (miR m_46)) := rfl
theorem cw_47 : tables_1_4[145]? = some (.code (miY m_47) (miB m_47) (miL m_47) (miR m_47)) := rfl
theorem cw_48 : tables_1_4[149]? = some (.code (miY m_48) (miB m_48) (miL m_48) (miR m_48)) := rfl
theorem cw_49 : tables_1_4[153]? = some (.code (miY m_49) (miB m_49) (miL m_49) (miR m_49)) := rfl
theorem cw_50 : tables_1_4[157]? = some (.code (miY m_50) (miB m_50) (miL m_50) (miR m_50)) := rfl
theorem cw_51 : tables_1_4[161]? = some (.code (miY m_51) (miB m_51) (miL m_51) (miR m_51)) := rfl
theorem cw_52 : tables_1_4[165]? = some (.code (miY m_52) (miB m_52) (miL m_52) (miR m_52)) := rfl
theorem cw_53 : tables_1_4[169]? = some (.code (miY m_53) (miB m_53) (miL m_53) (miR m_53)) := rfl
theorem cw_54 : tables_1_4[173]? = some (.code (miY m_54) (miB m_54) (miL m_54) (miR m_54)) := rfl
theorem cw_55 : tables_1_4[177]? = some (.code (miY m_55) (miB m_55) (miL m_55) (miR m_55)) := rfl
theorem cw_56 : tables_1_4[181]? = some (.code (miY m_56) (miB m_56) (miL m_56) (miR m_56)) := rfl
theorem cw_57 : tables_1_4[185]? = some (.code (miY m_57) (miB m_57) (miL m_57) (miR m_57)) := rfl
theorem cw_58 : tables_1_4[189]? = some (.code (miY m_58) (miB m_58) (miL m_58) (miR m_58)) := rfl
theorem cw_59 : tables_1_4[193]? = some (.code (miY m_59) (miB m_59) (miL m_59) (miR m_59)) := rfl
theorem cw_60 : tables_1_4[197]? = some (.code (miY m_60) (miB m_60) (miL m_60) (miR m_60)) := rfl
theorem cw_61 : tables_1_4[205]? = some (.code (miY m_61) (miB m_61) (miL m_61) (miR m_61)) := rfl
theorem cw_62 : tables_1_4[209]? = some (.code (miY m_62) (miB m_62) (miL m_62) (miR m_62)) := rfl
theorem cw_63 : tables_1_4[215]? = some (.code (miY m_63) (miB m_63) (miL m_63) (miR m_63)) := rfl
theorem cw_64 : tables_1_4[221]? = some (.code (miY m_64) (miB m_64) (miL m_64) (miR m_64)) := rfl
theorem cw_65 : tables_1_4[225]? = some (.code (miY m_65) (miB m_65) (miL m_65) (miR m_65)) := rfl
theorem cw_66 : tables_1_4[229]? = some (.code (miY m_66) (miB m_66) (miL m_66) (miR m_66)) := rfl
theorem cw_67 : tables_1_4[233]? = some (.code (miY m_67) (miB m_67) (miL m_67) (miR m_67)) := rfl
theorem cw_68 : tables_1_4[238]? = some (.code (miY m_68) (miB m_68) (miL m_68) (miR m_68)) := rfl
theorem cw_69 : tables_1_5[4]? = some (.code (miY m_69) (miB m_69) (miL m_69) (miR m_69)) := rfl
theorem cw_70 : tables_1_5[8]? = some (.code (miY m_70) (miB m_70) (miL m_70) (miR m_70)) := rfl
theorem cw_71 : tables_1_5[12]? = some (.code (miY m_71) (miB m_71) (miL m_71) (miR m_71)) := rfl
theorem cw_72 : tables_1_5[16]? = some (.code (miY m_72) (miB m_72) (miL m_72) (miR m_72)) := rfl
theorem cw_73 : tables_1_5[19]? = some (.code (miY m_73) (miB m_73) (miL m_73) (miR m_73)) := rfl
theorem cw_74 : tables_1_5[25]? = some (.code (miY m_74) (miB m_74) (miL m_74) (miR m_74)) := rfl
theorem cw_75 : tables_1_5[29]? = some (.code (miY m_75) (miB m_75) (miL m_75) (miR m_75)) := rfl
theorem cw_76 : tables_1_5[32]? = some (.code (miY m_76) (miB m_76) (miL m_76) (miR m_76)) := rfl
theorem cw_77 : tables_1_5[38]? = some (.code (miY m_77) (miB m_77) (miL m_77) (miR m_77)) := rfl
theorem cw_78 : tables_1_5[43]? = some (.code (miY m_78) (miB m_78) (miL m_78) (miR m_78)) := rfl
theorem cw_79 : tables_1_5[48]? = some (.code (miY m_79) (miB m_79) (miL m_79) (miR m_79)) := rfl
theorem cw_80 : tables_1_5[52]? = some (.code (miY m_80) (miB m_80) (miL m_80) (miR m_80)) := rfl
theorem cw_81 : tables_1_5[57]? = some (.code (miY m_81) (miB m_81) (miL m_81) (miR m_81)) := rfl
theorem cw_82 : tables_1_5[61]? = some (.code (miY m_82) (miB m_82) (miL m_82) (miR m_82)) := rfl
theorem cw_83 : tables_1_5[66]? = some (.code (miY m_83) (miB m_83) (miL m_83) (miR m_83)) := rfl
theorem cw_84 : tables_1_5[70]? = some (.code (miY m_84) (miB m_84) (miL m_84) (miR m_84)) := rfl
theorem cw_85 : tables_1_5[74]? = some (.code (miY m_85) (miB m_85) (miL m_85) (miR m_85)) := rfl
theorem cw_86 : tables_1_5[81]? = some (.code (miY m_86) (miB m_86) (miL m_86) (miR m_86)) := rfl
theorem cw_87 : tables_1_5[85]? = some (.code (miY m_87) (miB m_87) (miL m_87) (miR m_87)) := rfl
theorem cw_88 : tables_1_5[89]? = some (.code (miY m_88) (miB m_88) (miL m_88) (miR m_88)) := rfl
theorem cw_89 : tables_1_5[93]? = some (.code (miY m_89) (miB m_89) (miL m_89) (miR m_89)) := rfl
theorem cw_90 : tables_1_5[100]? = some (.code (miY m_90) (miB m_90) (miL m_90) (miR m_90)) := rfl
theorem cw_91 : tables_1_5[105]? = some (.code (miY m_91) (miB m_91) (miL m_91) (miR m_91)) := rfl
theorem cw_92 : tables_1_5[109]? = some (.code (miY m_92) (miB m_92) (miL m_92) (miR m_92)) := rfl
theorem cw_93 : tables_1_5[114]? = some (.code (miY m_93) (miB m_93) (miL m_93) (miR m_93)) := rfl
theorem cw_94 : tables_1_5[121]? = some (.code (miY m_94) (miB m_94) (miL m_94) (miR m_94)) := rfl
theorem cw_95 : tables_1_5[125]? = some (.code (miY m_95) (miB m_95) (miL m_95) (miR m_95)) := rfl
theorem cw_96 : tables_1_5[129]? = some (.code (miY m_96) (miB m_96) (miL m_96) (miR m_96)) := rfl
theorem cw_97 : tables_1_5[133]? = some (.code (miY m_97) (miB m_97) (miL m_97) (miR m_97)) := rfl
theorem cw_98 : tables_1_5[137]? = some (.code (miY m_98) (miB m_98) (miL m_98) (miR m_98)) := rfl
theorem cw_99 : tables_1_5[141]? = some (.code (miY m_99) (miB m_99) (miL m_99) (miR m_99)) := rfl
theorem cw_100 : tables_1_5[145]? = some (.code (miY m_100) (miB m_100) (miL m_100) (miR m_100)) := rfl
theorem cw_101 : tables_1_5[149]? = some (.code (miY m_101) (miB m_101) (miL m_101) (miR m_101)) := rfl
theorem cw_102 : tables_1_5[153]? = some (.code (miY m_102) (miB m_102) (miL m_102) (miR m_102)) := rfl
theorem cw_103 : tables_1_5[158]? = some (.code (miY m_103) (miB m_103) (miL m_103) (miR m_103)) := rfl
theorem cw_104 : tables_1_5[162]? = some (.code (miY m_104) (miB m_104) (miL m_104) (miR m_104)) := rfl
theorem cw_105 : tables_1_5[167]? = some (.code (miY m_105) (miB m_105) (miL m_105) (miR m_105)) := rfl
theorem cw_106 : tables_1_5[173]? = some (.code (miY m_106) (miB m_106) (miL m_106) (miR m_106)) := rfl
theorem cw_107 : tables_1_5[177]? = some (.code (miY m_107) (miB m_107) (miL m_107) (miR m_107)) := rfl
theorem cw_108 : tables_1_5[181]? = some (.code (miY m_108) (miB m_108) (miL m_108) (miR m_108)) := rfl
theorem cw_109 : tables_1_5[186]? = some (.code (miY m_109) (miB m_109) (miL m_109) (miR m_109)) := rfl
theorem cw_110 : tables_1_5[190]? = some (.code (miY m_110) (miB m_110) (miL m_110) (miR m_110)) := rfl
theorem cw_111 : tables_1_5[194]? = some (.code (miY m_111) (miB m_111) (miL m_111) (miR m_111)) := rfl
theorem cw_112 : tables_1_5[198]? = some (.code (miY m_112) (miB m_112) (miL m_112) (miR m_112)) := rfl
theorem cw_113 : tables_1_5[202]? = some (.code (miY m_113) (miB m_113) (miL m_113) (miR m_113)) := rfl
theorem cw_114 : tables_1_5[210]? = some (.code (miY m_114) (miB m_114) (miL m_114) (miR m_114)) := rfl
theorem cw_115 : tables_1_5[214]? = some (.code (miY m_115) (miB m_115) (miL m_115) (miR m_115)) := rfl
theorem cw_116 : tables_1_5[218]? = some (.code (miY m_116) (miB m_116) (miL m_116) (miR m_116)) := rfl
theorem cw_117 : tables_1_5[222]? = some (.code (miY m_117) (miB m_117) (miL m_117) (miR m_117)) := rfl
theorem cw_118 : tables_1_5[227]? = some (.code (miY m_118) (miB m_118) (miL m_118) (miR m_118)) := rfl
theorem cw_119 : tables_1_5[231]? = some (.code (miY m_119) (miB m_119) (miL m_119) (miR m_119)) := rfl
theorem cw_120 : tables_1_5[235]? = some (.code (miY m_120) (miB m_120) (miL m_120) (miR m_120)) := rfl
theorem cw_121 : tables_1_5[239]? = some (.code (miY m_121) (miB m_121) (miL m_121) (miR m_121)) := rfl
theorem cw_122 : tables_1_6[3]? = some (.code (miY m_122) (miB m_122) (miL m_122) (miR m_122)) := rfl
theorem cw_123 : tables_1_6[9]? = some (.code (miY m_123) (miB m_123) (miL m_123) (miR m_123)) := rfl
theorem cw_124 : tables_1_6[13]? = some (.code (miY m_124) (miB m_124) (miL m_124) (miR m_124)) := rfl
theorem cw_125 : tables_1_6[17]? = some (.code (miY m_125) (miB m_125) (miL m_125) (miR m_125)) := rfl
theorem cw_126 : tables_1_6[21]? = some (.code (miY m_126) (miB m_126) (miL m_126) (miR m_126)) := rfl
theorem cw_127 : tables_1_6[25]? = some (.code (miY m_127) (miB m_127) (miL m_127) (miR m_127)) := rfl
theorem cw_128 : tables_1_6[30]? = some (.code (miY m_128) (miB m_128) (miL m_128) (miR m_128)) := rfl
theorem cw_129 : tables_1_6[34]? = some (.code (miY m_129) (miB m_129) (miL m_129) (miR m_129)) := rfl
theorem cw_130 : tables_1_6[38]? = some (.code (miY m_130) (miB m_130) (miL m_130) (miR m_130)) := rfl
theorem cw_131 : tables_1_6[42]? = some (.code (miY m_131) (miB m_131) (miL m_131) (miR m_131)) := rfl
theorem cw_132 : tables_1_6[46]? = some (.code (miY m_132) (miB m_132) (miL m_132) (miR m_132)) := rfl
theorem cw_133 : tables_1_6[51]? = some (.code (miY m_133) (miB m_133) (miL m_133) (miR m_133)) := rfl
theorem cw_134 : tables_1_6[56]? = some (.code (miY m_134) (miB m_134) (miL m_134) (miR m_134)) := rfl
theorem cw_135 : tables_1_6[60]? = some (.code (miY m_135) (miB m_135) (miL m_135) (miR m_135)) := rfl
theorem cw_136 : tables_1_6[64]? = some (.code (miY m_136) (miB m_136) (miL m_136) (miR m_136)) := rfl
theorem cw_137 : tables_1_6[69]? = some (.code (miY m_137) (miB m_137) (miL m_137) (miR m_137)) := rfl
theorem cw_138 : tables_1_6[73]? = some (.code (miY m_138) (miB m_138) (miL m_138) (miR m_138)) := rfl
theorem cw_139 : tables_1_6[78]? = some (.code (miY m_139) (miB m_139) (miL m_139) (miR m_139)) := rfl
theorem cw_140 : tables_1_6[82]? = some (.code (miY m_140) (miB m_140) (miL m_140) (miR m_140)) := rfl
theorem cw_141 : tables_1_6[87]? = some (.code (miY m_141) (miB m_141) (miL m_141) (miR m_141)) := rfl
theorem cw_142 : tables_1_6[92]? = some (.code (miY m_142) (miB m_142) (miL m_142) (miR m_142)) := rfl
theorem cw_143 : tables_1_6[97]? = some (.code (miY m_143) (miB m_143) (miL m_143) (miR m_143)) := rfl
theorem cw_144 : tables_1_6[101]? = some (.code (miY m_144) (miB m_144) (miL m_144) (miR m_144)) := rfl
theorem cw_145 : tables_1_6[105]? = some (.code (miY m_145) (miB m_145) (miL m_145) (miR m_145)) := rfl
theorem cw_146 : tables_1_6[110]? = some (.code (miY m_146) (miB m_146) (miL m_146) (miR m_146)) := rfl
theorem cw_147 : tables_1_6[114]? = some (.code (miY m_147) (miB m_147) (miL m_147) (miR m_147)) := rfl
theorem cw_148 : tables_1_6[121]? = some (.code (miY m_148) (miB m_148) (miL m_148) (miR m_148)) := rfl
theorem cw_149 : tables_1_6[125]? = some (.code (miY m_149) (miB m_149) (miL m_149) (miR m_149)) := rfl
theorem cw_150 : tables_1_6[130]? = some (.code (miY m_150) (miB m_150) (miL m_150) (miR m_150)) := rfl
theorem cw_151 : tables_1_6[137]? = some (.code (miY m_151) (miB m_151) (miL m_151) (miR m_151)) := rfl
theorem cw_152 : tables_1_6[140]? = some (.code (miY m_152) (miB m_152) (miL m_152) (miR m_152)) := rfl
theorem cw_153 : tables_1_6[143]? = some (.code (miY m_153) (miB m_153) (miL m_153) (miR m_153)) := rfl
theorem cw_154 : tables_1_6[147]? = some (.code (miY m_154) (miB m_154) (miL m_154) (miR m_154)) := rfl
theorem cw_155 : tables_1_6[151]? = some (.code (miY m_155) (miB m_155) (miL m_155) (miR m_155)) := rfl
theorem cw_156 : tables_1_6[155]? = some (.code (miY m_156) (miB m_156) (miL m_156) (miR m_156)) := rfl
theorem cw_157 : tables_1_6[159]? = some (.code (miY m_157) (miB m_157) (miL m_157) (miR m_157)) := rfl
theorem cw_158 : tables_1_6[163]? = some (.code (miY m_158) (miB m_158) (miL m_158) (miR m_158)) := rfl
theorem cw_159 : tables_1_6[167]? = some (.code (miY m_159) (miB m_159) (miL m_159) (miR m_159)) := rfl
theorem cw_160 : tables_1_6[174]? = some (.code (miY m_160) (miB m_160) (miL m_160) (miR m_160)) := rfl
theorem cw_161 : tables_1_6[178]? = some (.code (miY m_161) (miB m_161) (miL m_161) (miR m_161)) := rfl
theorem cw_162 : tables_1_6[181]? = some (.code (miY m_162) (miB m_162) (miL m_162) (miR m_162)) := rfl
theorem cw_163 : tables_1_6[186]? = some (.code (miY m_163) (miB m_163) (miL m_163) (miR m_163)) := rfl
theorem cw_164 : tables_1_6[189]? = some (.code (miY m_164) (miB m_164) (miL m_164) (miR m_164)) := rfl
theorem cw_165 : tables_1_6[195]? = some (.code (miY m_165) (miB m_165) (miL m_165) (miR m_165)) := rfl
theorem cw_166 : tables_1_6[201]? = some (.code (miY m_166) (miB m_166) (miL m_166) (miR m_166)) := rfl
theorem cw_167 : tables_1_6[206]? = some (.code (miY m_167) (miB m_167) (miL m_167) (miR m_167)) := rfl
theorem cw_168 : tables_1_6[212]? = some (.code (miY m_168) (miB m_168) (miL m_168) (miR m_168)) := rfl
theorem cw_169 : tables_1_6[216]? = some (.code (miY m_169) (miB m_169) (miL m_169) (miR m_169)) := rfl
theorem cw_170 : tables_1_6[220]? = some (.code (miY m_170) (miB m_170) (miL m_170) (miR m_170)) := rfl
theorem cw_171 : tables_1_6[225]? = some (.code (miY m_171) (miB m_171) (miL m_171) (miR m_171)) := rfl
theorem cw_172 : tables_1_6[229]? = some (.code (miY m_172) (miB m_172) (miL m_172) (miR m_172)) := rfl
theorem cw_173 : tables_1_6[233]? = some (.code (miY m_173) (miB m_173) (miL m_173) (miR m_173)) := rfl
theorem cw_174 : tables_1_6[237]? = some (.code (miY m_174) (miB m_174) (miL m_174) (miR m_174)) := rfl
theorem cw_175 : tables_1_7[1]? = some (.code (miY m_175) (miB m_175) (miL m_175) (miR m_175)) := rfl
theorem cw_176 : tables_1_7[5]? = some (.code (miY m_176) (miB m_176) (miL m_176) (miR m_176)) := rfl
theorem cw_177 : tables_1_7[9]? = some (.code (miY m_177) (miB m_177) (miL m_177) (miR m_177)) := rfl
theorem cw_178 : tables_1_7[13]? = some (.code (miY m_178) (miB m_178) (miL m_178) (miR m_178)) := rfl
theorem cw_179 : tables_1_7[17]? = some (.code (miY m_179) (miB m_179) (miL m_179) (miR m_179)) := rfl
theorem cw_180 : tables_1_7[21]? = some (.code (miY m_180) (miB m_180) (miL m_180) (miR m_180)) := rfl
theorem cw_181 : tables_1_7[25]? = some (.code (miY m_181) (miB m_181) (miL m_181) (miR m_181)) := rfl
theorem cw_182 : tables_1_7[29]? = some (.code (miY m_182) (miB m_182) (miL m_182) (miR m_182)) := rfl
theorem cw_183 : tables_1_7[34]? = some (.code (miY m_183) (miB m_183) (miL m_183) (miR m_183)) := rfl
theorem cw_184 : tables_1_7[235]? = some (.code (miY m_184) (miB m_184) (miL m_184) (miR m_184)) := rfl
theorem cw_185 : tables_1_7[239]? = some (.code (miY m_185) (miB m_185) (miL m_185) (miR m_185)) := rfl
theorem cw_186 : tables_1_8[3]? = some (.code (miY m_186) (miB m_186) (miL m_186) (miR m_186)) := rfl
theorem cw_187 : tables_1_8[6]? = some (.code (miY m_187) (miB m_187) (miL m_187) (miR m_187)) := rfl
theorem cw_188 : tables_1_8[10]? = some (.code (miY m_188) (miB m_188) (miL m_188) (miR m_188)) := rfl
theorem cw_189 : tables_1_8[14]? = some (.code (miY m_189) (miB m_189) (miL m_189) (miR m_189)) := rfl
theorem cw_190 : tables_1_8[18]? = some (.code (miY m_190) (miB m_190) (miL m_190) (miR m_190)) := rfl
theorem cw_191 : tables_1_8[22]? = some (.code (miY m_191) (miB m_191) (miL m_191) (miR m_191)) := rfl
theorem cw_192 : tables_1_8[26]? = some (.code (miY m_192) (miB m_192) (miL m_192) (miR m_192)) := rfl
theorem cw_193 : tables_1_8[29]? = some (.code (miY m_193) (miB m_193) (miL m_193) (miR m_193)) := rfl
theorem cw_194 : tables_1_8[33]? = some (.code (miY m_194) (miB m_194) (miL m_194) (miR m_194)) := rfl
theorem cw_195 : tables_1_8[37]? = some (.code (miY m_195) (miB m_195) (miL m_195) (miR m_195)) := rfl
theorem cw_196 : tables_1_8[41]? = some (.code (miY m_196) (miB m_196) (miL m_196) (miR m_196)) := rfl
theorem cw_197 : tables_1_8[45]? = some (.code (miY m_197) (miB m_197) (miL m_197) (miR m_197)) := rfl
theorem cw_198 : tables_1_8[49]? = some (.code (miY m_198) (miB m_198) (miL m_198) (miR m_198)) := rfl
theorem cw_199 : tables_1_8[53]? = some (.code (miY m_199) (miB m_199) (miL m_199) (miR m_199)) := rfl
theorem cw_200 : tables_1_8[57]? = some (.code (miY m_200) (miB m_200) (miL m_200) (miR m_200)) := rfl
theorem cw_201 : tables_1_8[61]? = some (.code (miY m_201) (miB m_201) (miL m_201) (miR m_201)) := rfl
theorem cw_202 : tables_1_8[65]? = some (.code (miY m_202) (miB m_202) (miL m_202) (miR m_202)) := rfl
theorem cw_203 : tables_1_8[69]? = some (.code (miY m_203) (miB m_203) (miL m_203) (miR m_203)) := rfl
theorem cw_204 : tables_1_8[73]? = some (.code (miY m_204) (miB m_204) (miL m_204) (miR m_204)) := rfl
theorem cw_205 : tables_1_8[77]? = some (.code (miY m_205) (miB m_205) (miL m_205) (miR m_205)) := rfl
theorem cw_206 : tables_1_8[81]? = some (.code (miY m_206) (miB m_206) (miL m_206) (miR m_206)) := rfl
theorem cw_207 : tables_1_8[85]? = some (.code (miY m_207) (miB m_207) (miL m_207) (miR m_207)) := rfl
theorem cw_208 : tables_1_8[89]? = some (.code (miY m_208) (miB m_208) (miL m_208) (miR m_208)) := rfl
theorem cw_209 : tables_1_8[93]? = some (.code (miY m_209) (miB m_209) (miL m_209) (miR m_209)) := rfl
theorem cw_210 : tables_1_8[97]? = some (.code (miY m_210) (miB m_210) (miL m_210) (miR m_210)) := rfl
theorem cw_211 : tables_1_8[101]? = some (.code (miY m_211) (miB m_211) (miL m_211) (miR m_211)) := rfl
theorem cw_212 : tables_1_8[105]? = some (.code (miY m_212) (miB m_212) (miL m_212) (miR m_212)) := rfl
theorem cw_213 : tables_1_8[109]? = some (.code (miY m_213) (miB m_213) (miL m_213) (miR m_213)) := rfl
theorem cw_214 : tables_1_8[113]? = some (.code (miY m_214) (miB m_214) (miL m_214) (miR m_214)) := rfl
theorem cw_215 : tables_1_8[117]? = some (.code (miY m_215) (miB m_215) (miL m_215) (miR m_215)) := rfl
theorem cw_216 : tables_1_8[121]? = some (.code (miY m_216) (miB m_216) (miL m_216) (miR m_216)) := rfl
theorem cw_217 : tables_1_8[125]? = some (.code (miY m_217) (miB m_217) (miL m_217) (miR m_217)) := rfl
theorem cw_218 : tables_1_8[129]? = some (.code (miY m_218) (miB m_218) (miL m_218) (miR m_218)) := rfl
theorem cw_219 : tables_1_8[133]? = some (.code (miY m_219) (miB m_219) (miL m_219) (miR m_219)) := rfl
theorem cw_220 : tables_1_8[137]? = some (.code (miY m_220) (miB m_220) (miL m_220) (miR m_220)) := rfl
theorem cw_221 : tables_1_8[141]? = some (.code (miY m_221) (miB m_221) (miL m_221) (miR m_221)) := rfl
theorem cw_222 : tables_1_8[145]? = some (.code (miY m_222) (miB m_222) (miL m_222) (miR m_222)) := rfl
theorem cw_223 : tables_1_8[149]? = some (.code (miY m_223) (miB m_223) (miL m_223) (miR m_223)) := rfl
theorem cw_224 : tables_1_8[153]? = some (.code (miY m_224) (miB m_224) (miL m_224) (miR m_224)) := rfl
theorem cw_225 : tables_1_8[157]? = some (.code (miY m_225) (miB m_225) (miL m_225) (miR m_225)) := rfl
theorem cw_226 : tables_1_8[161]? = some (.code (miY m_226) (miB m_226) (miL m_226) (miR m_226)) := rfl
theorem cw_227 : tables_1_8[165]? = some (.code (miY m_227) (miB m_227) (miL m_227) (miR m_227)) := rfl
theorem cw_228 : tables_1_8[169]? = some (.code (miY m_228) (miB m_228) (miL m_228) (miR m_228)) := rfl
theorem cw_229 : tables_1_8[173]? = some (.code (miY m_229) (miB m_229) (miL m_229) (miR m_229)) := rfl
theorem cw_230 : tables_1_8[177]? = some (.code (miY m_230) (miB m_230) (miL m_230) (miR m_230)) := rfl
theorem cw_231 : tables_1_8[181]? = some (.code (miY m_231) (miB m_231) (miL m_231) (miR m_231)) := rfl
theorem cw_232 : tables_1_8[185]? = some (.code (miY m_232) (miB m_232) (miL m_232) (miR m_232)) := rfl
theorem cw_233 : tables_1_8[189]? = some (.code (miY m_233) (miB m_233) (miL m_233) (miR m_233)) := rfl
theorem cw_234 : tables_1_8[193]? = some (.code (miY m_234) (miB m_234) (miL m_234) (miR m_234)) := rfl
theorem cw_235 : tables_1_8[197]? = some (.code (miY m_235) (miB m_235) (miL m_235) (miR m_235)) := rfl
theorem cw_236 : tables_1_8[201]? = some (.code (miY m_236) (miB m_236) (miL m_236) (miR m_236)) := rfl
theorem cw_237 : tables_1_8[205]? = some (.code (miY m_237) (miB m_237) (miL m_237) (miR m_237)) := rfl
theorem cw_238 : tables_1_8[209]? = some (.code (miY m_238) (miB m_238) (miL m_238) (miR m_238)) := rfl
theorem cw_239 : tables_1_8[213]? = some (.code (miY m_239) (miB m_239) (miL m_239) (miR m_239)) := rfl
theorem cw_240 : tables_1_8[217]? = some (.code (miY m_240) (miB m_240) (miL m_240) (miR m_240)) := rfl
theorem cw_241 : tables_1_8[221]? = some (.code (miY m_241) (miB m_241) (miL m_241) (miR m_241)) := rfl
theorem cw_242 : tables_1_8[225]? = some (.code (miY m_242) (miB m_242) (miL m_242) (miR m_242)) := rfl
theorem cw_243 : tables_1_8[229]? = some (.code (miY m_243) (miB m_243) (miL m_243) (miR m_243)) := rfl
theorem cw_244 : tables_1_8[233]? = some (.code (miY m_244) (miB m_244) (miL m_244) (miR m_244)) := rfl
theorem cw_245 : tables_1_8[237]? = some (.code (miY m_245) (miB m_245) (miL m_245) (miR m_245)) := rfl
theorem cw_246 : tables_1_9[1]? = some (.code (miY m_246) (miB m_246) (miL m_246) (miR m_246)) := rfl
theorem cw_247 : tables_1_9[5]? = some (.code (miY m_247) (miB m_247) (miL m_247) (miR m_247)) := rfl
theorem cw_248 : tables_1_9[9]? = some (.code (miY m_248) (miB m_248) (miL m_248) (miR m_248)) := rfl
theorem cw_249 : tables_1_9[13]? = some (.code (miY m_249) (miB m_249) (miL m_249) (miR m_249)) := rfl
theorem cw_250 : tables_1_9[17]? = some (.code (miY m_250) (miB m_250) (miL m_250) (miR m_250)) := rfl
theorem cw_251 : tables_1_9[21]? = some (.code (miY m_251) (miB m_251) (miL m_251) (miR m_251)) := rfl
theorem cw_252 : tables_1_9[25]? = some (.code (miY m_252) (miB m_252) (miL m_252) (miR m_252)) := rfl
theorem cw_253 : tables_1_9[29]? = some (.code (miY m_253) (miB m_253) (miL m_253) (miR m_253)) := rfl
theorem cw_254 : tables_1_9[33]? = some (.code (miY m_254) (miB m_254) (miL m_254) (miR m_254)) := rfl
theorem cw_255 : tables_1_9[36]? = some (.code (miY m_255) (miB m_255) (miL m_255) (miR m_255)) := rfl
theorem cw_256 : tables_1_9[40]? = some (.code (miY m_256) (miB m_256) (miL m_256) (miR m_256)) := rfl
theorem cw_257 : tables_1_9[44]? = some (.code (miY m_257) (miB m_257) (miL m_257) (miR m_257)) := rfl
theorem cw_258 : tables_1_9[48]? = some (.code (miY m_258) (miB m_258) (miL m_258) (miR m_258)) := rfl
theorem cw_259 : tables_1_9[52]? = some (.code (miY m_259) (miB m_259) (miL m_259) (miR m_259)) := rfl
theorem cw_260 : tables_1_9[56]? = some (.code (miY m_260) (miB m_260) (miL m_260) (miR m_260)) := rfl
theorem cw_261 : tables_1_9[60]? = some (.code (miY m_261) (miB m_261) (miL m_261) (miR m_261)) := rfl
theorem cw_262 : tables_1_9[66]? = some (.code (miY m_262) (miB m_262) (miL m_262) (miR m_262)) := rfl
theorem cw_263 : tables_1_9[70]? = some (.code (miY m_263) (miB m_263) (miL m_263) (miR m_263)) := rfl
theorem cw_264 : tables_1_9[74]? = some (.code (miY m_264) (miB m_264) (miL m_264) (miR m_264)) := rfl
theorem cw_265 : tables_1_9[78]? = some (.code (miY m_265) (miB m_265) (miL m_265) (miR m_265)) := rfl
theorem cw_266 : tables_1_9[82]? = some (.code (miY m_266) (miB m_266) (miL m_266) (miR m_266)) := rfl
theorem cw_267 : tables_1_9[86]? = some (.code (miY m_267) (miB m_267) (miL m_267) (miR m_267)) := rfl
theorem cw_268 : tables_1_9[90]? = some (.code (miY m_268) (miB m_268) (miL m_268) (miR m_268)) := rfl
theorem cw_269 : tables_1_9[94]? = some (.code (miY m_269) (miB m_269) (miL m_269) (miR m_269)) := rfl
theorem cw_270 : tables_1_9[98]? = some (.code (miY m_270) (miB m_270) (miL m_270) (miR m_270)) := rfl
theorem cw_271 : tables_1_9[102]? = some (.code (miY m_271) (miB m_271) (miL m_271) (miR m_271)) := rfl
theorem cw_272 : tables_1_9[106]? = some (.code (miY m_272) (miB m_272) (miL m_272) (miR m_272)) := rfl
theorem cw_273 : tables_1_9[110]? = some (.code (miY m_273) (miB m_273) (miL m_273) (miR m_273)) := rfl
theorem cw_274 : tables_1_9[114]? = some (.code (miY m_274) (miB m_274) (miL m_274) (miR m_274)) := rfl
theorem cw_275 : tables_1_9[118]? = some (.code (miY m_275) (miB m_275) (miL m_275) (miR m_275)) := rfl
theorem cw_276 : tables_1_9[122]? = some (.code (miY m_276) (miB m_276) (miL m_276) (miR m_276)) := rfl
theorem cw_277 : tables_1_9[126]? = some (.code (miY m_277) (miB m_277) (miL m_277) (miR m_277)) := rfl
theorem cw_278 : tables_1_9[130]? = some (.code (miY m_278) (miB m_278) (miL m_278) (miR m_278)) := rfl
theorem cw_279 : tables_1_9[134]? = some (.code (miY m_279) (miB m_279) (miL m_279) (miR m_279)) := rfl
theorem cw_280 : tables_1_9[138]? = some (.code (miY m_280) (miB m_280) (miL m_280) (miR m_280)) := rfl
theorem cw_281 : tables_1_9[142]? = some (.code (miY m_281) (miB m_281) (miL m_281) (miR m_281)) := rfl
theorem cw_282 : tables_1_9[146]? = some (.code (miY m_282) (miB m_282) (miL m_282) (miR m_282)) := rfl
theorem cw_283 : tables_1_9[150]? = some (.code (miY m_283) (miB m_283) (miL m_283) (miR m_283)) := rfl
theorem cw_284 : tables_1_9[154]? = some (.code (miY m_284) (miB m_284) (miL m_284) (miR m_284)) := rfl
theorem cw_285 : tables_1_9[158]? = some (.code (miY m_285) (miB m_285) (miL m_285) (miR m_285)) := rfl
theorem cw_286 : tables_1_9[162]? = some (.code (miY m_286) (miB m_286) (miL m_286) (miR m_286)) := rfl
theorem cw_287 : tables_1_9[166]? = some (.code (miY m_287) (miB m_287) (miL m_287) (miR m_287)) := rfl
theorem cw_288 : tables_1_9[170]? = some (.code (miY m_288) (miB m_288) (miL m_288) (miR m_288)) := rfl
theorem cw_289 : tables_1_9[174]? = some (.code (miY m_289) (miB m_289) (miL m_289) (miR m_289)) := rfl
theorem cw_290 : tables_1_9[178]? = some (.code (miY m_290) (miB m_290) (miL m_290) (miR m_290)) := rfl
theorem cw_291 : tables_1_9[182]? = some (.code (miY m_291) (miB m_291) (miL m_291) (miR m_291)) := rfl
theorem cw_292 : tables_1_9[186]? = some (.code (miY m_292) (miB m_292) (miL m_292) (miR m_292)) := rfl
theorem cw_293 : tables_1_9[190]? = some (.code (miY m_293) (miB m_293) (miL m_293) (miR m_293)) := rfl
theorem cw_294 : tables_1_9[194]? = some (.code (miY m_294) (miB m_294) (miL m_294) (miR m_294)) := rfl
theorem cw_295 : tables_1_9[198]? = some (.code (miY m_295) (miB m_295) (miL m_295) (miR m_295)) := rfl
theorem cw_296 : tables_1_9[203]? = some (.code (miY m_296) (miB m_296) (miL m_296) (miR m_296)) := rfl
theorem cw_297 : tables_1_9[207]? = some (.code (miY m_297) (miB m_297) (miL m_297) (miR m_297)) := rfl
theorem cw_298 : tables_1_9[211]? = some (.code (miY m_298) (miB m_298) (miL m_298) (miR m_298)) := rfl
theorem cw_299 : tables_1_9[215]? = some (.code (miY m_299) (miB m_299) (miL m_299) (miR m_299)) := rfl
theorem cw_300 : tables_1_9[219]? = some (.code (miY m_300) (miB m_300) (miL m_300) (miR m_300)) := rfl
theorem cw_301 : tables_1_9[223]? = some (.code (miY m_301) (miB m_301) (miL m_301) (miR m_301)) := rfl
theorem cw_302 : tables_1_9[227]? = some (.code (miY m_302) (miB m_302) (miL m_302) (miR m_302)) := rfl
theorem cw_303 : tables_1_9[231]? = some (.code (miY m_303) (miB m_303) (miL m_303) (miR m_303)) := rfl
theorem cw_304 : tables_1_9[235]? = some (.code (miY m_304) (miB m_304) (miL m_304) (miR m_304)) := rfl
theorem cw_305 : tables_1_9[239]? = some (.code (miY m_305) (miB m_305) (miL m_305) (miR m_305)) := rfl
theorem cw_306 : tables_1_10[3]? = some (.code (miY m_306) (miB m_306) (miL m_306) (miR m_306)) := rfl
theorem cw_307 : tables_1_10[7]? = some (.code (miY m_307) (miB m_307) (miL m_307) (miR m_307)) := rfl
theorem cw_308 : tables_1_10[12]? = some (.code (miY m_308) (miB m_308) (miL m_308) (miR m_308)) := rfl
theorem cw_309 : tables_1_10[15]? = some (.code (miY m_309) (miB m_309) (miL m_309) (miR m_309)) := rfl
theorem cw_310 : tables_1_10[18]? = some (.code (miY m_310) (miB m_310) (miL m_310) (miR m_310)) := rfl
theorem cw_311 : tables_1_10[22]? = some (.code (miY m_311) (miB m_311) (miL m_311) (miR m_311)) := rfl
theorem cw_312 : tables_1_10[26]? = some (.code (miY m_312) (miB m_312) (miL m_312) (miR m_312)) := rfl
theorem cw_313 : tables_1_10[30]? = some (.code (miY m_313) (miB m_313) (miL m_313) (miR m_313)) := rfl
theorem cw_314 : tables_1_10[34]? = some (.code (miY m_314) (miB m_314) (miL m_314) (miR m_314)) := rfl
theorem cw_315 : tables_1_10[38]? = some (.code (miY m_315) (miB m_315) (miL m_315) (miR m_315)) := rfl
theorem cw_316 : tables_1_10[42]? = some (.code (miY m_316) (miB m_316) (miL m_316) (miR m_316)) := rfl
theorem cw_317 : tables_1_10[46]? = some (.code (miY m_317) (miB m_317) (miL m_317) (miR m_317)) := rfl
theorem cw_318 : tables_1_10[50]? = some (.code (miY m_318) (miB m_318) (miL m_318) (miR m_318)) := rfl
theorem cw_319 : tables_1_10[54]? = some (.code (miY m_319) (miB m_319) (miL m_319) (miR m_319)) := rfl
theorem cw_320 : tables_1_10[58]? = some (.code (miY m_320) (miB m_320) (miL m_320) (miR m_320)) := rfl
theorem cw_321 : tables_1_10[62]? = some (.code (miY m_321) (miB m_321) (miL m_321) (miR m_321)) := rfl
theorem cw_322 : tables_1_10[66]? = some (.code (miY m_322) (miB m_322) (miL m_322) (miR m_322)) := rfl
theorem cw_323 : tables_1_10[70]? = some (.code (miY m_323) (miB m_323) (miL m_323) (miR m_323)) := rfl
theorem cw_324 : tables_1_10[74]? = some (.code (miY m_324) (miB m_324) (miL m_324) (miR m_324)) := rfl
theorem cw_325 : tables_1_10[78]? = some (.code (miY m_325) (miB m_325) (miL m_325) (miR m_325)) := rfl
theorem cw_326 : tables_1_10[82]? = some (.code (miY m_326) (miB m_326) (miL m_326) (miR m_326)) := rfl
theorem cw_327 : tables_1_10[86]? = some (.code (miY m_327) (miB m_327) (miL m_327) (miR m_327)) := rfl
theorem cw_328 : tables_1_10[90]? = some (.code (miY m_328) (miB m_328) (miL m_328) (miR m_328)) := rfl
theorem cw_329 : tables_1_10[94]? = some (.code (miY m_329) (miB m_329) (miL m_329) (miR m_329)) := rfl
theorem cw_330 : tables_1_10[98]? = some (.code (miY m_330) (miB m_330) (miL m_330) (miR m_330)) := rfl
theorem cw_331 : tables_1_10[102]? = some (.code (miY m_331) (miB m_331) (miL m_331) (miR m_331)) := rfl
theorem cw_332 : tables_1_10[106]? = some (.code (miY m_332) (miB m_332) (miL m_332) (miR m_332)) := rfl
theorem cw_333 : tables_1_10[110]? = some (.code (miY m_333) (miB m_333) (miL m_333) (miR m_333)) := rfl
theorem cw_334 : tables_1_10[114]? = some (.code (miY m_334) (miB m_334) (miL m_334) (miR m_334)) := rfl
theorem cw_335 : tables_1_10[118]? = some (.code (miY m_335) (miB m_335) (miL m_335) (miR m_335)) := rfl
theorem cw_336 : tables_1_10[122]? = some (.code (miY m_336) (miB m_336) (miL m_336) (miR m_336)) := rfl
theorem cw_337 : tables_1_10[126]? = some (.code (miY m_337) (miB m_337) (miL m_337) (miR m_337)) := rfl
theorem cw_338 : tables_1_10[130]? = some (.code (miY m_338) (miB m_338) (miL m_338) (miR m_338)) := rfl
theorem cw_339 : tables_1_10[134]? = some (.code (miY m_339) (miB m_339) (miL m_339) (miR m_339)) := rfl
theorem cw_340 : tables_1_10[138]? = some (.code (miY m_340) (miB m_340) (miL m_340) (miR m_340)) := rfl
theorem cw_341 : tables_1_10[142]? = some (.code (miY m_341) (miB m_341) (miL m_341) (miR m_341)) := rfl
theorem cw_342 : tables_1_10[146]? = some (.code (miY m_342) (miB m_342) (miL m_342) (miR m_342)) := rfl
theorem cw_343 : tables_1_1[49]? = some (.code (miY m_343) (miB m_343) (miL m_343) (miR m_343)) := rfl
theorem cw_344 : tables_1_2[45]? = some (.code (miY m_344) (miB m_344) (miL m_344) (miR m_344)) := rfl
theorem cw_345 : tables_1_2[48]? = some (.code (miY m_345) (miB m_345) (miL m_345) (miR m_345)) := rfl
theorem cw_346 : tables_1_2[76]? = some (.code (miY m_346) (miB m_346) (miL m_346) (miR m_346)) := rfl
theorem cw_347 : tables_1_2[79]? = some (.code (miY m_347) (miB m_347) (miL m_347) (miR m_347)) := rfl
theorem cw_348 : tables_1_2[153]? = some (.code (miY m_348) (miB m_348) (miL m_348) (miR m_348)) := rfl
theorem cw_349 : tables_1_2[157]? = some (.code (miY m_349) (miB m_349) (miL m_349) (miR m_349)) := rfl
theorem cw_350 : tables_1_2[87]? = some (.code (miY m_350) (miB m_350) (miL m_350) (miR m_350)) := rfl
theorem cw_351 : tables_1_2[91]? = some (.code (miY m_351) (miB m_351) (miL m_351) (miR m_351)) := rfl
theorem cw_352 : tables_1_2[94]? = some (.code (miY m_352) (miB m_352) (miL m_352) (miR m_352)) := rfl
theorem cw_353 : tables_1_2[105]? = some (.code (miY m_353) (miB m_353) (miL m_353) (miR m_353)) := rfl
theorem cw_354 : tables_1_2[162]? = some (.code (miY m_354) (miB m_354) (miL m_354) (miR m_354)) := rfl
theorem cw_355 : tables_1_2[166]? = some (.code (miY m_355) (miB m_355) (miL m_355) (miR m_355)) := rfl
theorem cw_356 : tables_1_2[219]? = some (.code (miY m_356) (miB m_356) (miL m_356) (miR m_356)) := rfl
theorem cw_357 : tables_1_2[190]? = some (.code (miY m_357) (miB m_357) (miL m_357) (miR m_357)) := rfl
theorem cw_358 : tables_1_2[199]? = some (.code (miY m_358) (miB m_358) (miL m_358) (miR m_358)) := rfl
theorem cw_359 : tables_1_2[204]? = some (.code (miY m_359) (miB m_359) (miL m_359) (miR m_359)) := rfl
theorem cw_360 : tables_1_2[207]? = some (.code (miY m_360) (miB m_360) (miL m_360) (miR m_360)) := rfl
theorem cw_361 : tables_1_2[213]? = some (.code (miY m_361) (miB m_361) (miL m_361) (miR m_361)) := rfl
theorem cw_362 : tables_1_2[221]? = some (.code (miY m_362) (miB m_362) (miL m_362) (miR m_362)) := rfl
theorem cw_363 : tables_1_2[123]? = some (.code (miY m_363) (miB m_363) (miL m_363) (miR m_363)) := rfl
theorem cw_364 : tables_1_2[225]? = some (.code (miY m_364) (miB m_364) (miL m_364) (miR m_364)) := rfl
theorem cw_365 : tables_1_2[228]? = some (.code (miY m_365) (miB m_365) (miL m_365) (miR m_365)) := rfl
theorem cw_366 : tables_1_3[19]? = some (.code (miY m_366) (miB m_366) (miL m_366) (miR m_366)) := rfl
theorem cw_367 : tables_1_3[23]? = some (.code (miY m_367) (miB m_367) (miL m_367) (miR m_367)) := rfl
theorem cw_368 : tables_1_3[26]? = some (.code (miY m_368) (miB m_368) (miL m_368) (miR m_368)) := rfl
theorem cw_369 : tables_1_3[29]? = some (.code (miY m_369) (miB m_369) (miL m_369) (miR m_369)) := rfl
theorem cw_370 : tables_1_2[231]? = some (.code (miY m_370) (miB m_370) (miL m_370) (miR m_370)) := rfl
theorem cwp_0 : ∀ x ∈ MIs_0, (miY x).cls ≠ "LightDeskLaw" → cwd x := List.forall_mem_cons.mpr ⟨fun h => absurd rfl h, List.forall_mem_cons.mpr ⟨fun _ => in_tables_1_1 _ (List.mem_of_getElem? cw_1), List.forall_mem_cons.mpr ⟨fun _ => in_tables_1_1 _ (List.mem_of_getElem? cw_2), List.forall_mem_cons.mpr ⟨fun _ => in_tables_1_1 _ (List.mem_of_getElem? cw_3), List.forall_mem_cons.mpr ⟨fun _ => in_tables_1_1 _ (List.mem_of_getElem? cw_4), List.forall_mem_cons.mpr ⟨fun _ => in_tables_1_1 _ (List.mem_of_getElem? cw_5), List.forall_mem_cons.mpr ⟨fun _ => in_tables_1_1 _ (List.mem_of_getElem? cw_6), List.forall_mem_cons.mpr ⟨fun _ => in_tables_1_2 _ (List.mem_of_getElem? cw_7), List.forall_mem_cons.mpr ⟨fun _ => in_tables_1_2 _ (List.mem_of_getElem? cw_8), List.forall_mem_cons.mpr ⟨fun _ => in_tables_1_3 _ (List.mem_of_getElem? cw_9), List.forall_mem_cons.mpr ⟨fun _ => in_tables_1_3 _ (List.mem_of_getElem? cw_10), List.forall_mem_cons.mpr ⟨fun _ => in_tables_1_3 _ (List.mem_of_getElem? cw_11), List.forall_mem_cons.mpr ⟨fun _ => in_tables_1_3 _ (List.mem_of_getElem? cw_12), List.forall_mem_cons.mpr ⟨fun _ => in_tables_1_3 _ (List.mem_of_getElem? cw_13), List.forall_mem_cons.mpr ⟨fun _ => in_tables_1_4 _ (List.mem_of_getElem? cw_14), List.forall_mem_cons.mpr ⟨fun _ => in_tables_1_4 _ (List.mem_of_getElem? cw_15), List.forall_mem_cons.mpr ⟨fun _ => in_tables_1_4 _ (List.mem_of_getElem? cw_16), List.forall_mem_cons.mpr ⟨fun _ => in_tables_1_4 _ (List.mem_of_getElem? cw_17), List.forall_mem_cons.mpr ⟨fun _ => in_tables_1_4 _ (List.mem_of_getElem? cw_18), List.forall_mem_cons.mpr ⟨fun _ => in_tables_1_4 _ (List.mem_of_getElem? cw_19), List.forall_mem_cons.mpr ⟨fun _ => in_tables_1_4 _ (List.mem_of_getElem? cw_20), List.forall_mem_cons.mpr ⟨fun _ => in_tables_1_4 _ (List.mem_of_getElem? cw_21), List.forall_mem_cons.mpr ⟨fun _ => in_tables_1_4 _ (List.mem_of_getElem? cw_22), List.forall_mem_cons.mpr ⟨fun _ => in_tables_1_4 _ (List.mem_of_getElem? cw_23), List.forall_mem_cons.mpr ⟨fun _ => in_tables_1_4 _ (List.mem_of_getElem? cw_24), List.forall_mem_cons.mpr ⟨fun _ => in_tables_1_4 _ (List.mem_of_getElem? cw_25), List.forall_mem_cons.mpr ⟨fun _ => in_tables_1_4 _ (List.mem_of_getElem? cw_26), List.forall_mem_cons.mpr ⟨fun _ => in_tables_1_4 _ (List.mem_of_getElem? cw_27), List.forall_mem_cons.mpr ⟨fun _ => in_tables_1_4 _ (List.mem_of_getElem? cw_28), List.forall_mem_cons.mpr ⟨fun _ => in_tables_1_4 _ (List.mem_of_getElem? cw_29), List.forall_mem_cons.mpr ⟨fun _ => in_tables_1_4 _ (List.mem_of_getElem? cw_30), List.forall_mem_cons.mpr ⟨fun _ => in_tables_1_4 _ (List.mem_of_getElem? cw_31), List.forall_mem_cons.mpr ⟨fun _ => in_tables_1_4 _ (List.mem_of_getElem? cw_32), List.forall_mem_cons.mpr ⟨fun _ => in_tables_1_4 _ (List.mem_of_getElem? cw_33), List.forall_mem_cons.mpr ⟨fun _ => in_tables_1_4 _ (List.mem_of_getElem? cw_34), List.forall_mem_cons.mpr ⟨fun _ => in_tables_1_4 _ (List.mem_of_getElem? cw_35), List.forall_mem_cons.mpr ⟨fun _ => in_tables_1_4 _ (List.mem_of_getElem? cw_36), List.forall_mem_cons.mpr ⟨fun _ => in_tables_1_4 _ (List.mem_of_getElem? cw_37), List.forall_mem_cons.mpr ⟨fun _ => in_tables_1_4 _ (List.mem_of_getElem? cw_38), List.forall_mem_cons.mpr ⟨fun _ => in_tables_1_4 _ (List.mem_of_getElem? cw_39), fun _ h => absurd h List.not_mem_nil⟩⟩⟩⟩⟩⟩⟩⟩⟩⟩⟩⟩⟩⟩⟩⟩⟩⟩⟩⟩⟩⟩⟩⟩⟩⟩⟩⟩⟩⟩⟩⟩⟩⟩⟩⟩⟩⟩⟩⟩
theorem cwp_1 : ∀ x ∈ MIs_1, (miY x).cls ≠ "LightDeskLaw" → cwd x := List.forall_mem_cons.mpr ⟨fun _ => in_tables_1_4 _ (List.mem_of_getElem? cw_40), List.forall_mem_cons.mpr ⟨fun _ => in_tables_1_4 _ (List.mem_of_getElem? cw_41), List.forall_mem_cons.mpr ⟨fun _ => in_tables_1_4 _ (List.mem_of_getElem? cw_42), List.forall_mem_cons.mpr ⟨fun _ => in_tables_1_4 _ (List.mem_of_getElem? cw_43), List.forall_mem_cons.mpr ⟨fun _ => in_tables_1_4 _ (List.mem_of_getElem? cw_44), List.forall_mem_cons.mpr ⟨fun _ => in_tables_1_4 _ (List.mem_of_getElem? cw_45), List.forall_mem_cons.mpr ⟨fun _ => in_tables_1_4 _ (List.mem_of_getElem? cw_46), List.forall_mem_cons.mpr ⟨fun _ => in_tables_1_4 _ (List.mem_of_getElem? cw_47), List.forall_mem_cons.mpr ⟨fun _ => in_tables_1_4 _ (List.mem_of_getElem? cw_48), List.forall_mem_cons.mpr ⟨fun _ => in_tables_1_4 _ (List.mem_of_getElem? cw_49), List.forall_mem_cons.mpr ⟨fun _ => in_tables_1_4 _ (List.mem_of_getElem? cw_50), List.forall_mem_cons.mpr ⟨fun _ => in_tables_1_4 _ (List.mem_of_getElem? cw_51), List.forall_mem_cons.mpr ⟨fun _ => in_tables_1_4 _ (List.mem_of_getElem? cw_52), List.forall_mem_cons.mpr ⟨fun _ => in_tables_1_4 _ (List.mem_of_getElem? cw_53), List.forall_mem_cons.mpr ⟨fun _ => in_tables_1_4 _ (List.mem_of_getElem? cw_54), List.forall_mem_cons.mpr ⟨fun _ => in_tables_1_4 _ (List.mem_of_getElem? cw_55), List.forall_mem_cons.mpr ⟨fun _ => in_tables_1_4 _ (List.mem_of_getElem? cw_56), List.forall_mem_cons.mpr ⟨fun _ => in_tables_1_4 _ (List.mem_of_getElem? cw_57), List.forall_mem_cons.mpr ⟨fun _ => in_tables_1_4 _ (List.mem_of_getElem? cw_58), List.forall_mem_cons.mpr ⟨fun _ => in_tables_1_4 _ (List.mem_of_getElem? cw_59), List.forall_mem_cons.mpr ⟨fun _ => in_tables_1_4 _ (List.mem_of_getElem? cw_60), List.forall_mem_cons.mpr ⟨fun _ => in_tables_1_4 _ (List.mem_of_getElem? cw_61), List.forall_mem_cons.mpr ⟨fun _ => in_tables_1_4 _ (List.mem_of_getElem? cw_62), List.forall_mem_cons.mpr ⟨fun _ => in_tables_1_4 _ (List.mem_of_getElem? cw_63), List.forall_mem_cons.mpr ⟨fun _ => in_tables_1_4 _ (List.mem_of_getElem? cw_64), List.forall_mem_cons.mpr ⟨fun _ => in_tables_1_4 _ (List.mem_of_getElem? cw_65), List.forall_mem_cons.mpr ⟨fun _ => in_tables_1_4 _ (List.mem_of_getElem? cw_66), List.forall_mem_cons.mpr ⟨fun _ => in_tables_1_4 _ (List.mem_of_getElem? cw_67), List.forall_mem_cons.mpr ⟨fun _ => in_tables_1_4 _ (List.mem_of_getElem? cw_68), List.forall_mem_cons.mpr ⟨fun _ => in_tables_1_5 _ (List.mem_of_getElem? cw_69), List.forall_mem_cons.mpr ⟨fun _ => in_tables_1_5 _ (List.mem_of_getElem? cw_70), List.forall_mem_cons.mpr ⟨fun _ => in_tables_1_5 _ (List.mem_of_getElem? cw_71), List.forall_mem_cons.mpr ⟨fun _ => in_tables_1_5 _ (List.mem_of_getElem? cw_72), List.forall_mem_cons.mpr ⟨fun _ => in_tables_1_5 _ (List.mem_of_getElem? cw_73), List.forall_mem_cons.mpr ⟨fun _ => in_tables_1_5 _ (List.mem_of_getElem? cw_74), List.forall_mem_cons.mpr ⟨fun _ => in_tables_1_5 _ (List.mem_of_getElem? cw_75), List.forall_mem_cons.mpr ⟨fun _ => in_tables_1_5 _ (List.mem_of_getElem? cw_76), List.forall_mem_cons.mpr ⟨fun _ => in_tables_1_5 _ (List.mem_of_getElem? cw_77), List.forall_mem_cons.mpr ⟨fun _ => in_tables_1_5 _ (List.mem_of_getElem? cw_78), List.forall_mem_cons.mpr ⟨fun _ => in_tables_1_5 _ (List.mem_of_getElem? cw_79), fun _ h => absurd h List.not_mem_nil⟩⟩⟩⟩⟩⟩⟩⟩⟩⟩⟩⟩⟩⟩⟩⟩⟩⟩⟩⟩⟩⟩⟩⟩⟩⟩⟩⟩⟩⟩⟩⟩⟩⟩⟩⟩⟩⟩⟩⟩
theorem cwp_2 : ∀ x ∈ MIs_2, (miY x).cls ≠ "LightDeskLaw" → cwd x := List.forall_mem_cons.mpr ⟨fun _ => in_tables_1_5 _ (List.mem_of_getElem? cw_80), List.forall_mem_cons.mpr ⟨fun _ => in_tables_1_5 _ (List.mem_of_getElem? cw_81), List.forall_mem_cons.mpr ⟨fun _ => in_tables_1_5 _ (List.mem_of_getElem? cw_82), List.forall_mem_cons.mpr ⟨fun _ => in_tables_1_5 _ (List.mem_of_getElem? cw_83), List.forall_mem_cons.mpr ⟨fun _ => in_tables_1_5 _ (List.mem_of_getElem? cw_84), List.forall_mem_cons.mpr ⟨fun _ => in_tables_1_5 _ (List.mem_of_getElem? cw_85), List.forall_mem_cons.mpr ⟨fun _ => in_tables_1_5 _ (List.mem_of_getElem? cw_86), List.forall_mem_cons.mpr ⟨fun _ => in_tables_1_5 _ (List.mem_of_getElem? cw_87), List.forall_mem_cons.mpr ⟨fun _ => in_tables_1_5 _ (List.mem_of_getElem? cw_88), List.forall_mem_cons.mpr ⟨fun _ => in_tables_1_5 _ (List.mem_of_getElem? cw_89), List.forall_mem_cons.mpr ⟨fun _ => in_tables_1_5 _ (List.mem_of_getElem? cw_90), List.forall_mem_cons.mpr ⟨fun _ => in_tables_1_5 _ (List.mem_of_getElem? cw_91), List.forall_mem_cons.mpr ⟨fun _ => in_tables_1_5 _ (List.mem_of_getElem? cw_92), List.forall_mem_cons.mpr ⟨fun _ => in_tables_1_5 _ (List.mem_of_getElem? cw_93), List.forall_mem_cons.mpr ⟨fun _ => in_tables_1_5 _ (List.mem_of_getElem? cw_94), List.forall_mem_cons.mpr ⟨fun _ => in_tables_1_5 _ (List.mem_of_getElem? cw_95), List.forall_mem_cons.mpr ⟨fun _ => in_tables_1_5 _ (List.mem_of_getElem? cw_96), List.forall_mem_cons.mpr ⟨fun _ => in_tables_1_5 _ (List.mem_of_getElem? cw_97), List.forall_mem_cons.mpr ⟨fun _ => in_tables_1_5 _ (List.mem_of_getElem? cw_98), List.forall_mem_cons.mpr ⟨fun _ => in_tables_1_5 _ (List.mem_of_getElem? cw_99), List.forall_mem_cons.mpr ⟨fun _ => in_tables_1_5 _ (List.mem_of_getElem? cw_100), List.forall_mem_cons.mpr ⟨fun _ => in_tables_1_5 _ (List.mem_of_getElem? cw_101), List.forall_mem_cons.mpr ⟨fun _ => in_tables_1_5 _ (List.mem_of_getElem? cw_102), List.forall_mem_cons.mpr ⟨fun _ => in_tables_1_5 _ (List.mem_of_getElem? cw_103), List.forall_mem_cons.mpr ⟨fun _ => in_tables_1_5 _ (List.mem_of_getElem? cw_104), List.forall_mem_cons.mpr ⟨fun _ => in_tables_1_5 _ (List.mem_of_getElem? cw_105), List.forall_mem_cons.mpr ⟨fun _ => in_tables_1_5 _ (List.mem_of_getElem? cw_106), List.forall_mem_cons.mpr ⟨fun _ => in_tables_1_5 _ (List.mem_of_getElem? cw_107), List.forall_mem_cons.mpr ⟨fun _ => in_tables_1_5 _ (List.mem_of_getElem? cw_108), List.forall_mem_cons.mpr ⟨fun _ => in_tables_1_5 _ (List.mem_of_getElem? cw_109), List.forall_mem_cons.mpr ⟨fun _ => in_tables_1_5 _ (List.mem_of_getElem? cw_110), List.forall_mem_cons.mpr ⟨fun _ => in_tables_1_5 _ (List.mem_of_getElem? cw_111), List.forall_mem_cons.mpr ⟨fun _ => in_tables_1_5 _ (List.mem_of_getElem? cw_112), List.forall_mem_cons.mpr ⟨fun _ => in_tables_1_5 _ (List.mem_of_getElem? cw_113), List.forall_mem_cons.mpr ⟨fun _ => in_tables_1_5 _ (List.mem_of_getElem? cw_114), List.forall_mem_cons.mpr ⟨fun _ => in_tables_1_5 _ (List.mem_of_getElem? cw_115), List.forall_mem_cons.mpr ⟨fun _ => in_tables_1_5 _ (List.mem_of_getElem? cw_116), List.forall_mem_cons.mpr ⟨fun _ => in_tables_1_5 _ (List.mem_of_getElem? cw_117), List.forall_mem_cons.mpr ⟨fun _ => in_tables_1_5 _ (List.mem_of_getElem? cw_118), List.forall_mem_cons.mpr ⟨fun _ => in_tables_1_5 _ (List.mem_of_getElem? cw_119), fun _ h => absurd h List.not_mem_nil⟩⟩⟩⟩⟩⟩⟩⟩⟩⟩⟩⟩⟩⟩⟩⟩⟩⟩⟩⟩⟩⟩⟩⟩⟩⟩⟩⟩⟩⟩⟩⟩⟩⟩⟩⟩⟩⟩⟩⟩
theorem cwp_3 : ∀ x ∈ MIs_3, (miY x).cls ≠ "LightDeskLaw" → cwd x := List.forall_mem_cons.mpr ⟨fun _ => in_tables_1_5 _ (List.mem_of_getElem? cw_120), List.forall_mem_cons.mpr ⟨fun _ => in_tables_1_5 _ (List.mem_of_getElem? cw_121), List.forall_mem_cons.mpr ⟨fun _ => in_tables_1_6 _ (List.mem_of_getElem? cw_122), List.forall_mem_cons.mpr ⟨fun _ => in_tables_1_6 _ (List.mem_of_getElem? cw_123), List.forall_mem_cons.mpr ⟨fun _ => in_tables_1_6 _ (List.mem_of_getElem? cw_124), List.forall_mem_cons.mpr ⟨fun _ => in_tables_1_6 _ (List.mem_of_getElem? cw_125), List.forall_mem_cons.mpr ⟨fun _ => in_tables_1_6 _ (List.mem_of_getElem? cw_126), List.forall_mem_cons.mpr ⟨fun _ => in_tables_1_6 _ (List.mem_of_getElem? cw_127), List.forall_mem_cons.mpr ⟨fun _ => in_tables_1_6 _ (List.mem_of_getElem? cw_128), List.forall_mem_cons.mpr ⟨fun _ => in_tables_1_6 _ (List.mem_of_getElem? cw_129), List.forall_mem_cons.mpr ⟨fun _ => in_tables_1_6 _ (List.mem_of_getElem? cw_130), List.forall_mem_cons.mpr ⟨fun _ => in_tables_1_6 _ (List.mem_of_getElem? cw_131), List.forall_mem_cons.mpr ⟨fun _ => in_tables_1_6 _ (List.mem_of_getElem? cw_132), List.forall_mem_cons.mpr ⟨fun _ => in_tables_1_6 _ (List.mem_of_getElem? cw_133), List.forall_mem_cons.mpr ⟨fun _ => in_tables_1_6 _ (List.mem_of_getElem? cw_134), List.forall_mem_cons.mpr ⟨fun _ => in_tables_1_6 _ (List.mem_of_getElem? cw_135), List.forall_mem_cons.mpr ⟨fun _ => in_tables_1_6 _ (List.mem_of_getElem? cw_136), List.forall_mem_cons.mpr ⟨fun _ => in_tables_1_6 _ (List.mem_of_getElem? cw_137), List.forall_mem_cons.mpr ⟨fun _ => in_tables_1_6 _ (List.mem_of_getElem? cw_138), List.forall_mem_cons.mpr ⟨fun _ => in_tables_1_6 _ (List.mem_of_getElem? cw_139), List.forall_mem_cons.mpr ⟨fun _ => in_tables_1_6 _ (List.mem_of_getElem? cw_140), List.forall_mem_cons.mpr ⟨fun _ => in_tables_1_6 _ (List.mem_of_getElem? cw_141), List.forall_mem_cons.mpr ⟨fun _ => in_tables_1_6 _ (List.mem_of_getElem? cw_142), List.forall_mem_cons.mpr ⟨fun _ => in_tables_1_6 _ (List.mem_of_getElem? cw_143), List.forall_mem_cons.mpr ⟨fun _ => in_tables_1_6 _ (List.mem_of_getElem? cw_144), List.forall_mem_cons.mpr ⟨fun _ => in_tables_1_6 _ (List.mem_of_getElem? cw_145), List.forall_mem_cons.mpr ⟨fun _ => in_tables_1_6 _ (List.mem_of_getElem? cw_146), List.forall_mem_cons.mpr ⟨fun _ => in_tables_1_6 _ (List.mem_of_getElem? cw_147), List.forall_mem_cons.mpr ⟨fun _ => in_tables_1_6 _ (List.mem_of_getElem? cw_148), List.forall_mem_cons.mpr ⟨fun _ => in_tables_1_6 _ (List.mem_of_getElem? cw_149), List.forall_mem_cons.mpr ⟨fun _ => in_tables_1_6 _ (List.mem_of_getElem? cw_150), List.forall_mem_cons.mpr ⟨fun _ => in_tables_1_6 _ (List.mem_of_getElem? cw_151), List.forall_mem_cons.mpr ⟨fun _ => in_tables_1_6 _ (List.mem_of_getElem? cw_152), List.forall_mem_cons.mpr ⟨fun _ => in_tables_1_6 _ (List.mem_of_getElem? cw_153), List.forall_mem_cons.mpr ⟨fun _ => in_tables_1_6 _ (List.mem_of_getElem? cw_154), List.forall_mem_cons.mpr ⟨fun _ => in_tables_1_6 _ (List.mem_of_getElem? cw_155), List.forall_mem_cons.mpr ⟨fun _ => in_tables_1_6 _ (List.mem_of_getElem? cw_156), List.forall_mem_cons.mpr ⟨fun _ => in_tables_1_6 _ (List.mem_of_getElem? cw_157), List.forall_mem_cons.mpr ⟨fun _ => in_tables_1_6 _ (List.mem_of_getElem? cw_158), List.forall_mem_cons.mpr ⟨fun _ => in_tables_1_6 _ (List.mem_of_getElem? cw_159), fun _ h => absurd h List.not_mem_nil⟩⟩⟩⟩⟩⟩⟩⟩⟩⟩⟩⟩⟩⟩⟩⟩⟩⟩⟩⟩⟩⟩⟩⟩⟩⟩⟩⟩⟩⟩⟩⟩⟩⟩⟩⟩⟩⟩⟩⟩
theorem cwp_4 : ∀ x ∈ MIs_4, (miY x).cls ≠ "LightDeskLaw" → cwd x := List.forall_mem_cons.mpr ⟨fun _ => in_tables_1_6 _ (List.mem_of_getElem? cw_160), List.forall_mem_cons.mpr ⟨fun _ => in_tables_1_6 _ (List.mem_of_getElem? cw_161), List.forall_mem_cons.mpr ⟨fun _ => in_tables_1_6 _ (List.mem_of_getElem? cw_162), List.forall_mem_cons.mpr ⟨fun _ => in_tables_1_6 _ (List.mem_of_getElem? cw_163), List.forall_mem_cons.mpr ⟨fun _ => in_tables_1_6 _ (List.mem_of_getElem? cw_164), List.forall_mem_cons.mpr ⟨fun _ => in_tables_1_6 _ (List.mem_of_getElem? cw_165), List.forall_mem_cons.mpr ⟨fun _ => in_tables_1_6 _ (List.mem_of_getElem? cw_166), List.forall_mem_cons.mpr ⟨fun _ => in_tables_1_6 _ (List.mem_of_getElem? cw_167), List.forall_mem_cons.mpr ⟨fun _ => in_tables_1_6 _ (List.mem_of_getElem? cw_168), List.forall_mem_cons.mpr ⟨fun _ => in_tables_1_6 _ (List.mem_of_getElem? cw_169), List.forall_mem_cons.mpr ⟨fun _ => in_tables_1_6 _ (List.mem_of_getElem? cw_170), List.forall_mem_cons.mpr ⟨fun _ => in_tables_1_6 _ (List.mem_of_getElem? cw_171), List.forall_mem_cons.mpr ⟨fun _ => in_tables_1_6 _ (List.mem_of_getElem? cw_172), List.forall_mem_cons.mpr ⟨fun _ => in_tables_1_6 _ (List.mem_of_getElem? cw_173), List.forall_mem_cons.mpr ⟨fun _ => in_tables_1_6 _ (List.mem_of_getElem? cw_174), List.forall_mem_cons.mpr ⟨fun _ => in_tables_1_7 _ (List.mem_of_getElem? cw_175), List.forall_mem_cons.mpr ⟨fun _ => in_tables_1_7 _ (List.mem_of_getElem? cw_176), List.forall_mem_cons.mpr ⟨fun _ => in_tables_1_7 _ (List.mem_of_getElem? cw_177), List.forall_mem_cons.mpr ⟨fun _ => in_tables_1_7 _ (List.mem_of_getElem? cw_178), List.forall_mem_cons.mpr ⟨fun _ => in_tables_1_7 _ (List.mem_of_getElem? cw_179), List.forall_mem_cons.mpr ⟨fun _ => in_tables_1_7 _ (List.mem_of_getElem? cw_180), List.forall_mem_cons.mpr ⟨fun _ => in_tables_1_7 _ (List.mem_of_getElem? cw_181), List.forall_mem_cons.mpr ⟨fun _ => in_tables_1_7 _ (List.mem_of_getElem? cw_182), List.forall_mem_cons.mpr ⟨fun _ => in_tables_1_7 _ (List.mem_of_getElem? cw_183), List.forall_mem_cons.mpr ⟨fun _ => in_tables_1_7 _ (List.mem_of_getElem? cw_184), List.forall_mem_cons.mpr ⟨fun _ => in_tables_1_7 _ (List.mem_of_getElem? cw_185), List.forall_mem_cons.mpr ⟨fun _ => in_tables_1_8 _ (List.mem_of_getElem? cw_186), List.forall_mem_cons.mpr ⟨fun _ => in_tables_1_8 _ (List.mem_of_getElem? cw_187), List.forall_mem_cons.mpr ⟨fun _ => in_tables_1_8 _ (List.mem_of_getElem? cw_188), List.forall_mem_cons.mpr ⟨fun _ => in_tables_1_8 _ (List.mem_of_getElem? cw_189), List.forall_mem_cons.mpr ⟨fun _ => in_tables_1_8 _ (List.mem_of_getElem? cw_190), List.forall_mem_cons.mpr ⟨fun _ => in_tables_1_8 _ (List.mem_of_getElem? cw_191), List.forall_mem_cons.mpr ⟨fun _ => in_tables_1_8 _ (List.mem_of_getElem? cw_192), List.forall_mem_cons.mpr ⟨fun _ => in_tables_1_8 _ (List.mem_of_getElem? cw_193), List.forall_mem_cons.mpr ⟨fun _ => in_tables_1_8 _ (List.mem_of_getElem? cw_194), List.forall_mem_cons.mpr ⟨fun _ => in_tables_1_8 _ (List.mem_of_getElem? cw_195), List.forall_mem_cons.mpr ⟨fun _ => in_tables_1_8 _ (List.mem_of_getElem? cw_196), List.forall_mem_cons.mpr ⟨fun _ => in_tables_1_8 _ (List.mem_of_getElem? cw_197), List.forall_mem_cons.mpr ⟨fun _ => in_tables_1_8 _ (List.mem_of_getElem? cw_198), List.forall_mem_cons.mpr ⟨fun _ => in_tables_1_8 _ (List.mem_of_getElem? cw_199), fun _ h => absurd h List.not_mem_nil⟩⟩⟩⟩⟩⟩⟩⟩⟩⟩⟩⟩⟩⟩⟩⟩⟩⟩⟩⟩⟩⟩⟩⟩⟩⟩⟩⟩⟩⟩⟩⟩⟩⟩⟩⟩⟩⟩⟩⟩
theorem cwp_5 : ∀ x ∈ MIs_5, (miY x).cls ≠ "LightDeskLaw" → cwd x := List.forall_mem_cons.mpr ⟨fun _ => in_tables_1_8 _ (List.mem_of_getElem? cw_200), List.forall_mem_cons.mpr ⟨fun _ => in_tables_1_8 _ (List.mem_of_getElem? cw_201), List.forall_mem_cons.mpr ⟨fun _ => in_tables_1_8 _ (List.mem_of_getElem? cw_202), List.forall_mem_cons.mpr ⟨fun _ => in_tables_1_8 _ (List.mem_of_getElem? cw_203), List.forall_mem_cons.mpr ⟨fun _ => in_tables_1_8 _ (List.mem_of_getElem? cw_204), List.forall_mem_cons.mpr ⟨fun _ => in_tables_1_8 _ (List.mem_of_getElem? cw_205), List.forall_mem_cons.mpr ⟨fun _ => in_tables_1_8 _ (List.mem_of_getElem? cw_206), List.forall_mem_cons.mpr ⟨fun _ => in_tables_1_8 _ (List.mem_of_getElem? cw_207), List.forall_mem_cons.mpr ⟨fun _ => in_tables_1_8 _ (List.mem_of_getElem? cw_208), List.forall_mem_cons.mpr ⟨fun _ => in_tables_1_8 _ (List.mem_of_getElem? cw_209), List.forall_mem_cons.mpr ⟨fun _ => in_tables_1_8 _ (List.mem_of_getElem? cw_210), List.forall_mem_cons.mpr ⟨fun _ => in_tables_1_8 _ (List.mem_of_getElem? cw_211), List.forall_mem_cons.mpr ⟨fun _ => in_tables_1_8 _ (List.mem_of_getElem? cw_212), List.forall_mem_cons.mpr ⟨fun _ => in_tables_1_8 _ (List.mem_of_getElem? cw_213), List.forall_mem_cons.mpr ⟨fun _ => in_tables_1_8 _ (List.mem_of_getElem? cw_214), List.forall_mem_cons.mpr ⟨fun _ => in_tables_1_8 _ (List.mem_of_getElem? cw_215), List.forall_mem_cons.mpr ⟨fun _ => in_tables_1_8 _ (List.mem_of_getElem? cw_216), List.forall_mem_cons.mpr ⟨fun _ => in_tables_1_8 _ (List.mem_of_getElem? cw_217), List.forall_mem_cons.mpr ⟨fun _ => in_tables_1_8 _ (List.mem_of_getElem? cw_218), List.forall_mem_cons.mpr ⟨fun _ => in_tables_1_8 _ (List.mem_of_getElem? cw_219), List.forall_mem_cons.mpr ⟨fun _ => in_tables_1_8 _ (List.mem_of_getElem? cw_220), List.forall_mem_cons.mpr ⟨fun _ => in_tables_1_8 _ (List.mem_of_getElem? cw_221), List.forall_mem_cons.mpr ⟨fun _ => in_tables_1_8 _ (List.mem_of_getElem? cw_222), List.forall_mem_cons.mpr ⟨fun _ => in_tables_1_8 _ (List.mem_of_getElem? cw_223), List.forall_mem_cons.mpr ⟨fun _ => in_tables_1_8 _ (List.mem_of_getElem? cw_224), List.forall_mem_cons.mpr ⟨fun _ => in_tables_1_8 _ (List.mem_of_getElem? cw_225), List.forall_mem_cons.mpr ⟨fun _ => in_tables_1_8 _ (List.mem_of_getElem? cw_226), List.forall_mem_cons.mpr ⟨fun _ => in_tables_1_8 _ (List.mem_of_getElem? cw_227), List.forall_mem_cons.mpr ⟨fun _ => in_tables_1_8 _ (List.mem_of_getElem? cw_228), List.forall_mem_cons.mpr ⟨fun _ => in_tables_1_8 _ (List.mem_of_getElem? cw_229), List.forall_mem_cons.mpr ⟨fun _ => in_tables_1_8 _ (List.mem_of_getElem? cw_230), List.forall_mem_cons.mpr ⟨fun _ => in_tables_1_8 _ (List.mem_of_getElem? cw_231), List.forall_mem_cons.mpr ⟨fun _ => in_tables_1_8 _ (List.mem_of_getElem? cw_232), List.forall_mem_cons.mpr ⟨fun _ => in_tables_1_8 _ (List.mem_of_getElem? cw_233), List.forall_mem_cons.mpr ⟨fun _ => in_tables_1_8 _ (List.mem_of_getElem? cw_234), List.forall_mem_cons.mpr ⟨fun _ => in_tables_1_8 _ (List.mem_of_getElem? cw_235), List.forall_mem_cons.mpr ⟨fun _ => in_tables_1_8 _ (List.mem_of_getElem? cw_236), List.forall_mem_cons.mpr ⟨fun _ => in_tables_1_8 _ (List.mem_of_getElem? cw_237), List.forall_mem_cons.mpr ⟨fun _ => in_tables_1_8 _ (List.mem_of_getElem? cw_238), List.forall_mem_cons.mpr ⟨fun _ => in_tables_1_8 _ (List.mem_of_getElem? cw_239), fun _ h => absurd h List.not_mem_nil⟩⟩⟩⟩⟩⟩⟩⟩⟩⟩⟩⟩⟩⟩⟩⟩⟩⟩⟩⟩⟩⟩⟩⟩⟩⟩⟩⟩⟩⟩⟩⟩⟩⟩⟩⟩⟩⟩⟩⟩
theorem cwp_6 : ∀ x ∈ MIs_6, (miY x).cls ≠ "LightDeskLaw" → cwd x := List.forall_mem_cons.mpr ⟨fun _ => in_tables_1_8 _ (List.mem_of_getElem? cw_240), List.forall_mem_cons.mpr ⟨fun _ => in_tables_1_8 _ (List.mem_of_getElem? cw_241), List.forall_mem_cons.mpr ⟨fun _ => in_tables_1_8 _ (List.mem_of_getElem? cw_242), List.forall_mem_cons.mpr ⟨fun _ => in_tables_1_8 _ (List.mem_of_getElem? cw_243), List.forall_mem_cons.mpr ⟨fun _ => in_tables_1_8 _ (List.mem_of_getElem? cw_244), List.forall_mem_cons.mpr ⟨fun _ => in_tables_1_8 _ (List.mem_of_getElem? cw_245), List.forall_mem_cons.mpr ⟨fun _ => in_tables_1_9 _ (List.mem_of_getElem? cw_246), List.forall_mem_cons.mpr ⟨fun _ => in_tables_1_9 _ (List.mem_of_getElem? cw_247), List.forall_mem_cons.mpr ⟨fun _ => in_tables_1_9 _ (List.mem_of_getElem? cw_248), List.forall_mem_cons.mpr ⟨fun _ => in_tables_1_9 _ (List.mem_of_getElem? cw_249), List.forall_mem_cons.mpr ⟨fun _ => in_tables_1_9 _ (List.mem_of_getElem? cw_250), List.forall_mem_cons.mpr ⟨fun _ => in_tables_1_9 _ (List.mem_of_getElem? cw_251), List.forall_mem_cons.mpr ⟨fun _ => in_tables_1_9 _ (List.mem_of_getElem? cw_252), List.forall_mem_cons.mpr ⟨fun _ => in_tables_1_9 _ (List.mem_of_getElem? cw_253), List.forall_mem_cons.mpr ⟨fun _ => in_tables_1_9 _ (List.mem_of_getElem? cw_254), List.forall_mem_cons.mpr ⟨fun _ => in_tables_1_9 _ (List.mem_of_getElem? cw_255), List.forall_mem_cons.mpr ⟨fun _ => in_tables_1_9 _ (List.mem_of_getElem? cw_256), List.forall_mem_cons.mpr ⟨fun _ => in_tables_1_9 _ (List.mem_of_getElem? cw_257), List.forall_mem_cons.mpr ⟨fun _ => in_tables_1_9 _ (List.mem_of_getElem? cw_258), List.forall_mem_cons.mpr ⟨fun _ => in_tables_1_9 _ (List.mem_of_getElem? cw_259), List.forall_mem_cons.mpr ⟨fun _ => in_tables_1_9 _ (List.mem_of_getElem? cw_260), List.forall_mem_cons.mpr ⟨fun _ => in_tables_1_9 _ (List.mem_of_getElem? cw_261), List.forall_mem_cons.mpr ⟨fun _ => in_tables_1_9 _ (List.mem_of_getElem? cw_262), List.forall_mem_cons.mpr ⟨fun _ => in_tables_1_9 _ (List.mem_of_getElem? cw_263), List.forall_mem_cons.mpr ⟨fun _ => in_tables_1_9 _ (List.mem_of_getElem? cw_264), List.forall_mem_cons.mpr ⟨fun _ => in_tables_1_9 _ (List.mem_of_getElem? cw_265), List.forall_mem_cons.mpr ⟨fun _ => in_tables_1_9 _ (List.mem_of_getElem? cw_266), List.forall_mem_cons.mpr ⟨fun _ => in_tables_1_9 _ (List.mem_of_getElem? cw_267), List.forall_mem_cons.mpr ⟨fun _ => in_tables_1_9 _ (List.mem_of_getElem? cw_268), List.forall_mem_cons.mpr ⟨fun _ => in_tables_1_9 _ (List.mem_of_getElem? cw_269), List.forall_mem_cons.mpr ⟨fun _ => in_tables_1_9 _ (List.mem_of_getElem? cw_270), List.forall_mem_cons.mpr ⟨fun _ => in_tables_1_9 _ (List.mem_of_getElem? cw_271), List.forall_mem_cons.mpr ⟨fun _ => in_tables_1_9 _ (List.mem_of_getElem? cw_272), List.forall_mem_cons.mpr ⟨fun _ => in_tables_1_9 _ (List.mem_of_getElem? cw_273), List.forall_mem_cons.mpr ⟨fun _ => in_tables_1_9 _ (List.mem_of_getElem? cw_274), List.forall_mem_cons.mpr ⟨fun _ => in_tables_1_9 _ (List.mem_of_getElem? cw_275), List.forall_mem_cons.mpr ⟨fun _ => in_tables_1_9 _ (List.mem_of_getElem? cw_276), List.forall_mem_cons.mpr ⟨fun _ => in_tables_1_9 _ (List.mem_of_getElem? cw_277), List.forall_mem_cons.mpr ⟨fun _ => in_tables_1_9 _ (List.mem_of_getElem? cw_278), List.forall_mem_cons.mpr ⟨fun _ => in_tables_1_9 _ (List.mem_of_getElem? cw_279), fun _ h => absurd h List.not_mem_nil⟩⟩⟩⟩⟩⟩⟩⟩⟩⟩⟩⟩⟩⟩⟩⟩⟩⟩⟩⟩⟩⟩⟩⟩⟩⟩⟩⟩⟩⟩⟩⟩⟩⟩⟩⟩⟩⟩⟩⟩
theorem cwp_7 : ∀ x ∈ MIs_7, (miY x).cls ≠ "LightDeskLaw" → cwd x := List.forall_mem_cons.mpr ⟨fun _ => in_tables_1_9 _ (List.mem_of_getElem? cw_280), List.forall_mem_cons.mpr ⟨fun _ => in_tables_1_9 _ (List.mem_of_getElem? cw_281), List.forall_mem_cons.mpr ⟨fun _ => in_tables_1_9 _ (List.mem_of_getElem? cw_282), List.forall_mem_cons.mpr ⟨fun _ => in_tables_1_9 _ (List.mem_of_getElem? cw_283), List.forall_mem_cons.mpr ⟨fun _ => in_tables_1_9 _ (List.mem_of_getElem? cw_284), List.forall_mem_cons.mpr ⟨fun _ => in_tables_1_9 _ (List.mem_of_getElem? cw_285), List.forall_mem_cons.mpr ⟨fun _ => in_tables_1_9 _ (List.mem_of_getElem? cw_286), List.forall_mem_cons.mpr ⟨fun _ => in_tables_1_9 _ (List.mem_of_getElem? cw_287), List.forall_mem_cons.mpr ⟨fun _ => in_tables_1_9 _ (List.mem_of_getElem? cw_288), List.forall_mem_cons.mpr ⟨fun _ => in_tables_1_9 _ (List.mem_of_getElem? cw_289), List.forall_mem_cons.mpr ⟨fun _ => in_tables_1_9 _ (List.mem_of_getElem? cw_290), List.forall_mem_cons.mpr ⟨fun _ => in_tables_1_9 _ (List.mem_of_getElem? cw_291), List.forall_mem_cons.mpr ⟨fun _ => in_tables_1_9 _ (List.mem_of_getElem? cw_292), List.forall_mem_cons.mpr ⟨fun _ => in_tables_1_9 _ (List.mem_of_getElem? cw_293), List.forall_mem_cons.mpr ⟨fun _ => in_tables_1_9 _ (List.mem_of_getElem? cw_294), List.forall_mem_cons.mpr ⟨fun _ => in_tables_1_9 _ (List.mem_of_getElem? cw_295), List.forall_mem_cons.mpr ⟨fun _ => in_tables_1_9 _ (List.mem_of_getElem? cw_296), List.forall_mem_cons.mpr ⟨fun _ => in_tables_1_9 _ (List.mem_of_getElem? cw_297), List.forall_mem_cons.mpr ⟨fun _ => in_tables_1_9 _ (List.mem_of_getElem? cw_298), List.forall_mem_cons.mpr ⟨fun _ => in_tables_1_9 _ (List.mem_of_getElem? cw_299), List.forall_mem_cons.mpr ⟨fun _ => in_tables_1_9 _ (List.mem_of_getElem? cw_300), List.forall_mem_cons.mpr ⟨fun _ => in_tables_1_9 _ (List.mem_of_getElem? cw_301), List.forall_mem_cons.mpr ⟨fun _ => in_tables_1_9 _ (List.mem_of_getElem? cw_302), List.forall_mem_cons.mpr ⟨fun _ => in_tables_1_9 _ (List.mem_of_getElem? cw_303), List.forall_mem_cons.mpr ⟨fun _ => in_tables_1_9 _ (List.mem_of_getElem? cw_304), List.forall_mem_cons.mpr ⟨fun _ => in_tables_1_9 _ (List.mem_of_getElem? cw_305), List.forall_mem_cons.mpr ⟨fun _ => in_tables_1_10 _ (List.mem_of_getElem? cw_306), List.forall_mem_cons.mpr ⟨fun _ => in_tables_1_10 _ (List.mem_of_getElem? cw_307), List.forall_mem_cons.mpr ⟨fun _ => in_tables_1_10 _ (List.mem_of_getElem? cw_308), List.forall_mem_cons.mpr ⟨fun _ => in_tables_1_10 _ (List.mem_of_getElem? cw_309), List.forall_mem_cons.mpr ⟨fun _ => in_tables_1_10 _ (List.mem_of_getElem? cw_310), List.forall_mem_cons.mpr ⟨fun _ => in_tables_1_10 _ (List.mem_of_getElem? cw_311), List.forall_mem_cons.mpr ⟨fun _ => in_tables_1_10 _ (List.mem_of_getElem? cw_312), List.forall_mem_cons.mpr ⟨fun _ => in_tables_1_10 _ (List.mem_of_getElem? cw_313), List.forall_mem_cons.mpr ⟨fun _ => in_tables_1_10 _ (List.mem_of_getElem? cw_314), List.forall_mem_cons.mpr ⟨fun _ => in_tables_1_10 _ (List.mem_of_getElem? cw_315), List.forall_mem_cons.mpr ⟨fun _ => in_tables_1_10 _ (List.mem_of_getElem? cw_316), List.forall_mem_cons.mpr ⟨fun _ => in_tables_1_10 _ (List.mem_of_getElem? cw_317), List.forall_mem_cons.mpr ⟨fun _ => in_tables_1_10 _ (List.mem_of_getElem? cw_318), List.forall_mem_cons.mpr ⟨fun _ => in_tables_1_10 _ (List.mem_of_getElem? cw_319), fun _ h => absurd h List.not_mem_nil⟩⟩⟩⟩⟩⟩⟩⟩⟩⟩⟩⟩⟩⟩⟩⟩⟩⟩⟩⟩⟩⟩⟩⟩⟩⟩⟩⟩⟩⟩⟩⟩⟩⟩⟩⟩⟩⟩⟩⟩
theorem cwp_8 : ∀ x ∈ MIs_8, (miY x).cls ≠ "LightDeskLaw" → cwd x := List.forall_mem_cons.mpr ⟨fun _ => in_tables_1_10 _ (List.mem_of_getElem? cw_320), List.forall_mem_cons.mpr ⟨fun _ => in_tables_1_10 _ (List.mem_of_getElem? cw_321), List.forall_mem_cons.mpr ⟨fun _ => in_tables_1_10 _ (List.mem_of_getElem? cw_322), List.forall_mem_cons.mpr ⟨fun _ => in_tables_1_10 _ (List.mem_of_getElem? cw_323), List.forall_mem_cons.mpr ⟨fun _ => in_tables_1_10 _ (List.mem_of_getElem? cw_324), List.forall_mem_cons.mpr ⟨fun _ => in_tables_1_10 _ (List.mem_of_getElem? cw_325), List.forall_mem_cons.mpr ⟨fun _ => in_tables_1_10 _ (List.mem_of_getElem? cw_326), List.forall_mem_cons.mpr ⟨fun _ => in_tables_1_10 _ (List.mem_of_getElem? cw_327), List.forall_mem_cons.mpr ⟨fun _ => in_tables_1_10 _ (List.mem_of_getElem? cw_328), List.forall_mem_cons.mpr ⟨fun _ => in_tables_1_10 _ (List.mem_of_getElem? cw_329), List.forall_mem_cons.mpr ⟨fun _ => in_tables_1_10 _ (List.mem_of_getElem? cw_330), List.forall_mem_cons.mpr ⟨fun _ => in_tables_1_10 _ (List.mem_of_getElem? cw_331), List.forall_mem_cons.mpr ⟨fun _ => in_tables_1_10 _ (List.mem_of_getElem? cw_332), List.forall_mem_cons.mpr ⟨fun _ => in_tables_1_10 _ (List.mem_of_getElem? cw_333), List.forall_mem_cons.mpr ⟨fun _ => in_tables_1_10 _ (List.mem_of_getElem? cw_334), List.forall_mem_cons.mpr ⟨fun _ => in_tables_1_10 _ (List.mem_of_getElem? cw_335), List.forall_mem_cons.mpr ⟨fun _ => in_tables_1_10 _ (List.mem_of_getElem? cw_336), List.forall_mem_cons.mpr ⟨fun _ => in_tables_1_10 _ (List.mem_of_getElem? cw_337), List.forall_mem_cons.mpr ⟨fun _ => in_tables_1_10 _ (List.mem_of_getElem? cw_338), List.forall_mem_cons.mpr ⟨fun _ => in_tables_1_10 _ (List.mem_of_getElem? cw_339), List.forall_mem_cons.mpr ⟨fun _ => in_tables_1_10 _ (List.mem_of_getElem? cw_340), List.forall_mem_cons.mpr ⟨fun _ => in_tables_1_10 _ (List.mem_of_getElem? cw_341), List.forall_mem_cons.mpr ⟨fun _ => in_tables_1_10 _ (List.mem_of_getElem? cw_342), List.forall_mem_cons.mpr ⟨fun _ => in_tables_1_1 _ (List.mem_of_getElem? cw_343), List.forall_mem_cons.mpr ⟨fun _ => in_tables_1_2 _ (List.mem_of_getElem? cw_344), List.forall_mem_cons.mpr ⟨fun _ => in_tables_1_2 _ (List.mem_of_getElem? cw_345), List.forall_mem_cons.mpr ⟨fun _ => in_tables_1_2 _ (List.mem_of_getElem? cw_346), List.forall_mem_cons.mpr ⟨fun _ => in_tables_1_2 _ (List.mem_of_getElem? cw_347), List.forall_mem_cons.mpr ⟨fun _ => in_tables_1_2 _ (List.mem_of_getElem? cw_348), List.forall_mem_cons.mpr ⟨fun _ => in_tables_1_2 _ (List.mem_of_getElem? cw_349), List.forall_mem_cons.mpr ⟨fun _ => in_tables_1_2 _ (List.mem_of_getElem? cw_350), List.forall_mem_cons.mpr ⟨fun _ => in_tables_1_2 _ (List.mem_of_getElem? cw_351), List.forall_mem_cons.mpr ⟨fun _ => in_tables_1_2 _ (List.mem_of_getElem? cw_352), List.forall_mem_cons.mpr ⟨fun _ => in_tables_1_2 _ (List.mem_of_getElem? cw_353), List.forall_mem_cons.mpr ⟨fun _ => in_tables_1_2 _ (List.mem_of_getElem? cw_354), List.forall_mem_cons.mpr ⟨fun _ => in_tables_1_2 _ (List.mem_of_getElem? cw_355), List.forall_mem_cons.mpr ⟨fun _ => in_tables_1_2 _ (List.mem_of_getElem? cw_356), List.forall_mem_cons.mpr ⟨fun _ => in_tables_1_2 _ (List.mem_of_getElem? cw_357), List.forall_mem_cons.mpr ⟨fun _ => in_tables_1_2 _ (List.mem_of_getElem? cw_358), List.forall_mem_cons.mpr ⟨fun _ => in_tables_1_2 _ (List.mem_of_getElem? cw_359), fun _ h => absurd h List.not_mem_nil⟩⟩⟩⟩⟩⟩⟩⟩⟩⟩⟩⟩⟩⟩⟩⟩⟩⟩⟩⟩⟩⟩⟩⟩⟩⟩⟩⟩⟩⟩⟩⟩⟩⟩⟩⟩⟩⟩⟩⟩
theorem cwp_9 : ∀ x ∈ MIs_9, (miY x).cls ≠ "LightDeskLaw" → cwd x := List.forall_mem_cons.mpr ⟨fun _ => in_tables_1_2 _ (List.mem_of_getElem? cw_360), List.forall_mem_cons.mpr ⟨fun _ => in_tables_1_2 _ (List.mem_of_getElem? cw_361), List.forall_mem_cons.mpr ⟨fun _ => in_tables_1_2 _ (List.mem_of_getElem? cw_362), List.forall_mem_cons.mpr ⟨fun _ => in_tables_1_2 _ (List.mem_of_getElem? cw_363), List.forall_mem_cons.mpr ⟨fun _ => in_tables_1_2 _ (List.mem_of_getElem? cw_364), List.forall_mem_cons.mpr ⟨fun _ => in_tables_1_2 _ (List.mem_of_getElem? cw_365), List.forall_mem_cons.mpr ⟨fun _ => in_tables_1_3 _ (List.mem_of_getElem? cw_366), List.forall_mem_cons.mpr ⟨fun _ => in_tables_1_3 _ (List.mem_of_getElem? cw_367), List.forall_mem_cons.mpr ⟨fun _ => in_tables_1_3 _ (List.mem_of_getElem? cw_368), List.forall_mem_cons.mpr ⟨fun _ => in_tables_1_3 _ (List.mem_of_getElem? cw_369), List.forall_mem_cons.mpr ⟨fun _ => in_tables_1_2 _ (List.mem_of_getElem? cw_370), fun _ h => absurd h List.not_mem_nil⟩⟩⟩⟩⟩⟩⟩⟩⟩⟩⟩
theorem cw_all : ∀ x ∈ MIs, (miY x).cls ≠ "LightDeskLaw" → cwd x := by
  intro x hx
  simp only [MIs, List.mem_append] at hx
  rcases hx with h | h | h | h | h | h | h | h | h | h
  · exact cwp_0 x h
  · exact cwp_1 x h
  · exact cwp_2 x h
  · exact cwp_3 x h
  · exact cwp_4 x h
  · exact cwp_5 x h
  · exact cwp_6 x h
  · exact cwp_7 x h
  · exact cwp_8 x h
  · exact cwp_9 x h
