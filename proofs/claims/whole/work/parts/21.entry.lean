def ck_dec (b : ByteArray) (e : mc_E) : Bool := match decode b e.1 with
  | .ok (i, n) => decide (i = e.2.1) && Nat.beq n e.2.2.1
  | _ => false
def ck_s (mi : Nat) (e : mc_E) : Bool := !(ck_sw e.2.1) || ck_dec (pg_by mi) e
theorem ck_w0 : tb_0.all (ck_s 0) = true := by decide +kernel
theorem ck_w1 : tb_1.all (ck_s 1) = true := by decide +kernel
theorem ck_w2 : tb_2.all (ck_s 2) = true := by decide +kernel
theorem ck_w3 : tb_3.all (ck_s 3) = true := by decide +kernel
theorem ck_w4 : tb_4.all (ck_s 4) = true := by decide +kernel
theorem ck_w5 : tb_5.all (ck_s 5) = true := by decide +kernel
theorem ck_w6 : tb_6.all (ck_s 6) = true := by decide +kernel
theorem ck_w7 : tb_7.all (ck_s 7) = true := by decide +kernel
theorem ck_w8 : tb_8.all (ck_s 8) = true := by decide +kernel
theorem ck_w9 : tb_9.all (ck_s 9) = true := by decide +kernel
theorem ck_w10 : tb_10.all (ck_s 10) = true := by decide +kernel
theorem ck_w11 : tb_11.all (ck_s 11) = true := by decide +kernel
theorem ck_w12 : tb_12.all (ck_s 12) = true := by decide +kernel
theorem ck_w13 : tb_13.all (ck_s 13) = true := by decide +kernel
theorem ck_w14 : tb_14.all (ck_s 14) = true := by decide +kernel
theorem ck_w15 : tb_15.all (ck_s 15) = true := by decide +kernel
theorem ck_w16 : tb_16.all (ck_s 16) = true := by decide +kernel
theorem ck_w17 : tb_17.all (ck_s 17) = true := by decide +kernel
theorem ck_w18 : tb_18.all (ck_s 18) = true := by decide +kernel
theorem ck_w19 : tb_19.all (ck_s 19) = true := by decide +kernel
theorem ck_w20 : tb_20.all (ck_s 20) = true := by decide +kernel
theorem ck_w21 : tb_21.all (ck_s 21) = true := by decide +kernel
theorem ck_w22 : tb_22.all (ck_s 22) = true := by decide +kernel
theorem ck_w23 : tb_23.all (ck_s 23) = true := by decide +kernel
theorem ck_w24 : tb_24.all (ck_s 24) = true := by decide +kernel
theorem ck_w25 : tb_25.all (ck_s 25) = true := by decide +kernel
theorem ck_w26 : tb_26.all (ck_s 26) = true := by decide +kernel
theorem ck_w27 : tb_27.all (ck_s 27) = true := by decide +kernel
theorem ck_w28 : tb_28.all (ck_s 28) = true := by decide +kernel
theorem ck_w29 : tb_29.all (ck_s 29) = true := by decide +kernel
theorem ck_w30 : tb_30.all (ck_s 30) = true := by decide +kernel
theorem ck_w31 : tb_31.all (ck_s 31) = true := by decide +kernel
theorem ck_w32 : tb_32.all (ck_s 32) = true := by decide +kernel
theorem ck_w33 : tb_33.all (ck_s 33) = true := by decide +kernel
theorem ck_w34 : tb_34.all (ck_s 34) = true := by decide +kernel
theorem ck_w35 : tb_35.all (ck_s 35) = true := by decide +kernel
theorem ck_w36 : tb_36.all (ck_s 36) = true := by decide +kernel
theorem ck_w37 : tb_37.all (ck_s 37) = true := by decide +kernel
theorem ck_w38 : tb_38.all (ck_s 38) = true := by decide +kernel
theorem ck_w39 : tb_39.all (ck_s 39) = true := by decide +kernel
theorem ck_w40 : tb_40.all (ck_s 40) = true := by decide +kernel
theorem ck_w41 : tb_41.all (ck_s 41) = true := by decide +kernel
theorem ck_w42 : tb_42.all (ck_s 42) = true := by decide +kernel
theorem ck_w43 : tb_43.all (ck_s 43) = true := by decide +kernel
theorem ck_w44 : tb_44.all (ck_s 44) = true := by decide +kernel
theorem ck_w45 : tb_45.all (ck_s 45) = true := by decide +kernel
theorem ck_w46 : tb_46.all (ck_s 46) = true := by decide +kernel
theorem ck_w47 : tb_47.all (ck_s 47) = true := by decide +kernel
theorem ck_w48 : tb_48.all (ck_s 48) = true := by decide +kernel
theorem ck_w49 : tb_49.all (ck_s 49) = true := by decide +kernel
theorem ck_w50 : tb_50.all (ck_s 50) = true := by decide +kernel
theorem ck_w51 : tb_51.all (ck_s 51) = true := by decide +kernel
theorem ck_w52 : tb_52.all (ck_s 52) = true := by decide +kernel
theorem ck_w53 : tb_53.all (ck_s 53) = true := by decide +kernel
theorem ck_w54 : tb_54.all (ck_s 54) = true := by decide +kernel
theorem ck_w55 : tb_55.all (ck_s 55) = true := by decide +kernel
theorem ck_w56 : tb_56.all (ck_s 56) = true := by decide +kernel
theorem ck_w57 : tb_57.all (ck_s 57) = true := by decide +kernel
theorem ck_w58 : tb_58.all (ck_s 58) = true := by decide +kernel
theorem ck_w59 : tb_59.all (ck_s 59) = true := by decide +kernel
theorem ck_w60 : tb_60.all (ck_s 60) = true := by decide +kernel
theorem ck_w61 : tb_61.all (ck_s 61) = true := by decide +kernel
theorem ck_w62 : tb_62.all (ck_s 62) = true := by decide +kernel
theorem ck_w63 : tb_63.all (ck_s 63) = true := by decide +kernel
theorem ck_w64 : tb_64.all (ck_s 64) = true := by decide +kernel
theorem ck_w65 : tb_65.all (ck_s 65) = true := by decide +kernel
theorem ck_w66 : tb_66.all (ck_s 66) = true := by decide +kernel
theorem ck_w67 : tb_67.all (ck_s 67) = true := by decide +kernel
theorem ck_w68 : tb_68.all (ck_s 68) = true := by decide +kernel
theorem ck_w69 : tb_69.all (ck_s 69) = true := by decide +kernel
theorem ck_w70 : tb_70.all (ck_s 70) = true := by decide +kernel
theorem ck_w71 : tb_71.all (ck_s 71) = true := by decide +kernel
theorem ck_w72 : tb_72.all (ck_s 72) = true := by decide +kernel
theorem ck_w73 : tb_73.all (ck_s 73) = true := by decide +kernel
theorem ck_w74 : tb_74.all (ck_s 74) = true := by decide +kernel
theorem ck_w75 : tb_75.all (ck_s 75) = true := by decide +kernel
theorem ck_w76 : tb_76.all (ck_s 76) = true := by decide +kernel
theorem ck_w77 : tb_77.all (ck_s 77) = true := by decide +kernel
theorem ck_w78 : tb_78.all (ck_s 78) = true := by decide +kernel
theorem ck_w79 : tb_79.all (ck_s 79) = true := by decide +kernel
theorem ck_w80 : tb_80.all (ck_s 80) = true := by decide +kernel
theorem ck_w81 : tb_81.all (ck_s 81) = true := by decide +kernel
theorem ck_w82 : tb_82.all (ck_s 82) = true := by decide +kernel
theorem ck_w83 : tb_83.all (ck_s 83) = true := by decide +kernel
theorem ck_w84 : tb_84.all (ck_s 84) = true := by decide +kernel
theorem ck_w85 : tb_85.all (ck_s 85) = true := by decide +kernel
theorem ck_w86 : tb_86.all (ck_s 86) = true := by decide +kernel
theorem ck_w87 : tb_87.all (ck_s 87) = true := by decide +kernel
theorem ck_w88 : tb_88.all (ck_s 88) = true := by decide +kernel
theorem ck_w89 : tb_89.all (ck_s 89) = true := by decide +kernel
theorem ck_w90 : tb_90.all (ck_s 90) = true := by decide +kernel
theorem ck_w91 : tb_91.all (ck_s 91) = true := by decide +kernel
theorem ck_w92 : tb_92.all (ck_s 92) = true := by decide +kernel
theorem ck_w93 : tb_93.all (ck_s 93) = true := by decide +kernel
theorem ck_w94 : tb_94.all (ck_s 94) = true := by decide +kernel
theorem ck_w95 : tb_95.all (ck_s 95) = true := by decide +kernel
theorem ck_w96 : tb_96.all (ck_s 96) = true := by decide +kernel
theorem ck_w97 : tb_97.all (ck_s 97) = true := by decide +kernel
theorem ck_w98 : tb_98.all (ck_s 98) = true := by decide +kernel
theorem ck_w99 : tb_99.all (ck_s 99) = true := by decide +kernel
theorem ck_w100 : tb_100.all (ck_s 100) = true := by decide +kernel
theorem ck_w101 : tb_101.all (ck_s 101) = true := by decide +kernel
theorem ck_w102 : tb_102.all (ck_s 102) = true := by decide +kernel
theorem ck_w103 : tb_103.all (ck_s 103) = true := by decide +kernel
theorem ck_w104 : tb_104.all (ck_s 104) = true := by decide +kernel
theorem ck_w105 : tb_105.all (ck_s 105) = true := by decide +kernel
theorem ck_w106 : tb_106.all (ck_s 106) = true := by decide +kernel
theorem ck_w107 : tb_107.all (ck_s 107) = true := by decide +kernel
theorem ck_w108 : tb_108.all (ck_s 108) = true := by decide +kernel
theorem ck_w109 : tb_109.all (ck_s 109) = true := by decide +kernel
theorem ck_w110 : tb_110.all (ck_s 110) = true := by decide +kernel
theorem ck_w111 : tb_111.all (ck_s 111) = true := by decide +kernel
theorem ck_w112 : tb_112.all (ck_s 112) = true := by decide +kernel
theorem ck_w113 : tb_113.all (ck_s 113) = true := by decide +kernel
theorem ck_w114 : tb_114.all (ck_s 114) = true := by decide +kernel
theorem ck_w115 : tb_115.all (ck_s 115) = true := by decide +kernel
theorem ck_w116 : tb_116.all (ck_s 116) = true := by decide +kernel
theorem ck_w117 : tb_117.all (ck_s 117) = true := by decide +kernel
theorem ck_w118 : tb_118.all (ck_s 118) = true := by decide +kernel
theorem ck_w119 : tb_119.all (ck_s 119) = true := by decide +kernel
theorem ck_w120 : tb_120.all (ck_s 120) = true := by decide +kernel
theorem ck_w121 : tb_121.all (ck_s 121) = true := by decide +kernel
theorem ck_w122 : tb_122.all (ck_s 122) = true := by decide +kernel
theorem ck_w123 : tb_123.all (ck_s 123) = true := by decide +kernel
theorem ck_w124 : tb_124.all (ck_s 124) = true := by decide +kernel
theorem ck_w125 : tb_125.all (ck_s 125) = true := by decide +kernel
theorem ck_w126 : tb_126.all (ck_s 126) = true := by decide +kernel
theorem ck_w127 : tb_127.all (ck_s 127) = true := by decide +kernel
theorem ck_w128 : tb_128.all (ck_s 128) = true := by decide +kernel
theorem ck_w129 : tb_129.all (ck_s 129) = true := by decide +kernel
theorem ck_w130 : tb_130.all (ck_s 130) = true := by decide +kernel
theorem ck_w131 : tb_131.all (ck_s 131) = true := by decide +kernel
theorem ck_w132 : tb_132.all (ck_s 132) = true := by decide +kernel
theorem ck_w133 : tb_133.all (ck_s 133) = true := by decide +kernel
theorem ck_w134 : tb_134.all (ck_s 134) = true := by decide +kernel
theorem ck_w135 : tb_135.all (ck_s 135) = true := by decide +kernel
theorem ck_w136 : tb_136.all (ck_s 136) = true := by decide +kernel
theorem ck_w137 : tb_137.all (ck_s 137) = true := by decide +kernel
theorem ck_w138 : tb_138.all (ck_s 138) = true := by decide +kernel
theorem ck_w139 : tb_139.all (ck_s 139) = true := by decide +kernel
theorem ck_w140 : tb_140.all (ck_s 140) = true := by decide +kernel
theorem ck_w141 : tb_141.all (ck_s 141) = true := by decide +kernel
theorem ck_w142 : tb_142.all (ck_s 142) = true := by decide +kernel
theorem ck_w143 : tb_143.all (ck_s 143) = true := by decide +kernel
theorem ck_w144 : tb_144.all (ck_s 144) = true := by decide +kernel
theorem ck_w145 : tb_145.all (ck_s 145) = true := by decide +kernel
theorem ck_w146 : tb_146.all (ck_s 146) = true := by decide +kernel
theorem ck_w147 : tb_147.all (ck_s 147) = true := by decide +kernel
theorem ck_w148 : tb_148.all (ck_s 148) = true := by decide +kernel
theorem ck_w149 : tb_149.all (ck_s 149) = true := by decide +kernel
theorem ck_w150 : tb_150.all (ck_s 150) = true := by decide +kernel
theorem ck_w151 : tb_151.all (ck_s 151) = true := by decide +kernel
theorem ck_w152 : tb_152.all (ck_s 152) = true := by decide +kernel
theorem ck_w153 : tb_153.all (ck_s 153) = true := by decide +kernel
theorem ck_w154 : tb_154.all (ck_s 154) = true := by decide +kernel
theorem ck_w155 : tb_155.all (ck_s 155) = true := by decide +kernel
theorem ck_w156 : tb_156.all (ck_s 156) = true := by decide +kernel
theorem ck_w157 : tb_157.all (ck_s 157) = true := by decide +kernel
theorem ck_w158 : tb_158.all (ck_s 158) = true := by decide +kernel
theorem ck_w159 : tb_159.all (ck_s 159) = true := by decide +kernel
theorem ck_w160 : tb_160.all (ck_s 160) = true := by decide +kernel
theorem ck_w161 : tb_161.all (ck_s 161) = true := by decide +kernel
theorem ck_w162 : tb_162.all (ck_s 162) = true := by decide +kernel
theorem ck_w163 : tb_163.all (ck_s 163) = true := by decide +kernel
theorem ck_w164 : tb_164.all (ck_s 164) = true := by decide +kernel
theorem ck_w165 : tb_165.all (ck_s 165) = true := by decide +kernel
theorem ck_w166 : tb_166.all (ck_s 166) = true := by decide +kernel
theorem ck_w167 : tb_167.all (ck_s 167) = true := by decide +kernel
theorem ck_w168 : tb_168.all (ck_s 168) = true := by decide +kernel
theorem ck_w169 : tb_169.all (ck_s 169) = true := by decide +kernel
theorem ck_w170 : tb_170.all (ck_s 170) = true := by decide +kernel
theorem ck_w171 : tb_171.all (ck_s 171) = true := by decide +kernel
theorem ck_w172 : tb_172.all (ck_s 172) = true := by decide +kernel
theorem ck_w173 : tb_173.all (ck_s 173) = true := by decide +kernel
theorem ck_w174 : tb_174.all (ck_s 174) = true := by decide +kernel
theorem ck_w175 : tb_175.all (ck_s 175) = true := by decide +kernel
theorem ck_w176 : tb_176.all (ck_s 176) = true := by decide +kernel
theorem ck_w177 : tb_177.all (ck_s 177) = true := by decide +kernel
theorem ck_w178 : tb_178.all (ck_s 178) = true := by decide +kernel
theorem ck_w179 : tb_179.all (ck_s 179) = true := by decide +kernel
theorem ck_w180 : tb_180.all (ck_s 180) = true := by decide +kernel
theorem ck_w181 : tb_181.all (ck_s 181) = true := by decide +kernel
theorem ck_w182 : tb_182.all (ck_s 182) = true := by decide +kernel
theorem ck_w183 : tb_183.all (ck_s 183) = true := by decide +kernel
theorem ck_w184 : tb_184.all (ck_s 184) = true := by decide +kernel
theorem ck_w185 : tb_185.all (ck_s 185) = true := by decide +kernel
theorem ck_w186 : tb_186.all (ck_s 186) = true := by decide +kernel
theorem ck_w187 : tb_187.all (ck_s 187) = true := by decide +kernel
theorem ck_w188 : tb_188.all (ck_s 188) = true := by decide +kernel
theorem ck_w189 : tb_189.all (ck_s 189) = true := by decide +kernel
theorem ck_w190 : tb_190.all (ck_s 190) = true := by decide +kernel
theorem ck_w191 : tb_191.all (ck_s 191) = true := by decide +kernel
theorem ck_w192 : tb_192.all (ck_s 192) = true := by decide +kernel
theorem ck_w193 : tb_193.all (ck_s 193) = true := by decide +kernel
theorem ck_w194 : tb_194.all (ck_s 194) = true := by decide +kernel
theorem ck_w195 : tb_195.all (ck_s 195) = true := by decide +kernel
theorem ck_w196 : tb_196.all (ck_s 196) = true := by decide +kernel
theorem ck_w197 : tb_197.all (ck_s 197) = true := by decide +kernel
theorem ck_w198 : tb_198.all (ck_s 198) = true := by decide +kernel
theorem ck_w199 : tb_199.all (ck_s 199) = true := by decide +kernel
theorem ck_w200 : tb_200.all (ck_s 200) = true := by decide +kernel
theorem ck_w201 : tb_201.all (ck_s 201) = true := by decide +kernel
theorem ck_w202 : tb_202.all (ck_s 202) = true := by decide +kernel
theorem ck_w203 : tb_203.all (ck_s 203) = true := by decide +kernel
theorem ck_w204 : tb_204.all (ck_s 204) = true := by decide +kernel
theorem ck_w205 : tb_205.all (ck_s 205) = true := by decide +kernel
theorem en_ck : ∀ mi, ((pg_tb mi).all (ck_n mi) && ck_th mi (pg_tb mi)) = true
  | 0 => ck_e0
  | 1 => ck_e1
  | 2 => ck_e2
  | 3 => ck_e3
  | 4 => ck_e4
  | 5 => ck_e5
  | 6 => ck_e6
  | 7 => ck_e7
  | 8 => ck_e8
  | 9 => ck_e9
  | 10 => ck_e10
  | 11 => ck_e11
  | 12 => ck_e12
  | 13 => ck_e13
  | 14 => ck_e14
  | 15 => ck_e15
  | 16 => ck_e16
  | 17 => ck_e17
  | 18 => ck_e18
  | 19 => ck_e19
  | 20 => ck_e20
  | 21 => ck_e21
  | 22 => ck_e22
  | 23 => ck_e23
  | 24 => ck_e24
  | 25 => ck_e25
  | 26 => ck_e26
  | 27 => ck_e27
  | 28 => ck_e28
  | 29 => ck_e29
  | 30 => ck_e30
  | 31 => ck_e31
  | 32 => ck_e32
  | 33 => ck_e33
  | 34 => ck_e34
  | 35 => ck_e35
  | 36 => ck_e36
  | 37 => ck_e37
  | 38 => ck_e38
  | 39 => ck_e39
  | 40 => ck_e40
  | 41 => ck_e41
  | 42 => ck_e42
  | 43 => ck_e43
  | 44 => ck_e44
  | 45 => ck_e45
  | 46 => ck_e46
  | 47 => ck_e47
  | 48 => ck_e48
  | 49 => ck_e49
  | 50 => ck_e50
  | 51 => ck_e51
  | 52 => ck_e52
  | 53 => ck_e53
  | 54 => ck_e54
  | 55 => ck_e55
  | 56 => ck_e56
  | 57 => ck_e57
  | 58 => ck_e58
  | 59 => ck_e59
  | 60 => ck_e60
  | 61 => ck_e61
  | 62 => ck_e62
  | 63 => ck_e63
  | 64 => ck_e64
  | 65 => ck_e65
  | 66 => ck_e66
  | 67 => ck_e67
  | 68 => ck_e68
  | 69 => ck_e69
  | 70 => ck_e70
  | 71 => ck_e71
  | 72 => ck_e72
  | 73 => ck_e73
  | 74 => ck_e74
  | 75 => ck_e75
  | 76 => ck_e76
  | 77 => ck_e77
  | 78 => ck_e78
  | 79 => ck_e79
  | 80 => ck_e80
  | 81 => ck_e81
  | 82 => ck_e82
  | 83 => ck_e83
  | 84 => ck_e84
  | 85 => ck_e85
  | 86 => ck_e86
  | 87 => ck_e87
  | 88 => ck_e88
  | 89 => ck_e89
  | 90 => ck_e90
  | 91 => ck_e91
  | 92 => ck_e92
  | 93 => ck_e93
  | 94 => ck_e94
  | 95 => ck_e95
  | 96 => ck_e96
  | 97 => ck_e97
  | 98 => ck_e98
  | 99 => ck_e99
  | 100 => ck_e100
  | 101 => ck_e101
  | 102 => ck_e102
  | 103 => ck_e103
  | 104 => ck_e104
  | 105 => ck_e105
  | 106 => ck_e106
  | 107 => ck_e107
  | 108 => ck_e108
  | 109 => ck_e109
  | 110 => ck_e110
  | 111 => ck_e111
  | 112 => ck_e112
  | 113 => ck_e113
  | 114 => ck_e114
  | 115 => ck_e115
  | 116 => ck_e116
  | 117 => ck_e117
  | 118 => ck_e118
  | 119 => ck_e119
  | 120 => ck_e120
  | 121 => ck_e121
  | 122 => ck_e122
  | 123 => ck_e123
  | 124 => ck_e124
  | 125 => ck_e125
  | 126 => ck_e126
  | 127 => ck_e127
  | 128 => ck_e128
  | 129 => ck_e129
  | 130 => ck_e130
  | 131 => ck_e131
  | 132 => ck_e132
  | 133 => ck_e133
  | 134 => ck_e134
  | 135 => ck_e135
  | 136 => ck_e136
  | 137 => ck_e137
  | 138 => ck_e138
  | 139 => ck_e139
  | 140 => ck_e140
  | 141 => ck_e141
  | 142 => ck_e142
  | 143 => ck_e143
  | 144 => ck_e144
  | 145 => ck_e145
  | 146 => ck_e146
  | 147 => ck_e147
  | 148 => ck_e148
  | 149 => ck_e149
  | 150 => ck_e150
  | 151 => ck_e151
  | 152 => ck_e152
  | 153 => ck_e153
  | 154 => ck_e154
  | 155 => ck_e155
  | 156 => ck_e156
  | 157 => ck_e157
  | 158 => ck_e158
  | 159 => ck_e159
  | 160 => ck_e160
  | 161 => ck_e161
  | 162 => ck_e162
  | 163 => ck_e163
  | 164 => ck_e164
  | 165 => ck_e165
  | 166 => ck_e166
  | 167 => ck_e167
  | 168 => ck_e168
  | 169 => ck_e169
  | 170 => ck_e170
  | 171 => ck_e171
  | 172 => ck_e172
  | 173 => ck_e173
  | 174 => ck_e174
  | 175 => ck_e175
  | 176 => ck_e176
  | 177 => ck_e177
  | 178 => ck_e178
  | 179 => ck_e179
  | 180 => ck_e180
  | 181 => ck_e181
  | 182 => ck_e182
  | 183 => ck_e183
  | 184 => ck_e184
  | 185 => ck_e185
  | 186 => ck_e186
  | 187 => ck_e187
  | 188 => ck_e188
  | 189 => ck_e189
  | 190 => ck_e190
  | 191 => ck_e191
  | 192 => ck_e192
  | 193 => ck_e193
  | 194 => ck_e194
  | 195 => ck_e195
  | 196 => ck_e196
  | 197 => ck_e197
  | 198 => ck_e198
  | 199 => ck_e199
  | 200 => ck_e200
  | 201 => ck_e201
  | 202 => ck_e202
  | 203 => ck_e203
  | 204 => ck_e204
  | 205 => ck_e205
  | n + 206 => rfl
theorem en_cd : ∀ mi, ck_m (pg_tb mi) (dk_bl (pg_by mi)) = true
  | 0 => ck_c0
  | 1 => ck_c1
  | 2 => ck_c2
  | 3 => ck_c3
  | 4 => ck_c4
  | 5 => ck_c5
  | 6 => ck_c6
  | 7 => ck_c7
  | 8 => ck_c8
  | 9 => ck_c9
  | 10 => ck_c10
  | 11 => ck_c11
  | 12 => ck_c12
  | 13 => ck_c13
  | 14 => ck_c14
  | 15 => ck_c15
  | 16 => ck_c16
  | 17 => ck_c17
  | 18 => ck_c18
  | 19 => ck_c19
  | 20 => ck_c20
  | 21 => ck_c21
  | 22 => ck_c22
  | 23 => ck_c23
  | 24 => ck_c24
  | 25 => ck_c25
  | 26 => ck_c26
  | 27 => ck_c27
  | 28 => ck_c28
  | 29 => ck_c29
  | 30 => ck_c30
  | 31 => ck_c31
  | 32 => ck_c32
  | 33 => ck_c33
  | 34 => ck_c34
  | 35 => ck_c35
  | 36 => ck_c36
  | 37 => ck_c37
  | 38 => ck_c38
  | 39 => ck_c39
  | 40 => ck_c40
  | 41 => ck_c41
  | 42 => ck_c42
  | 43 => ck_c43
  | 44 => ck_c44
  | 45 => ck_c45
  | 46 => ck_c46
  | 47 => ck_c47
  | 48 => ck_c48
  | 49 => ck_c49
  | 50 => ck_c50
  | 51 => ck_c51
  | 52 => ck_c52
  | 53 => ck_c53
  | 54 => ck_c54
  | 55 => ck_c55
  | 56 => ck_c56
  | 57 => ck_c57
  | 58 => ck_c58
  | 59 => ck_c59
  | 60 => ck_c60
  | 61 => ck_c61
  | 62 => ck_c62
  | 63 => ck_c63
  | 64 => ck_c64
  | 65 => ck_c65
  | 66 => ck_c66
  | 67 => ck_c67
  | 68 => ck_c68
  | 69 => ck_c69
  | 70 => ck_c70
  | 71 => ck_c71
  | 72 => ck_c72
  | 73 => ck_c73
  | 74 => ck_c74
  | 75 => ck_c75
  | 76 => ck_c76
  | 77 => ck_c77
  | 78 => ck_c78
  | 79 => ck_c79
  | 80 => ck_c80
  | 81 => ck_c81
  | 82 => ck_c82
  | 83 => ck_c83
  | 84 => ck_c84
  | 85 => ck_c85
  | 86 => ck_c86
  | 87 => ck_c87
  | 88 => ck_c88
  | 89 => ck_c89
  | 90 => ck_c90
  | 91 => ck_c91
  | 92 => ck_c92
  | 93 => ck_c93
  | 94 => ck_c94
  | 95 => ck_c95
  | 96 => ck_c96
  | 97 => ck_c97
  | 98 => ck_c98
  | 99 => ck_c99
  | 100 => ck_c100
  | 101 => ck_c101
  | 102 => ck_c102
  | 103 => ck_c103
  | 104 => ck_c104
  | 105 => ck_c105
  | 106 => ck_c106
  | 107 => ck_c107
  | 108 => ck_c108
  | 109 => ck_c109
  | 110 => ck_c110
  | 111 => ck_c111
  | 112 => ck_c112
  | 113 => ck_c113
  | 114 => ck_c114
  | 115 => ck_c115
  | 116 => ck_c116
  | 117 => ck_c117
  | 118 => ck_c118
  | 119 => ck_c119
  | 120 => ck_c120
  | 121 => ck_c121
  | 122 => ck_c122
  | 123 => ck_c123
  | 124 => ck_c124
  | 125 => ck_c125
  | 126 => ck_c126
  | 127 => ck_c127
  | 128 => ck_c128
  | 129 => ck_c129
  | 130 => ck_c130
  | 131 => ck_c131
  | 132 => ck_c132
  | 133 => ck_c133
  | 134 => ck_c134
  | 135 => ck_c135
  | 136 => ck_c136
  | 137 => ck_c137
  | 138 => ck_c138
  | 139 => ck_c139
  | 140 => ck_c140
  | 141 => ck_c141
  | 142 => ck_c142
  | 143 => ck_c143
  | 144 => ck_c144
  | 145 => ck_c145
  | 146 => ck_c146
  | 147 => ck_c147
  | 148 => ck_c148
  | 149 => ck_c149
  | 150 => ck_c150
  | 151 => ck_c151
  | 152 => ck_c152
  | 153 => ck_c153
  | 154 => ck_c154
  | 155 => ck_c155
  | 156 => ck_c156
  | 157 => ck_c157
  | 158 => ck_c158
  | 159 => ck_c159
  | 160 => ck_c160
  | 161 => ck_c161
  | 162 => ck_c162
  | 163 => ck_c163
  | 164 => ck_c164
  | 165 => ck_c165
  | 166 => ck_c166
  | 167 => ck_c167
  | 168 => ck_c168
  | 169 => ck_c169
  | 170 => ck_c170
  | 171 => ck_c171
  | 172 => ck_c172
  | 173 => ck_c173
  | 174 => ck_c174
  | 175 => ck_c175
  | 176 => ck_c176
  | 177 => ck_c177
  | 178 => ck_c178
  | 179 => ck_c179
  | 180 => ck_c180
  | 181 => ck_c181
  | 182 => ck_c182
  | 183 => ck_c183
  | 184 => ck_c184
  | 185 => ck_c185
  | 186 => ck_c186
  | 187 => ck_c187
  | 188 => ck_c188
  | 189 => ck_c189
  | 190 => ck_c190
  | 191 => ck_c191
  | 192 => ck_c192
  | 193 => ck_c193
  | 194 => ck_c194
  | 195 => ck_c195
  | 196 => ck_c196
  | 197 => ck_c197
  | 198 => ck_c198
  | 199 => ck_c199
  | 200 => ck_c200
  | 201 => ck_c201
  | 202 => ck_c202
  | 203 => ck_c203
  | 204 => ck_c204
  | 205 => ck_c205
  | n + 206 => rfl
theorem en_cs : ∀ mi, (pg_tb mi).all (ck_s mi) = true
  | 0 => ck_w0
  | 1 => ck_w1
  | 2 => ck_w2
  | 3 => ck_w3
  | 4 => ck_w4
  | 5 => ck_w5
  | 6 => ck_w6
  | 7 => ck_w7
  | 8 => ck_w8
  | 9 => ck_w9
  | 10 => ck_w10
  | 11 => ck_w11
  | 12 => ck_w12
  | 13 => ck_w13
  | 14 => ck_w14
  | 15 => ck_w15
  | 16 => ck_w16
  | 17 => ck_w17
  | 18 => ck_w18
  | 19 => ck_w19
  | 20 => ck_w20
  | 21 => ck_w21
  | 22 => ck_w22
  | 23 => ck_w23
  | 24 => ck_w24
  | 25 => ck_w25
  | 26 => ck_w26
  | 27 => ck_w27
  | 28 => ck_w28
  | 29 => ck_w29
  | 30 => ck_w30
  | 31 => ck_w31
  | 32 => ck_w32
  | 33 => ck_w33
  | 34 => ck_w34
  | 35 => ck_w35
  | 36 => ck_w36
  | 37 => ck_w37
  | 38 => ck_w38
  | 39 => ck_w39
  | 40 => ck_w40
  | 41 => ck_w41
  | 42 => ck_w42
  | 43 => ck_w43
  | 44 => ck_w44
  | 45 => ck_w45
  | 46 => ck_w46
  | 47 => ck_w47
  | 48 => ck_w48
  | 49 => ck_w49
  | 50 => ck_w50
  | 51 => ck_w51
  | 52 => ck_w52
  | 53 => ck_w53
  | 54 => ck_w54
  | 55 => ck_w55
  | 56 => ck_w56
  | 57 => ck_w57
  | 58 => ck_w58
  | 59 => ck_w59
  | 60 => ck_w60
  | 61 => ck_w61
  | 62 => ck_w62
  | 63 => ck_w63
  | 64 => ck_w64
  | 65 => ck_w65
  | 66 => ck_w66
  | 67 => ck_w67
  | 68 => ck_w68
  | 69 => ck_w69
  | 70 => ck_w70
  | 71 => ck_w71
  | 72 => ck_w72
  | 73 => ck_w73
  | 74 => ck_w74
  | 75 => ck_w75
  | 76 => ck_w76
  | 77 => ck_w77
  | 78 => ck_w78
  | 79 => ck_w79
  | 80 => ck_w80
  | 81 => ck_w81
  | 82 => ck_w82
  | 83 => ck_w83
  | 84 => ck_w84
  | 85 => ck_w85
  | 86 => ck_w86
  | 87 => ck_w87
  | 88 => ck_w88
  | 89 => ck_w89
  | 90 => ck_w90
  | 91 => ck_w91
  | 92 => ck_w92
  | 93 => ck_w93
  | 94 => ck_w94
  | 95 => ck_w95
  | 96 => ck_w96
  | 97 => ck_w97
  | 98 => ck_w98
  | 99 => ck_w99
  | 100 => ck_w100
  | 101 => ck_w101
  | 102 => ck_w102
  | 103 => ck_w103
  | 104 => ck_w104
  | 105 => ck_w105
  | 106 => ck_w106
  | 107 => ck_w107
  | 108 => ck_w108
  | 109 => ck_w109
  | 110 => ck_w110
  | 111 => ck_w111
  | 112 => ck_w112
  | 113 => ck_w113
  | 114 => ck_w114
  | 115 => ck_w115
  | 116 => ck_w116
  | 117 => ck_w117
  | 118 => ck_w118
  | 119 => ck_w119
  | 120 => ck_w120
  | 121 => ck_w121
  | 122 => ck_w122
  | 123 => ck_w123
  | 124 => ck_w124
  | 125 => ck_w125
  | 126 => ck_w126
  | 127 => ck_w127
  | 128 => ck_w128
  | 129 => ck_w129
  | 130 => ck_w130
  | 131 => ck_w131
  | 132 => ck_w132
  | 133 => ck_w133
  | 134 => ck_w134
  | 135 => ck_w135
  | 136 => ck_w136
  | 137 => ck_w137
  | 138 => ck_w138
  | 139 => ck_w139
  | 140 => ck_w140
  | 141 => ck_w141
  | 142 => ck_w142
  | 143 => ck_w143
  | 144 => ck_w144
  | 145 => ck_w145
  | 146 => ck_w146
  | 147 => ck_w147
  | 148 => ck_w148
  | 149 => ck_w149
  | 150 => ck_w150
  | 151 => ck_w151
  | 152 => ck_w152
  | 153 => ck_w153
  | 154 => ck_w154
  | 155 => ck_w155
  | 156 => ck_w156
  | 157 => ck_w157
  | 158 => ck_w158
  | 159 => ck_w159
  | 160 => ck_w160
  | 161 => ck_w161
  | 162 => ck_w162
  | 163 => ck_w163
  | 164 => ck_w164
  | 165 => ck_w165
  | 166 => ck_w166
  | 167 => ck_w167
  | 168 => ck_w168
  | 169 => ck_w169
  | 170 => ck_w170
  | 171 => ck_w171
  | 172 => ck_w172
  | 173 => ck_w173
  | 174 => ck_w174
  | 175 => ck_w175
  | 176 => ck_w176
  | 177 => ck_w177
  | 178 => ck_w178
  | 179 => ck_w179
  | 180 => ck_w180
  | 181 => ck_w181
  | 182 => ck_w182
  | 183 => ck_w183
  | 184 => ck_w184
  | 185 => ck_w185
  | 186 => ck_w186
  | 187 => ck_w187
  | 188 => ck_w188
  | 189 => ck_w189
  | 190 => ck_w190
  | 191 => ck_w191
  | 192 => ck_w192
  | 193 => ck_w193
  | 194 => ck_w194
  | 195 => ck_w195
  | 196 => ck_w196
  | 197 => ck_w197
  | 198 => ck_w198
  | 199 => ck_w199
  | 200 => ck_w200
  | 201 => ck_w201
  | 202 => ck_w202
  | 203 => ck_w203
  | 204 => ck_w204
  | 205 => ck_w205
  | n + 206 => rfl
theorem en_h0 : pg_all.all (fun t => match t with
  | e :: _ => Nat.beq e.1 0
  | [] => true) = true := by decide +kernel
theorem en_hd {mi : Nat} {e : mc_E} {r : List mc_E} (h : pg_tb mi = e :: r) : e.1 = 0 := by
  rcases mc_nth_mem pg_all mi [] with h1 | h1
  · have h2 := List.all_eq_true.mp en_h0 _ h1
    have h3 : mc_nth pg_all mi [] = e :: r := h
    rw [h3] at h2
    exact Nat.eq_of_beq_eq_true h2
  · have h3 : mc_nth pg_all mi [] = e :: r := h
    rw [h1] at h3
    cases h3
theorem en_n {mi : Nat} {e : mc_E} (h : e ∈ pg_tb mi) : ck_n mi e = true := by
  have h1 := en_ck mi
  rw [Bool.and_eq_true] at h1
  exact List.all_eq_true.mp h1.1 e h
theorem en_dec {mi : Nat} {e : mc_E} (h : e ∈ pg_tb mi) : decode (pg_by mi) e.1 = .ok (e.2.1, e.2.2.1) := by
  have key : ck_sw e.2.1 = true ∨ decode (pg_by mi) e.1 = .ok (e.2.1, e.2.2.1) := by
    cases ht : pg_tb mi with
    | nil => rw [ht] at h; cases h
    | cons f r =>
      have h0 := en_hd ht
      have h1 := en_cd mi
      have h2 := mc_adjs mi
      rw [ht] at h h1 h2
      exact ck_m_ok r f h2 (by rw [h0]; exact h1) e h
  rcases key with h1 | h1
  · have h2 := List.all_eq_true.mp (en_cs mi) e h
    unfold ck_s at h2
    rw [h1] at h2
    have h3 : ck_dec (pg_by mi) e = true := h2
    unfold ck_dec at h3
    split at h3
    · rename_i i n hd
      rw [Bool.and_eq_true] at h3
      rw [hd, of_decide_eq_true h3.1, Nat.eq_of_beq_eq_true h3.2]
    · cases h3
  · exact h1
theorem ck_th_suffix {mi : Nat} : ∀ (pre l : List mc_E), ck_th mi (pre ++ l) = true → ck_th mi l = true
  | [], _, h => h
  | (pc, ins, n, x, y, z) :: pre, l, h => by
    refine ck_th_suffix pre l ?_
    rw [List.cons_append] at h
    unfold ck_th at h
    split at h
    · rename_i hq
      injection hq with _ hq2
      rw [Bool.and_eq_true] at h
      rw [hq2]
      exact h.2
    · rename_i hq
      injection hq with _ hq2
      rw [hq2]
      exact h
    · rename_i hq
      cases hq
theorem en_th {mi pc : Nat} {e : mc_E} {r : List mc_E} (h : mc_from mi pc = e :: r) : e ∈ pg_tb mi ∧ e.1 = pc ∧ ck_th mi (e :: r) = true ∧ ∀ x ∈ r, x ∈ pg_tb mi := by
  obtain ⟨h1, pre, h2⟩ := mc_from_split h
  have h3 := en_ck mi
  rw [Bool.and_eq_true, h2] at h3
  refine ⟨by rw [h2]; simp, h1, ck_th_suffix pre _ h3.2, fun x hx => by rw [h2]; simp [hx]⟩
