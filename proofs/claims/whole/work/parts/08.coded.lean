def ck_sw : Instr → Bool
  | .tableswitch _ _ _ _ => true
  | _ => false
def ck_m : List mc_E → List Nat → Bool
  | [], _ => true
  | e :: r, l => (ck_sw e.2.1 || (Nat.beq (ck_b e.2.1 l) e.2.2.1 && Nat.ble 1 e.2.2.1)) && ck_m r (l.drop e.2.2.1)
theorem ck_m_ok {code : ByteArray} : ∀ (r : List mc_E) (e : mc_E), mc_adj (e :: r) = true → ck_m (e :: r) ((dk_bl code).drop e.1) = true → ∀ x ∈ e :: r, ck_sw x.2.1 = true ∨ decode code x.1 = .ok (x.2.1, x.2.2.1)
  | r, e, ha, h, x, hx => by
    have h0 : ((ck_sw e.2.1 || (Nat.beq (ck_b e.2.1 ((dk_bl code).drop e.1)) e.2.2.1 && Nat.ble 1 e.2.2.1)) && ck_m r (((dk_bl code).drop e.1).drop e.2.2.1)) = true := h
    rw [Bool.and_eq_true, Bool.or_eq_true, Bool.and_eq_true] at h0
    rcases List.mem_cons.mp hx with rfl | hx
    · rcases h0.1 with h1 | h1
      · exact Or.inl h1
      · have h2 := Nat.eq_of_beq_eq_true h1.1
        have h3 := Nat.le_of_ble_eq_true h1.2
        obtain ⟨n, hn⟩ : ∃ n, x.2.2.1 = n + 1 := ⟨x.2.2.1 - 1, by omega⟩
        rw [hn] at h2 ⊢
        exact Or.inr (ck_ok h2)
    · cases r with
      | nil => cases hx
      | cons f r =>
        have h4 := mc_adj_next [] e f r ha
        have h5 : (Nat.beq (e.1 + e.2.2.1) f.1 && Nat.blt e.1 f.1 && mc_adj (f :: r)) = true := ha
        simp only [Bool.and_eq_true] at h5
        have h6 := h0.2
        rw [List.drop_drop, h4] at h6
        exact ck_m_ok r f h5.2 h6 x hx
theorem ck_c0 : ck_m tb_0 (dk_bl (pg_by 0)) = true := by decide +kernel
theorem ck_c1 : ck_m tb_1 (dk_bl (pg_by 1)) = true := by decide +kernel
theorem ck_c2 : ck_m tb_2 (dk_bl (pg_by 2)) = true := by decide +kernel
theorem ck_c3 : ck_m tb_3 (dk_bl (pg_by 3)) = true := by decide +kernel
theorem ck_c4 : ck_m tb_4 (dk_bl (pg_by 4)) = true := by decide +kernel
theorem ck_c5 : ck_m tb_5 (dk_bl (pg_by 5)) = true := by decide +kernel
theorem ck_c6 : ck_m tb_6 (dk_bl (pg_by 6)) = true := by decide +kernel
theorem ck_c7 : ck_m tb_7 (dk_bl (pg_by 7)) = true := by decide +kernel
theorem ck_c8 : ck_m tb_8 (dk_bl (pg_by 8)) = true := by decide +kernel
theorem ck_c9 : ck_m tb_9 (dk_bl (pg_by 9)) = true := by decide +kernel
theorem ck_c10 : ck_m tb_10 (dk_bl (pg_by 10)) = true := by decide +kernel
theorem ck_c11 : ck_m tb_11 (dk_bl (pg_by 11)) = true := by decide +kernel
theorem ck_c12 : ck_m tb_12 (dk_bl (pg_by 12)) = true := by decide +kernel
theorem ck_c13 : ck_m tb_13 (dk_bl (pg_by 13)) = true := by decide +kernel
theorem ck_c14 : ck_m tb_14 (dk_bl (pg_by 14)) = true := by decide +kernel
theorem ck_c15 : ck_m tb_15 (dk_bl (pg_by 15)) = true := by decide +kernel
theorem ck_c16 : ck_m tb_16 (dk_bl (pg_by 16)) = true := by decide +kernel
theorem ck_c17 : ck_m tb_17 (dk_bl (pg_by 17)) = true := by decide +kernel
theorem ck_c18 : ck_m tb_18 (dk_bl (pg_by 18)) = true := by decide +kernel
theorem ck_c19 : ck_m tb_19 (dk_bl (pg_by 19)) = true := by decide +kernel
theorem ck_c20 : ck_m tb_20 (dk_bl (pg_by 20)) = true := by decide +kernel
theorem ck_c21 : ck_m tb_21 (dk_bl (pg_by 21)) = true := by decide +kernel
theorem ck_c22 : ck_m tb_22 (dk_bl (pg_by 22)) = true := by decide +kernel
theorem ck_c23 : ck_m tb_23 (dk_bl (pg_by 23)) = true := by decide +kernel
theorem ck_c24 : ck_m tb_24 (dk_bl (pg_by 24)) = true := by decide +kernel
theorem ck_c25 : ck_m tb_25 (dk_bl (pg_by 25)) = true := by decide +kernel
theorem ck_c26 : ck_m tb_26 (dk_bl (pg_by 26)) = true := by decide +kernel
theorem ck_c27 : ck_m tb_27 (dk_bl (pg_by 27)) = true := by decide +kernel
theorem ck_c28 : ck_m tb_28 (dk_bl (pg_by 28)) = true := by decide +kernel
theorem ck_c29 : ck_m tb_29 (dk_bl (pg_by 29)) = true := by decide +kernel
theorem ck_c30 : ck_m tb_30 (dk_bl (pg_by 30)) = true := by decide +kernel
theorem ck_c31 : ck_m tb_31 (dk_bl (pg_by 31)) = true := by decide +kernel
theorem ck_c32 : ck_m tb_32 (dk_bl (pg_by 32)) = true := by decide +kernel
theorem ck_c33 : ck_m tb_33 (dk_bl (pg_by 33)) = true := by decide +kernel
theorem ck_c34 : ck_m tb_34 (dk_bl (pg_by 34)) = true := by decide +kernel
theorem ck_c35 : ck_m tb_35 (dk_bl (pg_by 35)) = true := by decide +kernel
theorem ck_c36 : ck_m tb_36 (dk_bl (pg_by 36)) = true := by decide +kernel
theorem ck_c37 : ck_m tb_37 (dk_bl (pg_by 37)) = true := by decide +kernel
theorem ck_c38 : ck_m tb_38 (dk_bl (pg_by 38)) = true := by decide +kernel
theorem ck_c39 : ck_m tb_39 (dk_bl (pg_by 39)) = true := by decide +kernel
theorem ck_c40 : ck_m tb_40 (dk_bl (pg_by 40)) = true := by decide +kernel
theorem ck_c41 : ck_m tb_41 (dk_bl (pg_by 41)) = true := by decide +kernel
theorem ck_c42 : ck_m tb_42 (dk_bl (pg_by 42)) = true := by decide +kernel
theorem ck_c43 : ck_m tb_43 (dk_bl (pg_by 43)) = true := by decide +kernel
theorem ck_c44 : ck_m tb_44 (dk_bl (pg_by 44)) = true := by decide +kernel
theorem ck_c45 : ck_m tb_45 (dk_bl (pg_by 45)) = true := by decide +kernel
theorem ck_c46 : ck_m tb_46 (dk_bl (pg_by 46)) = true := by decide +kernel
theorem ck_c47 : ck_m tb_47 (dk_bl (pg_by 47)) = true := by decide +kernel
theorem ck_c48 : ck_m tb_48 (dk_bl (pg_by 48)) = true := by decide +kernel
theorem ck_c49 : ck_m tb_49 (dk_bl (pg_by 49)) = true := by decide +kernel
theorem ck_c50 : ck_m tb_50 (dk_bl (pg_by 50)) = true := by decide +kernel
theorem ck_c51 : ck_m tb_51 (dk_bl (pg_by 51)) = true := by decide +kernel
theorem ck_c52 : ck_m tb_52 (dk_bl (pg_by 52)) = true := by decide +kernel
theorem ck_c53 : ck_m tb_53 (dk_bl (pg_by 53)) = true := by decide +kernel
theorem ck_c54 : ck_m tb_54 (dk_bl (pg_by 54)) = true := by decide +kernel
theorem ck_c55 : ck_m tb_55 (dk_bl (pg_by 55)) = true := by decide +kernel
theorem ck_c56 : ck_m tb_56 (dk_bl (pg_by 56)) = true := by decide +kernel
theorem ck_c57 : ck_m tb_57 (dk_bl (pg_by 57)) = true := by decide +kernel
theorem ck_c58 : ck_m tb_58 (dk_bl (pg_by 58)) = true := by decide +kernel
theorem ck_c59 : ck_m tb_59 (dk_bl (pg_by 59)) = true := by decide +kernel
theorem ck_c60 : ck_m tb_60 (dk_bl (pg_by 60)) = true := by decide +kernel
theorem ck_c61 : ck_m tb_61 (dk_bl (pg_by 61)) = true := by decide +kernel
theorem ck_c62 : ck_m tb_62 (dk_bl (pg_by 62)) = true := by decide +kernel
theorem ck_c63 : ck_m tb_63 (dk_bl (pg_by 63)) = true := by decide +kernel
theorem ck_c64 : ck_m tb_64 (dk_bl (pg_by 64)) = true := by decide +kernel
theorem ck_c65 : ck_m tb_65 (dk_bl (pg_by 65)) = true := by decide +kernel
theorem ck_c66 : ck_m tb_66 (dk_bl (pg_by 66)) = true := by decide +kernel
theorem ck_c67 : ck_m tb_67 (dk_bl (pg_by 67)) = true := by decide +kernel
theorem ck_c68 : ck_m tb_68 (dk_bl (pg_by 68)) = true := by decide +kernel
theorem ck_c69 : ck_m tb_69 (dk_bl (pg_by 69)) = true := by decide +kernel
theorem ck_c70 : ck_m tb_70 (dk_bl (pg_by 70)) = true := by decide +kernel
theorem ck_c71 : ck_m tb_71 (dk_bl (pg_by 71)) = true := by decide +kernel
theorem ck_c72 : ck_m tb_72 (dk_bl (pg_by 72)) = true := by decide +kernel
theorem ck_c73 : ck_m tb_73 (dk_bl (pg_by 73)) = true := by decide +kernel
theorem ck_c74 : ck_m tb_74 (dk_bl (pg_by 74)) = true := by decide +kernel
theorem ck_c75 : ck_m tb_75 (dk_bl (pg_by 75)) = true := by decide +kernel
theorem ck_c76 : ck_m tb_76 (dk_bl (pg_by 76)) = true := by decide +kernel
theorem ck_c77 : ck_m tb_77 (dk_bl (pg_by 77)) = true := by decide +kernel
theorem ck_c78 : ck_m tb_78 (dk_bl (pg_by 78)) = true := by decide +kernel
theorem ck_c79 : ck_m tb_79 (dk_bl (pg_by 79)) = true := by decide +kernel
theorem ck_c80 : ck_m tb_80 (dk_bl (pg_by 80)) = true := by decide +kernel
theorem ck_c81 : ck_m tb_81 (dk_bl (pg_by 81)) = true := by decide +kernel
theorem ck_c82 : ck_m tb_82 (dk_bl (pg_by 82)) = true := by decide +kernel
theorem ck_c83 : ck_m tb_83 (dk_bl (pg_by 83)) = true := by decide +kernel
theorem ck_c84 : ck_m tb_84 (dk_bl (pg_by 84)) = true := by decide +kernel
theorem ck_c85 : ck_m tb_85 (dk_bl (pg_by 85)) = true := by decide +kernel
theorem ck_c86 : ck_m tb_86 (dk_bl (pg_by 86)) = true := by decide +kernel
theorem ck_c87 : ck_m tb_87 (dk_bl (pg_by 87)) = true := by decide +kernel
theorem ck_c88 : ck_m tb_88 (dk_bl (pg_by 88)) = true := by decide +kernel
theorem ck_c89 : ck_m tb_89 (dk_bl (pg_by 89)) = true := by decide +kernel
theorem ck_c90 : ck_m tb_90 (dk_bl (pg_by 90)) = true := by decide +kernel
theorem ck_c91 : ck_m tb_91 (dk_bl (pg_by 91)) = true := by decide +kernel
theorem ck_c92 : ck_m tb_92 (dk_bl (pg_by 92)) = true := by decide +kernel
theorem ck_c93 : ck_m tb_93 (dk_bl (pg_by 93)) = true := by decide +kernel
theorem ck_c94 : ck_m tb_94 (dk_bl (pg_by 94)) = true := by decide +kernel
theorem ck_c95 : ck_m tb_95 (dk_bl (pg_by 95)) = true := by decide +kernel
theorem ck_c96 : ck_m tb_96 (dk_bl (pg_by 96)) = true := by decide +kernel
theorem ck_c97 : ck_m tb_97 (dk_bl (pg_by 97)) = true := by decide +kernel
theorem ck_c98 : ck_m tb_98 (dk_bl (pg_by 98)) = true := by decide +kernel
theorem ck_c99 : ck_m tb_99 (dk_bl (pg_by 99)) = true := by decide +kernel
theorem ck_c100 : ck_m tb_100 (dk_bl (pg_by 100)) = true := by decide +kernel
theorem ck_c101 : ck_m tb_101 (dk_bl (pg_by 101)) = true := by decide +kernel
theorem ck_c102 : ck_m tb_102 (dk_bl (pg_by 102)) = true := by decide +kernel
theorem ck_c103 : ck_m tb_103 (dk_bl (pg_by 103)) = true := by decide +kernel
theorem ck_c104 : ck_m tb_104 (dk_bl (pg_by 104)) = true := by decide +kernel
theorem ck_c105 : ck_m tb_105 (dk_bl (pg_by 105)) = true := by decide +kernel
theorem ck_c106 : ck_m tb_106 (dk_bl (pg_by 106)) = true := by decide +kernel
theorem ck_c107 : ck_m tb_107 (dk_bl (pg_by 107)) = true := by decide +kernel
theorem ck_c108 : ck_m tb_108 (dk_bl (pg_by 108)) = true := by decide +kernel
theorem ck_c109 : ck_m tb_109 (dk_bl (pg_by 109)) = true := by decide +kernel
theorem ck_c110 : ck_m tb_110 (dk_bl (pg_by 110)) = true := by decide +kernel
theorem ck_c111 : ck_m tb_111 (dk_bl (pg_by 111)) = true := by decide +kernel
theorem ck_c112 : ck_m tb_112 (dk_bl (pg_by 112)) = true := by decide +kernel
theorem ck_c113 : ck_m tb_113 (dk_bl (pg_by 113)) = true := by decide +kernel
theorem ck_c114 : ck_m tb_114 (dk_bl (pg_by 114)) = true := by decide +kernel
theorem ck_c115 : ck_m tb_115 (dk_bl (pg_by 115)) = true := by decide +kernel
theorem ck_c116 : ck_m tb_116 (dk_bl (pg_by 116)) = true := by decide +kernel
theorem ck_c117 : ck_m tb_117 (dk_bl (pg_by 117)) = true := by decide +kernel
theorem ck_c118 : ck_m tb_118 (dk_bl (pg_by 118)) = true := by decide +kernel
theorem ck_c119 : ck_m tb_119 (dk_bl (pg_by 119)) = true := by decide +kernel
theorem ck_c120 : ck_m tb_120 (dk_bl (pg_by 120)) = true := by decide +kernel
theorem ck_c121 : ck_m tb_121 (dk_bl (pg_by 121)) = true := by decide +kernel
theorem ck_c122 : ck_m tb_122 (dk_bl (pg_by 122)) = true := by decide +kernel
theorem ck_c123 : ck_m tb_123 (dk_bl (pg_by 123)) = true := by decide +kernel
theorem ck_c124 : ck_m tb_124 (dk_bl (pg_by 124)) = true := by decide +kernel
theorem ck_c125 : ck_m tb_125 (dk_bl (pg_by 125)) = true := by decide +kernel
theorem ck_c126 : ck_m tb_126 (dk_bl (pg_by 126)) = true := by decide +kernel
theorem ck_c127 : ck_m tb_127 (dk_bl (pg_by 127)) = true := by decide +kernel
theorem ck_c128 : ck_m tb_128 (dk_bl (pg_by 128)) = true := by decide +kernel
theorem ck_c129 : ck_m tb_129 (dk_bl (pg_by 129)) = true := by decide +kernel
theorem ck_c130 : ck_m tb_130 (dk_bl (pg_by 130)) = true := by decide +kernel
theorem ck_c131 : ck_m tb_131 (dk_bl (pg_by 131)) = true := by decide +kernel
theorem ck_c132 : ck_m tb_132 (dk_bl (pg_by 132)) = true := by decide +kernel
theorem ck_c133 : ck_m tb_133 (dk_bl (pg_by 133)) = true := by decide +kernel
theorem ck_c134 : ck_m tb_134 (dk_bl (pg_by 134)) = true := by decide +kernel
theorem ck_c135 : ck_m tb_135 (dk_bl (pg_by 135)) = true := by decide +kernel
theorem ck_c136 : ck_m tb_136 (dk_bl (pg_by 136)) = true := by decide +kernel
theorem ck_c137 : ck_m tb_137 (dk_bl (pg_by 137)) = true := by decide +kernel
theorem ck_c138 : ck_m tb_138 (dk_bl (pg_by 138)) = true := by decide +kernel
theorem ck_c139 : ck_m tb_139 (dk_bl (pg_by 139)) = true := by decide +kernel
theorem ck_c140 : ck_m tb_140 (dk_bl (pg_by 140)) = true := by decide +kernel
theorem ck_c141 : ck_m tb_141 (dk_bl (pg_by 141)) = true := by decide +kernel
theorem ck_c142 : ck_m tb_142 (dk_bl (pg_by 142)) = true := by decide +kernel
theorem ck_c143 : ck_m tb_143 (dk_bl (pg_by 143)) = true := by decide +kernel
theorem ck_c144 : ck_m tb_144 (dk_bl (pg_by 144)) = true := by decide +kernel
theorem ck_c145 : ck_m tb_145 (dk_bl (pg_by 145)) = true := by decide +kernel
theorem ck_c146 : ck_m tb_146 (dk_bl (pg_by 146)) = true := by decide +kernel
theorem ck_c147 : ck_m tb_147 (dk_bl (pg_by 147)) = true := by decide +kernel
theorem ck_c148 : ck_m tb_148 (dk_bl (pg_by 148)) = true := by decide +kernel
theorem ck_c149 : ck_m tb_149 (dk_bl (pg_by 149)) = true := by decide +kernel
theorem ck_c150 : ck_m tb_150 (dk_bl (pg_by 150)) = true := by decide +kernel
theorem ck_c151 : ck_m tb_151 (dk_bl (pg_by 151)) = true := by decide +kernel
theorem ck_c152 : ck_m tb_152 (dk_bl (pg_by 152)) = true := by decide +kernel
theorem ck_c153 : ck_m tb_153 (dk_bl (pg_by 153)) = true := by decide +kernel
theorem ck_c154 : ck_m tb_154 (dk_bl (pg_by 154)) = true := by decide +kernel
theorem ck_c155 : ck_m tb_155 (dk_bl (pg_by 155)) = true := by decide +kernel
theorem ck_c156 : ck_m tb_156 (dk_bl (pg_by 156)) = true := by decide +kernel
theorem ck_c157 : ck_m tb_157 (dk_bl (pg_by 157)) = true := by decide +kernel
theorem ck_c158 : ck_m tb_158 (dk_bl (pg_by 158)) = true := by decide +kernel
theorem ck_c159 : ck_m tb_159 (dk_bl (pg_by 159)) = true := by decide +kernel
theorem ck_c160 : ck_m tb_160 (dk_bl (pg_by 160)) = true := by decide +kernel
theorem ck_c161 : ck_m tb_161 (dk_bl (pg_by 161)) = true := by decide +kernel
theorem ck_c162 : ck_m tb_162 (dk_bl (pg_by 162)) = true := by decide +kernel
theorem ck_c163 : ck_m tb_163 (dk_bl (pg_by 163)) = true := by decide +kernel
theorem ck_c164 : ck_m tb_164 (dk_bl (pg_by 164)) = true := by decide +kernel
theorem ck_c165 : ck_m tb_165 (dk_bl (pg_by 165)) = true := by decide +kernel
theorem ck_c166 : ck_m tb_166 (dk_bl (pg_by 166)) = true := by decide +kernel
theorem ck_c167 : ck_m tb_167 (dk_bl (pg_by 167)) = true := by decide +kernel
theorem ck_c168 : ck_m tb_168 (dk_bl (pg_by 168)) = true := by decide +kernel
theorem ck_c169 : ck_m tb_169 (dk_bl (pg_by 169)) = true := by decide +kernel
theorem ck_c170 : ck_m tb_170 (dk_bl (pg_by 170)) = true := by decide +kernel
theorem ck_c171 : ck_m tb_171 (dk_bl (pg_by 171)) = true := by decide +kernel
theorem ck_c172 : ck_m tb_172 (dk_bl (pg_by 172)) = true := by decide +kernel
theorem ck_c173 : ck_m tb_173 (dk_bl (pg_by 173)) = true := by decide +kernel
theorem ck_c174 : ck_m tb_174 (dk_bl (pg_by 174)) = true := by decide +kernel
theorem ck_c175 : ck_m tb_175 (dk_bl (pg_by 175)) = true := by decide +kernel
theorem ck_c176 : ck_m tb_176 (dk_bl (pg_by 176)) = true := by decide +kernel
theorem ck_c177 : ck_m tb_177 (dk_bl (pg_by 177)) = true := by decide +kernel
theorem ck_c178 : ck_m tb_178 (dk_bl (pg_by 178)) = true := by decide +kernel
theorem ck_c179 : ck_m tb_179 (dk_bl (pg_by 179)) = true := by decide +kernel
theorem ck_c180 : ck_m tb_180 (dk_bl (pg_by 180)) = true := by decide +kernel
theorem ck_c181 : ck_m tb_181 (dk_bl (pg_by 181)) = true := by decide +kernel
theorem ck_c182 : ck_m tb_182 (dk_bl (pg_by 182)) = true := by decide +kernel
theorem ck_c183 : ck_m tb_183 (dk_bl (pg_by 183)) = true := by decide +kernel
theorem ck_c184 : ck_m tb_184 (dk_bl (pg_by 184)) = true := by decide +kernel
theorem ck_c185 : ck_m tb_185 (dk_bl (pg_by 185)) = true := by decide +kernel
theorem ck_c186 : ck_m tb_186 (dk_bl (pg_by 186)) = true := by decide +kernel
theorem ck_c187 : ck_m tb_187 (dk_bl (pg_by 187)) = true := by decide +kernel
theorem ck_c188 : ck_m tb_188 (dk_bl (pg_by 188)) = true := by decide +kernel
theorem ck_c189 : ck_m tb_189 (dk_bl (pg_by 189)) = true := by decide +kernel
theorem ck_c190 : ck_m tb_190 (dk_bl (pg_by 190)) = true := by decide +kernel
theorem ck_c191 : ck_m tb_191 (dk_bl (pg_by 191)) = true := by decide +kernel
theorem ck_c192 : ck_m tb_192 (dk_bl (pg_by 192)) = true := by decide +kernel
theorem ck_c193 : ck_m tb_193 (dk_bl (pg_by 193)) = true := by decide +kernel
theorem ck_c194 : ck_m tb_194 (dk_bl (pg_by 194)) = true := by decide +kernel
theorem ck_c195 : ck_m tb_195 (dk_bl (pg_by 195)) = true := by decide +kernel
theorem ck_c196 : ck_m tb_196 (dk_bl (pg_by 196)) = true := by decide +kernel
theorem ck_c197 : ck_m tb_197 (dk_bl (pg_by 197)) = true := by decide +kernel
theorem ck_c198 : ck_m tb_198 (dk_bl (pg_by 198)) = true := by decide +kernel
theorem ck_c199 : ck_m tb_199 (dk_bl (pg_by 199)) = true := by decide +kernel
theorem ck_c200 : ck_m tb_200 (dk_bl (pg_by 200)) = true := by decide +kernel
theorem ck_c201 : ck_m tb_201 (dk_bl (pg_by 201)) = true := by decide +kernel
theorem ck_c202 : ck_m tb_202 (dk_bl (pg_by 202)) = true := by decide +kernel
theorem ck_c203 : ck_m tb_203 (dk_bl (pg_by 203)) = true := by decide +kernel
theorem ck_c204 : ck_m tb_204 (dk_bl (pg_by 204)) = true := by decide +kernel
theorem ck_c205 : ck_m tb_205 (dk_bl (pg_by 205)) = true := by decide +kernel
