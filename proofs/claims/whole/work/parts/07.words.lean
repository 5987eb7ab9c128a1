set_option maxRecDepth 100000 in
theorem tw_2 : Cond.initialized RX6 ∈ GW := tb_s1 2 rfl rfl
set_option maxRecDepth 100000 in
theorem tw_3 : Cond.initialized RX4 ∈ GW := tb_s1 3 rfl rfl
set_option maxRecDepth 100000 in
theorem tw_4 : Cond.initialized RX0 ∈ GW := tb_s1 4 rfl rfl
set_option maxRecDepth 100000 in
theorem tw_5 : Cond.initialized RX8 ∈ GW := tb_s1 5 rfl rfl
set_option maxRecDepth 100000 in
theorem tw_6 : Cond.initialized RX2 ∈ GW := tb_s1 6 rfl rfl
set_option maxRecDepth 100000 in
theorem tw_7 : Cond.initialized RX5 ∈ GW := tb_s1 7 rfl rfl
set_option maxRecDepth 100000 in
theorem tw_8 : Cond.initialized RX7 ∈ GW := tb_s1 8 rfl rfl
set_option maxRecDepth 100000 in
theorem tw_9 : Cond.initialized RX3 ∈ GW := tb_s1 9 rfl rfl
set_option maxRecDepth 100000 in
theorem tw_10 : Cond.initialized RX1 ∈ GW := tb_s1 10 rfl rfl
set_option maxRecDepth 100000 in
theorem tw_29 : Cond.methodLink RX9 3 objectInit ∈ GW := tb_s1 29 rfl rfl
set_option maxRecDepth 100000 in
theorem tw_30 : Cond.instanceMethod objectInit ∈ GW := tb_s1 30 rfl rfl
set_option maxRecDepth 100000 in
theorem tw_31 : Cond.code objectInit ⟨#[0xb1]⟩ 1 none ∈ GW := tb_s1 31 rfl rfl
set_option maxRecDepth 100000 in
theorem tw_32 : Cond.classLink RX9 9 RX6 ∈ GW := tb_s1 32 rfl rfl
set_option maxRecDepth 100000 in
theorem tw_33 : Cond.instantiable RX6 2 ∈ GW := tb_s1 33 rfl rfl
set_option maxRecDepth 100000 in
theorem tw_35 : Cond.instanceMethod yX6_init ∈ GW := tb_s1 35 rfl rfl
set_option maxRecDepth 100000 in
theorem tw_36 : Cond.code yX6_init cX6_init 1 none ∈ GW := tb_s1 36 rfl rfl
set_option maxRecDepth 100000 in
theorem tw_37 : Cond.methodLink RX6 3 objectInit ∈ GW := tb_s1 37 rfl rfl
set_option maxRecDepth 100000 in
theorem tw_38 : Cond.fieldLink RX6 11 RX6 (TX6 0).2.1 (TX6 0).2.2.1 ∈ GW := tb_s1 38 rfl rfl
set_option maxRecDepth 100000 in
theorem tw_39 : Cond.fieldLink RX9 82 RX6 (TX6 1).2.1 (TX6 1).2.2.1 ∈ GW := tb_s1 39 rfl rfl
set_option maxRecDepth 100000 in
theorem tw_40 : Cond.fieldLink RX6 15 RX6 (TX6 1).2.1 (TX6 1).2.2.1 ∈ GW := tb_s1 40 rfl rfl
set_option maxRecDepth 100000 in
theorem tw_46 : Cond.arrayClass .int ∈ GW := tb_s1 46 rfl rfl
set_option maxRecDepth 100000 in
theorem tw_47 : Cond.classLink RX9 16 RX4 ∈ GW := tb_s1 47 rfl rfl
set_option maxRecDepth 100000 in
theorem tw_48 : Cond.instantiable RX4 9 ∈ GW := tb_s1 48 rfl rfl
set_option maxRecDepth 100000 in
theorem tw_49 : Cond.methodLink RX9 18 yX4_init ∈ GW := tb_s1 49 rfl rfl
set_option maxRecDepth 100000 in
theorem tw_50 : Cond.instanceMethod yX4_init ∈ GW := tb_s1 50 rfl rfl
set_option maxRecDepth 100000 in
theorem tw_51 : Cond.code yX4_init cX4_init 2 none ∈ GW := tb_s1 51 rfl rfl
set_option maxRecDepth 100000 in
theorem tw_52 : Cond.methodLink RX4 3 objectInit ∈ GW := tb_s1 52 rfl rfl
set_option maxRecDepth 100000 in
theorem tw_53 : Cond.fieldLink RX4 22 RX4 (TX4 0).2.1 (TX4 0).2.2.1 ∈ GW := tb_s1 53 rfl rfl
set_option maxRecDepth 100000 in
theorem tw_54 : Cond.fieldLink RX4 11 RX4 (TX4 1).2.1 (TX4 1).2.2.1 ∈ GW := tb_s1 54 rfl rfl
set_option maxRecDepth 100000 in
theorem tw_55 : Cond.fieldLink RX4 15 RX4 (TX4 2).2.1 (TX4 2).2.2.1 ∈ GW := tb_s1 55 rfl rfl
set_option maxRecDepth 100000 in
theorem tw_56 : Cond.fieldLink RX4 26 RX4 (TX4 3).2.1 (TX4 3).2.2.1 ∈ GW := tb_s1 56 rfl rfl
set_option maxRecDepth 100000 in
theorem tw_57 : Cond.fieldLink RX4 29 RX4 (TX4 4).2.1 (TX4 4).2.2.1 ∈ GW := tb_s1 57 rfl rfl
set_option maxRecDepth 100000 in
theorem tw_58 : Cond.fieldLink RX4 32 RX4 (TX4 5).2.1 (TX4 5).2.2.1 ∈ GW := tb_s1 58 rfl rfl
set_option maxRecDepth 100000 in
theorem tw_59 : Cond.fieldLink RX9 98 RX4 (TX4 5).2.1 (TX4 5).2.2.1 ∈ GW := tb_s1 59 rfl rfl
set_option maxRecDepth 100000 in
theorem tw_60 : Cond.fieldLink RX4 35 RX4 (TX4 6).2.1 (TX4 6).2.2.1 ∈ GW := tb_s1 60 rfl rfl
set_option maxRecDepth 100000 in
theorem tw_61 : Cond.fieldLink RX9 101 RX4 (TX4 6).2.1 (TX4 6).2.2.1 ∈ GW := tb_s1 61 rfl rfl
set_option maxRecDepth 100000 in
theorem tw_62 : Cond.fieldLink RX4 38 RX4 (TX4 7).2.1 (TX4 7).2.2.1 ∈ GW := tb_s1 62 rfl rfl
set_option maxRecDepth 100000 in
theorem tw_63 : Cond.fieldLink RX9 92 RX4 (TX4 7).2.1 (TX4 7).2.2.1 ∈ GW := tb_s1 63 rfl rfl
set_option maxRecDepth 100000 in
theorem tw_64 : Cond.fieldLink RX4 18 RX4 (TX4 8).2.1 (TX4 8).2.2.1 ∈ GW := tb_s1 64 rfl rfl
set_option maxRecDepth 100000 in
theorem tw_65 : Cond.fieldLink RX9 103 RX4 (TX4 8).2.1 (TX4 8).2.2.1 ∈ GW := tb_s1 65 rfl rfl
set_option maxRecDepth 100000 in
theorem tw_85 : Cond.classLink RX9 25 RX0 ∈ GW := tb_s1 85 rfl rfl
set_option maxRecDepth 100000 in
theorem tw_86 : Cond.instantiable RX0 6 ∈ GW := tb_s1 86 rfl rfl
set_option maxRecDepth 100000 in
theorem tw_88 : Cond.instanceMethod yX0_init ∈ GW := tb_s1 88 rfl rfl
set_option maxRecDepth 100000 in
theorem tw_89 : Cond.code yX0_init cX0_init 1 none ∈ GW := tb_s1 89 rfl rfl
set_option maxRecDepth 100000 in
theorem tw_90 : Cond.methodLink RX0 3 objectInit ∈ GW := tb_s1 90 rfl rfl
set_option maxRecDepth 100000 in
theorem tw_91 : Cond.fieldLink RX0 9 RX0 (TX0 0).2.1 (TX0 0).2.2.1 ∈ GW := tb_s1 91 rfl rfl
set_option maxRecDepth 100000 in
theorem tw_93 : Cond.fieldLink RX0 15 RX0 (TX0 1).2.1 (TX0 1).2.2.1 ∈ GW := tb_s1 93 rfl rfl
set_option maxRecDepth 100000 in
theorem tw_95 : Cond.fieldLink RX0 18 RX0 (TX0 2).2.1 (TX0 2).2.2.1 ∈ GW := tb_s1 95 rfl rfl
set_option maxRecDepth 100000 in
theorem tw_96 : Cond.fieldLink RX0 21 RX0 (TX0 3).2.1 (TX0 3).2.2.1 ∈ GW := tb_s1 96 rfl rfl
set_option maxRecDepth 100000 in
theorem tw_97 : Cond.fieldLink RX0 24 RX0 (TX0 4).2.1 (TX0 4).2.2.1 ∈ GW := tb_s1 97 rfl rfl
set_option maxRecDepth 100000 in
theorem tw_98 : Cond.fieldLink RX0 27 RX0 (TX0 5).2.1 (TX0 5).2.2.1 ∈ GW := tb_s1 98 rfl rfl
set_option maxRecDepth 100000 in
theorem tw_99 : Cond.fieldLink RX9 400 RX0 (TX0 5).2.1 (TX0 5).2.2.1 ∈ GW := tb_s1 99 rfl rfl
set_option maxRecDepth 100000 in
theorem tw_113 : Cond.classLink RX9 32 RX8 ∈ GW := tb_s1 113 rfl rfl
set_option maxRecDepth 100000 in
theorem tw_115 : Cond.instantiable RX8 9 ∈ GW := tb_s1 115 rfl rfl
set_option maxRecDepth 100000 in
theorem tw_116 : Cond.methodLink RX9 38 yX8_init ∈ GW := tb_s1 116 rfl rfl
set_option maxRecDepth 100000 in
theorem tw_117 : Cond.instanceMethod yX8_init ∈ GW := tb_s1 117 rfl rfl
set_option maxRecDepth 100000 in
theorem tw_118 : Cond.code yX8_init cX8_init 2 none ∈ GW := tb_s1 118 rfl rfl
set_option maxRecDepth 100000 in
theorem tw_119 : Cond.methodLink RX8 3 objectInit ∈ GW := tb_s1 119 rfl rfl
set_option maxRecDepth 100000 in
theorem tw_120 : Cond.classLink RX8 15 RX2 ∈ GW := tb_s1 120 rfl rfl
set_option maxRecDepth 100000 in
theorem tw_121 : Cond.instantiable RX2 6 ∈ GW := tb_s1 121 rfl rfl
set_option maxRecDepth 100000 in
theorem tw_122 : Cond.methodLink RX8 17 yX2_init ∈ GW := tb_s1 122 rfl rfl
set_option maxRecDepth 100000 in
theorem tw_123 : Cond.instanceMethod yX2_init ∈ GW := tb_s1 123 rfl rfl
set_option maxRecDepth 100000 in
theorem tw_124 : Cond.code yX2_init cX2_init 2 none ∈ GW := tb_s1 124 rfl rfl
set_option maxRecDepth 100000 in
theorem tw_125 : Cond.methodLink RX2 3 objectInit ∈ GW := tb_s1 125 rfl rfl
set_option maxRecDepth 100000 in
theorem tw_126 : Cond.fieldLink RX2 15 RX2 (TX2 0).2.1 (TX2 0).2.2.1 ∈ GW := tb_s1 126 rfl rfl
set_option maxRecDepth 100000 in
theorem tw_127 : Cond.fieldLink RX2 11 RX2 (TX2 1).2.1 (TX2 1).2.2.1 ∈ GW := tb_s1 127 rfl rfl
set_option maxRecDepth 100000 in
theorem tw_128 : Cond.fieldLink RX2 19 RX2 (TX2 2).2.1 (TX2 2).2.2.1 ∈ GW := tb_s1 128 rfl rfl
set_option maxRecDepth 100000 in
theorem tw_129 : Cond.fieldLink RX2 64 RX2 (TX2 3).2.1 (TX2 3).2.2.1 ∈ GW := tb_s1 129 rfl rfl
set_option maxRecDepth 100000 in
theorem tw_130 : Cond.fieldLink RX2 67 RX2 (TX2 4).2.1 (TX2 4).2.2.1 ∈ GW := tb_s1 130 rfl rfl
set_option maxRecDepth 100000 in
theorem tw_131 : Cond.fieldLink RX2 23 RX2 (TX2 5).2.1 (TX2 5).2.2.1 ∈ GW := tb_s1 131 rfl rfl
set_option maxRecDepth 100000 in
theorem tw_132 : Cond.fieldLink RX8 63 RX2 (TX2 5).2.1 (TX2 5).2.2.1 ∈ GW := tb_s1 132 rfl rfl
set_option maxRecDepth 100000 in
theorem tw_133 : Cond.fieldLink RX9 242 RX2 (TX2 5).2.1 (TX2 5).2.2.1 ∈ GW := tb_s1 133 rfl rfl
set_option maxRecDepth 100000 in
theorem tw_147 : Cond.fieldLink RX8 9 RX8 (TX8 0).2.1 (TX8 0).2.2.1 ∈ GW := tb_s1 147 rfl rfl
set_option maxRecDepth 100000 in
theorem tw_148 : Cond.fieldLink RX8 20 RX8 (TX8 1).2.1 (TX8 1).2.2.1 ∈ GW := tb_s1 148 rfl rfl
set_option maxRecDepth 100000 in
theorem tw_149 : Cond.fieldLink RX9 219 RX8 (TX8 1).2.1 (TX8 1).2.2.1 ∈ GW := tb_s1 149 rfl rfl
set_option maxRecDepth 100000 in
theorem tw_150 : Cond.fieldLink RX8 24 RX8 (TX8 2).2.1 (TX8 2).2.2.1 ∈ GW := tb_s1 150 rfl rfl
set_option maxRecDepth 100000 in
theorem tw_151 : Cond.fieldLink RX9 236 RX8 (TX8 2).2.1 (TX8 2).2.2.1 ∈ GW := tb_s1 151 rfl rfl
set_option maxRecDepth 100000 in
theorem tw_152 : Cond.fieldLink RX8 28 RX8 (TX8 3).2.1 (TX8 3).2.2.1 ∈ GW := tb_s1 152 rfl rfl
set_option maxRecDepth 100000 in
theorem tw_153 : Cond.fieldLink RX9 239 RX8 (TX8 3).2.1 (TX8 3).2.2.1 ∈ GW := tb_s1 153 rfl rfl
set_option maxRecDepth 100000 in
theorem tw_154 : Cond.fieldLink RX8 31 RX8 (TX8 4).2.1 (TX8 4).2.2.1 ∈ GW := tb_s1 154 rfl rfl
set_option maxRecDepth 100000 in
theorem tw_155 : Cond.fieldLink RX9 233 RX8 (TX8 4).2.1 (TX8 4).2.2.1 ∈ GW := tb_s1 155 rfl rfl
set_option maxRecDepth 100000 in
theorem tw_156 : Cond.fieldLink RX8 52 RX8 (TX8 5).2.1 (TX8 5).2.2.1 ∈ GW := tb_s1 156 rfl rfl
set_option maxRecDepth 100000 in
theorem tw_157 : Cond.fieldLink RX9 270 RX8 (TX8 5).2.1 (TX8 5).2.2.1 ∈ GW := tb_s1 157 rfl rfl
set_option maxRecDepth 100000 in
theorem tw_158 : Cond.fieldLink RX8 44 RX8 (TX8 6).2.1 (TX8 6).2.2.1 ∈ GW := tb_s1 158 rfl rfl
set_option maxRecDepth 100000 in
theorem tw_159 : Cond.fieldLink RX9 267 RX8 (TX8 6).2.1 (TX8 6).2.2.1 ∈ GW := tb_s1 159 rfl rfl
set_option maxRecDepth 100000 in
theorem tw_160 : Cond.fieldLink RX8 34 RX8 (TX8 7).2.1 (TX8 7).2.2.1 ∈ GW := tb_s1 160 rfl rfl
set_option maxRecDepth 100000 in
theorem tw_161 : Cond.fieldLink RX9 252 RX8 (TX8 7).2.1 (TX8 7).2.2.1 ∈ GW := tb_s1 161 rfl rfl
set_option maxRecDepth 100000 in
theorem tw_162 : Cond.fieldLink RX8 37 RX8 (TX8 8).2.1 (TX8 8).2.2.1 ∈ GW := tb_s1 162 rfl rfl
set_option maxRecDepth 100000 in
theorem tw_163 : Cond.fieldLink RX9 255 RX8 (TX8 8).2.1 (TX8 8).2.2.1 ∈ GW := tb_s1 163 rfl rfl
set_option maxRecDepth 100000 in
theorem tw_183 : Cond.classLink RX9 41 RX5 ∈ GW := tb_s1 183 rfl rfl
set_option maxRecDepth 100000 in
theorem tw_184 : Cond.instantiable RX5 3 ∈ GW := tb_s1 184 rfl rfl
set_option maxRecDepth 100000 in
theorem tw_185 : Cond.constant RX9 43 (oI (-2147483648)) ∈ GW := tb_s1 185 rfl rfl
set_option maxRecDepth 100000 in
theorem tw_186 : Cond.methodLink RX9 44 yX5_init ∈ GW := tb_s1 186 rfl rfl
set_option maxRecDepth 100000 in
theorem tw_187 : Cond.instanceMethod yX5_init ∈ GW := tb_s1 187 rfl rfl
set_option maxRecDepth 100000 in
theorem tw_188 : Cond.code yX5_init cX5_init 2 none ∈ GW := tb_s1 188 rfl rfl
set_option maxRecDepth 100000 in
theorem tw_189 : Cond.methodLink RX5 3 objectInit ∈ GW := tb_s1 189 rfl rfl
set_option maxRecDepth 100000 in
theorem tw_190 : Cond.fieldLink RX5 11 RX5 (TX5 0).2.1 (TX5 0).2.2.1 ∈ GW := tb_s1 190 rfl rfl
set_option maxRecDepth 100000 in
theorem tw_191 : Cond.fieldLink RX5 15 RX5 (TX5 1).2.1 (TX5 1).2.2.1 ∈ GW := tb_s1 191 rfl rfl
set_option maxRecDepth 100000 in
theorem tw_192 : Cond.fieldLink RX5 19 RX5 (TX5 2).2.1 (TX5 2).2.2.1 ∈ GW := tb_s1 192 rfl rfl
set_option maxRecDepth 100000 in
theorem tw_193 : Cond.fieldLink RX9 109 RX5 (TX5 2).2.1 (TX5 2).2.2.1 ∈ GW := tb_s1 193 rfl rfl
set_option maxRecDepth 100000 in
theorem tw_201 : Cond.classLink RX9 54 RX7 ∈ GW := tb_s1 201 rfl rfl
set_option maxRecDepth 100000 in
theorem tw_202 : Cond.instantiable RX7 7 ∈ GW := tb_s1 202 rfl rfl
set_option maxRecDepth 100000 in
theorem tw_204 : Cond.instanceMethod yX7_init ∈ GW := tb_s1 204 rfl rfl
set_option maxRecDepth 100000 in
theorem tw_205 : Cond.code yX7_init cX7_init 1 none ∈ GW := tb_s1 205 rfl rfl
set_option maxRecDepth 100000 in
theorem tw_206 : Cond.methodLink RX7 1 objectInit ∈ GW := tb_s1 206 rfl rfl
set_option maxRecDepth 100000 in
theorem tw_207 : Cond.fieldLink RX9 112 RX7 (TX7 0).2.1 (TX7 0).2.2.1 ∈ GW := tb_s1 207 rfl rfl
set_option maxRecDepth 100000 in
theorem tw_208 : Cond.fieldLink RX7 31 RX7 (TX7 1).2.1 (TX7 1).2.2.1 ∈ GW := tb_s1 208 rfl rfl
set_option maxRecDepth 100000 in
theorem tw_209 : Cond.fieldLink RX9 361 RX7 (TX7 1).2.1 (TX7 1).2.2.1 ∈ GW := tb_s1 209 rfl rfl
set_option maxRecDepth 100000 in
theorem tw_210 : Cond.fieldLink RX7 7 RX7 (TX7 2).2.1 (TX7 2).2.2.1 ∈ GW := tb_s1 210 rfl rfl
set_option maxRecDepth 100000 in
theorem tw_211 : Cond.fieldLink RX9 362 RX7 (TX7 2).2.1 (TX7 2).2.2.1 ∈ GW := tb_s1 211 rfl rfl
set_option maxRecDepth 100000 in
theorem tw_212 : Cond.fieldLink RX7 25 RX7 (TX7 3).2.1 (TX7 3).2.2.1 ∈ GW := tb_s1 212 rfl rfl
set_option maxRecDepth 100000 in
theorem tw_213 : Cond.fieldLink RX9 365 RX7 (TX7 3).2.1 (TX7 3).2.2.1 ∈ GW := tb_s1 213 rfl rfl
set_option maxRecDepth 100000 in
theorem tw_214 : Cond.fieldLink RX7 13 RX7 (TX7 4).2.1 (TX7 4).2.2.1 ∈ GW := tb_s1 214 rfl rfl
set_option maxRecDepth 100000 in
theorem tw_215 : Cond.fieldLink RX9 368 RX7 (TX7 4).2.1 (TX7 4).2.2.1 ∈ GW := tb_s1 215 rfl rfl
set_option maxRecDepth 100000 in
theorem tw_216 : Cond.fieldLink RX7 28 RX7 (TX7 5).2.1 (TX7 5).2.2.1 ∈ GW := tb_s1 216 rfl rfl
set_option maxRecDepth 100000 in
theorem tw_217 : Cond.fieldLink RX9 371 RX7 (TX7 5).2.1 (TX7 5).2.2.1 ∈ GW := tb_s1 217 rfl rfl
set_option maxRecDepth 100000 in
theorem tw_218 : Cond.fieldLink RX7 16 RX7 (TX7 6).2.1 (TX7 6).2.2.1 ∈ GW := tb_s1 218 rfl rfl
set_option maxRecDepth 100000 in
theorem tw_219 : Cond.fieldLink RX9 374 RX7 (TX7 6).2.1 (TX7 6).2.2.1 ∈ GW := tb_s1 219 rfl rfl
set_option maxRecDepth 100000 in
theorem tw_235 : Cond.classLink RX9 61 RX2 ∈ GW := tb_s1 235 rfl rfl
set_option maxRecDepth 100000 in
theorem tw_236 : Cond.methodLink RX9 63 yX2_init ∈ GW := tb_s1 236 rfl rfl
set_option maxRecDepth 100000 in
theorem tw_237 : Cond.classLink RX9 68 RX3 ∈ GW := tb_s1 237 rfl rfl
set_option maxRecDepth 100000 in
theorem tw_238 : Cond.instantiable RX3 2 ∈ GW := tb_s1 238 rfl rfl
set_option maxRecDepth 100000 in
theorem tw_240 : Cond.instanceMethod yX3_init ∈ GW := tb_s2 0 rfl rfl
set_option maxRecDepth 100000 in
theorem tw_241 : Cond.code yX3_init cX3_init 1 none ∈ GW := tb_s2 1 rfl rfl
set_option maxRecDepth 100000 in
theorem tw_242 : Cond.methodLink RX3 3 objectInit ∈ GW := tb_s2 2 rfl rfl
set_option maxRecDepth 100000 in
theorem tw_243 : Cond.fieldLink RX3 9 RX3 (TX3 0).2.1 (TX3 0).2.2.1 ∈ GW := tb_s2 3 rfl rfl
set_option maxRecDepth 100000 in
theorem tw_244 : Cond.fieldLink RX3 15 RX3 (TX3 1).2.1 (TX3 1).2.2.1 ∈ GW := tb_s2 4 rfl rfl
set_option maxRecDepth 100000 in
theorem tw_250 : Cond.classLink RX9 75 RX1 ∈ GW := tb_s2 10 rfl rfl
set_option maxRecDepth 100000 in
theorem tw_251 : Cond.instantiable RX1 6 ∈ GW := tb_s2 11 rfl rfl
set_option maxRecDepth 100000 in
theorem tw_252 : Cond.methodLink RX9 77 yX1_init ∈ GW := tb_s2 12 rfl rfl
set_option maxRecDepth 100000 in
theorem tw_253 : Cond.instanceMethod yX1_init ∈ GW := tb_s2 13 rfl rfl
set_option maxRecDepth 100000 in
theorem tw_254 : Cond.code yX1_init cX1_init 2 none ∈ GW := tb_s2 14 rfl rfl
set_option maxRecDepth 100000 in
theorem tw_255 : Cond.methodLink RX1 3 objectInit ∈ GW := tb_s2 15 rfl rfl
set_option maxRecDepth 100000 in
theorem tw_256 : Cond.fieldLink RX1 9 RX1 (TX1 0).2.1 (TX1 0).2.2.1 ∈ GW := tb_s2 16 rfl rfl
set_option maxRecDepth 100000 in
theorem tw_257 : Cond.fieldLink RX1 53 RX1 (TX1 1).2.1 (TX1 1).2.2.1 ∈ GW := tb_s2 17 rfl rfl
set_option maxRecDepth 100000 in
theorem tw_258 : Cond.fieldLink RX9 297 RX1 (TX1 1).2.1 (TX1 1).2.2.1 ∈ GW := tb_s2 18 rfl rfl
set_option maxRecDepth 100000 in
theorem tw_259 : Cond.fieldLink RX1 57 RX1 (TX1 2).2.1 (TX1 2).2.2.1 ∈ GW := tb_s2 19 rfl rfl
set_option maxRecDepth 100000 in
theorem tw_260 : Cond.fieldLink RX9 301 RX1 (TX1 2).2.1 (TX1 2).2.2.1 ∈ GW := tb_s2 20 rfl rfl
set_option maxRecDepth 100000 in
theorem tw_261 : Cond.fieldLink RX1 15 RX1 (TX1 3).2.1 (TX1 3).2.2.1 ∈ GW := tb_s2 21 rfl rfl
set_option maxRecDepth 100000 in
theorem tw_262 : Cond.fieldLink RX9 304 RX1 (TX1 3).2.1 (TX1 3).2.2.1 ∈ GW := tb_s2 22 rfl rfl
set_option maxRecDepth 100000 in
theorem tw_263 : Cond.fieldLink RX1 19 RX1 (TX1 4).2.1 (TX1 4).2.2.1 ∈ GW := tb_s2 23 rfl rfl
set_option maxRecDepth 100000 in
theorem tw_264 : Cond.fieldLink RX9 307 RX1 (TX1 4).2.1 (TX1 4).2.2.1 ∈ GW := tb_s2 24 rfl rfl
set_option maxRecDepth 100000 in
theorem tw_265 : Cond.fieldLink RX1 22 RX1 (TX1 5).2.1 (TX1 5).2.2.1 ∈ GW := tb_s2 25 rfl rfl
set_option maxRecDepth 100000 in
theorem tw_266 : Cond.fieldLink RX9 310 RX1 (TX1 5).2.1 (TX1 5).2.2.1 ∈ GW := tb_s2 26 rfl rfl
set_option maxRecDepth 100000 in
theorem tw_280 : Cond.fieldLink RX9 12 RX9 (TX9 0).2.1 (TX9 0).2.2.1 ∈ GW := tb_s2 40 rfl rfl
set_option maxRecDepth 100000 in
theorem tw_281 : Cond.fieldLink RX9 21 RX9 (TX9 1).2.1 (TX9 1).2.2.1 ∈ GW := tb_s2 41 rfl rfl
set_option maxRecDepth 100000 in
theorem tw_282 : Cond.fieldLink RX9 28 RX9 (TX9 2).2.1 (TX9 2).2.2.1 ∈ GW := tb_s2 42 rfl rfl
set_option maxRecDepth 100000 in
theorem tw_283 : Cond.fieldLink RX9 34 RX9 (TX9 3).2.1 (TX9 3).2.2.1 ∈ GW := tb_s2 43 rfl rfl
set_option maxRecDepth 100000 in
theorem tw_284 : Cond.fieldLink RX9 116 RX9 (TX9 4).2.1 (TX9 4).2.2.1 ∈ GW := tb_s2 44 rfl rfl
set_option maxRecDepth 100000 in
theorem tw_285 : Cond.fieldLink RX9 47 RX9 (TX9 5).2.1 (TX9 5).2.2.1 ∈ GW := tb_s2 45 rfl rfl
set_option maxRecDepth 100000 in
theorem tw_286 : Cond.fieldLink RX9 51 RX9 (TX9 6).2.1 (TX9 6).2.2.1 ∈ GW := tb_s2 46 rfl rfl
set_option maxRecDepth 100000 in
theorem tw_287 : Cond.fieldLink RX9 57 RX9 (TX9 7).2.1 (TX9 7).2.2.1 ∈ GW := tb_s2 47 rfl rfl
set_option maxRecDepth 100000 in
theorem tw_288 : Cond.fieldLink RX9 64 RX9 (TX9 8).2.1 (TX9 8).2.2.1 ∈ GW := tb_s2 48 rfl rfl
set_option maxRecDepth 100000 in
theorem tw_289 : Cond.fieldLink RX9 71 RX9 (TX9 9).2.1 (TX9 9).2.2.1 ∈ GW := tb_s2 49 rfl rfl
set_option maxRecDepth 100000 in
theorem tw_290 : Cond.fieldLink RX9 78 RX9 (TX9 10).2.1 (TX9 10).2.2.1 ∈ GW := tb_s2 50 rfl rfl
set_option maxRecDepth 100000 in
theorem tw_318 : Cond.methodLink RX9 86 yX6_push ∈ GW := tb_s2 78 rfl rfl
set_option maxRecDepth 100000 in
theorem tw_326 : Cond.methodLink RX9 89 yX4_read ∈ GW := tb_s2 86 rfl rfl
set_option maxRecDepth 100000 in
theorem tw_330 : Cond.methodLink RX4 41 yX4_skipBlanks ∈ GW := tb_s2 90 rfl rfl
set_option maxRecDepth 100000 in
theorem tw_334 : Cond.methodLink RX4 87 yX6_at ∈ GW := tb_s2 94 rfl rfl
set_option maxRecDepth 100000 in
theorem tw_338 : Cond.methodLink RX4 46 yX4_readLine ∈ GW := tb_s2 98 rfl rfl
set_option maxRecDepth 100000 in
theorem tw_342 : Cond.methodLink RX4 49 yX4_passWord ∈ GW := tb_s2 102 rfl rfl
set_option maxRecDepth 100000 in
theorem tw_347 : Cond.methodLink RX4 54 yX4_spells ∈ GW := tb_s2 107 rfl rfl
set_option maxRecDepth 100000 in
theorem tw_351 : Cond.methodLink RX4 100 yJ0_length_8abf5 ∈ GW := tb_s2 111 rfl rfl
set_option maxRecDepth 100000 in
theorem tw_355 : Cond.methodLink RJ0 335 yJ0_coder_7d493 ∈ GW := tb_s2 115 rfl rfl
set_option maxRecDepth 100000 in
theorem tw_359 : Cond.fieldLink RJ0 38 "java/lang/String" "COMPACT_STRINGS" "Z" ∈ GW := tb_s2 119 rfl rfl
set_option maxRecDepth 100000 in
theorem tw_361 : Cond.methodLink RX4 105 yJ0_charAt_5068e ∈ GW := tb_s2 121 rfl rfl
set_option maxRecDepth 100000 in
theorem tw_365 : Cond.methodLink RJ0 492 yJ0_isLatin1_aae02 ∈ GW := tb_s2 125 rfl rfl
set_option maxRecDepth 100000 in
theorem tw_369 : Cond.methodLink RJ0 495 yJ1_charAt_3b067 ∈ GW := tb_s2 129 rfl rfl
set_option maxRecDepth 100000 in
theorem tw_372 : Cond.methodLink RJ1 9 yJ0_checkIndex_df160 ∈ GW := tb_s2 132 rfl rfl
set_option maxRecDepth 100000 in
theorem tw_375 : Cond.fieldLink RJ0 1053 "jdk/internal/util/Preconditions" "SIOOBE_FORMATTER" "Ljava/util/function/BiFunction;" ∈ GW := tb_s2 135 rfl rfl
set_option maxRecDepth 100000 in
theorem tw_377 : Cond.methodLink RJ0 1059 yJ3_checkIndex_8e157 ∈ GW := tb_s2 137 rfl rfl
set_option maxRecDepth 100000 in
theorem tw_399 : Cond.fieldLink RX4 58 "RiskDesk$Reader" "LEAST_OF_POLICY" "[I" ∈ GW := tb_s2 159 rfl rfl
set_option maxRecDepth 100000 in
theorem tw_401 : Cond.fieldLink RX4 61 "RiskDesk$Reader" "MOST_OF_POLICY" "[I" ∈ GW := tb_s2 161 rfl rfl
set_option maxRecDepth 100000 in
theorem tw_403 : Cond.methodLink RX4 64 yX4_readNumbers ∈ GW := tb_s2 163 rfl rfl
set_option maxRecDepth 100000 in
theorem tw_407 : Cond.methodLink RX4 76 yX4_complain ∈ GW := tb_s2 167 rfl rfl
set_option maxRecDepth 100000 in
theorem tw_411 : Cond.methodLink RX4 83 yX4_readNumber ∈ GW := tb_s2 171 rfl rfl
set_option maxRecDepth 100000 in
theorem tw_415 : Cond.methodLink RX4 90 yX4_isDigit ∈ GW := tb_s2 175 rfl rfl
set_option maxRecDepth 100000 in
theorem tw_418 : Cond.constant RX4 94 (oI 100000000) ∈ GW := tb_s2 178 rfl rfl
set_option maxRecDepth 100000 in
theorem tw_419 : Cond.methodLink RX4 95 Lib.Math.min.name ∈ GW := tb_s2 179 rfl rfl
set_option maxRecDepth 100000 in
theorem tw_423 : Cond.fieldLink RX4 70 "RiskDesk$Reader" "LEAST_OF_TREATY" "[I" ∈ GW := tb_s2 183 rfl rfl
set_option maxRecDepth 100000 in
theorem tw_425 : Cond.fieldLink RX4 73 "RiskDesk$Reader" "MOST_OF_TREATY" "[I" ∈ GW := tb_s2 185 rfl rfl
set_option maxRecDepth 100000 in
theorem tw_427 : Cond.methodLink RX4 80 yX4_readEnd ∈ GW := tb_s2 187 rfl rfl
set_option maxRecDepth 100000 in
theorem tw_431 : Cond.methodLink RX9 95 yX9_beginAnew ∈ GW := tb_s2 191 rfl rfl
set_option maxRecDepth 100000 in
theorem tw_435 : Cond.methodLink RX9 106 yX0_clear ∈ GW := tb_s2 195 rfl rfl
set_option maxRecDepth 100000 in
theorem tw_439 : Cond.methodLink RX0 31 yJ7_fill_53178 ∈ GW := tb_s2 199 rfl rfl
set_option maxRecDepth 100000 in
theorem tw_442 : Cond.methodLink RX9 119 yX4_ofPolicy ∈ GW := tb_s2 202 rfl rfl
set_option maxRecDepth 100000 in
theorem tw_446 : Cond.methodLink RX9 123 yX0_enter ∈ GW := tb_s2 206 rfl rfl
set_option maxRecDepth 100000 in
theorem tw_453 : Cond.methodLink RX0 45 yX0_shift ∈ GW := tb_s2 213 rfl rfl
set_option maxRecDepth 100000 in
theorem tw_457 : Cond.methodLink RX0 49 yX0_weigh ∈ GW := tb_s2 217 rfl rfl
set_option maxRecDepth 100000 in
theorem tw_464 : Cond.methodLink RX9 127 yX4_ofTreaty ∈ GW := tb_s2 224 rfl rfl
set_option maxRecDepth 100000 in
theorem tw_468 : Cond.methodLink RX9 130 yX9_openTreaty ∈ GW := tb_s2 228 rfl rfl
set_option maxRecDepth 100000 in
theorem tw_472 : Cond.methodLink RX9 258 yX8_agree ∈ GW := tb_s2 232 rfl rfl
set_option maxRecDepth 100000 in
theorem tw_476 : Cond.methodLink RX9 261 yX0_ofPerils ∈ GW := tb_s2 236 rfl rfl
set_option maxRecDepth 100000 in
theorem tw_480 : Cond.methodLink RX9 264 yX2_fill ∈ GW := tb_s3 0 rfl rfl
set_option maxRecDepth 100000 in
theorem tw_484 : Cond.methodLink RX2 26 yJ7_fill_53178 ∈ GW := tb_s3 4 rfl rfl
set_option maxRecDepth 100000 in
theorem tw_486 : Cond.methodLink RX2 36 yX2_add ∈ GW := tb_s3 6 rfl rfl
set_option maxRecDepth 100000 in
theorem tw_491 : Cond.methodLink RX2 52 yX0_within ∈ GW := tb_s3 11 rfl rfl
set_option maxRecDepth 100000 in
theorem tw_495 : Cond.methodLink RX2 56 yX2_extend ∈ GW := tb_s3 15 rfl rfl
set_option maxRecDepth 100000 in
theorem tw_499 : Cond.methodLink RX2 70 yX2_sidesAt ∈ GW := tb_s3 19 rfl rfl
set_option maxRecDepth 100000 in
theorem tw_506 : Cond.methodLink RX2 60 yX2_holdBoth ∈ GW := tb_s3 26 rfl rfl
set_option maxRecDepth 100000 in
theorem tw_510 : Cond.methodLink RX9 213 yX8_findWorst ∈ GW := tb_s3 30 rfl rfl
set_option maxRecDepth 100000 in
theorem tw_514 : Cond.constant RX8 47 (oI 16777215) ∈ GW := tb_s3 34 rfl rfl
set_option maxRecDepth 100000 in
theorem tw_515 : Cond.methodLink RX8 48 yX2_heaviestAmong ∈ GW := tb_s3 35 rfl rfl
set_option maxRecDepth 100000 in
theorem tw_519 : Cond.methodLink RX2 78 yX0_sums ∈ GW := tb_s3 39 rfl rfl
set_option maxRecDepth 100000 in
theorem tw_523 : Cond.methodLink RX8 55 yX0_sums ∈ GW := tb_s3 43 rfl rfl
set_option maxRecDepth 100000 in
theorem tw_524 : Cond.methodLink RX9 216 yX9_lookAt ∈ GW := tb_s3 44 rfl rfl
set_option maxRecDepth 100000 in
theorem tw_528 : Cond.methodLink RX9 206 yX9_treatyAt ∈ GW := tb_s3 48 rfl rfl
set_option maxRecDepth 100000 in
theorem tw_532 : Cond.methodLink RX9 248 yX8_isPassed ∈ GW := tb_s3 52 rfl rfl
set_option maxRecDepth 100000 in
theorem tw_536 : Cond.methodLink RX9 203 yX5_note ∈ GW := tb_s3 56 rfl rfl
set_option maxRecDepth 100000 in
theorem tw_549 : Cond.methodLink RX9 134 yX9_isPlace ∈ GW := tb_s3 69 rfl rfl
set_option maxRecDepth 100000 in
theorem tw_552 : Cond.methodLink RX9 138 yX9_isSum ∈ GW := tb_s3 72 rfl rfl
set_option maxRecDepth 100000 in
theorem tw_555 : Cond.constant RX9 327 (oI 99999) ∈ GW := tb_s3 75 rfl rfl
set_option maxRecDepth 100000 in
theorem tw_556 : Cond.methodLink RX9 142 yX9_isPeril ∈ GW := tb_s3 76 rfl rfl
set_option maxRecDepth 100000 in
theorem tw_559 : Cond.methodLink RX9 145 yX0_leastFree ∈ GW := tb_s3 79 rfl rfl
set_option maxRecDepth 100000 in
theorem tw_563 : Cond.methodLink RX9 149 yX9_joinTreaties ∈ GW := tb_s3 83 rfl rfl
set_option maxRecDepth 100000 in
theorem tw_567 : Cond.methodLink RX9 210 yX8_takes ∈ GW := tb_s3 87 rfl rfl
set_option maxRecDepth 100000 in
theorem tw_572 : Cond.methodLink RX9 220 yX2_add ∈ GW := tb_s3 92 rfl rfl
set_option maxRecDepth 100000 in
theorem tw_573 : Cond.methodLink RX9 153 yX9_tell ∈ GW := tb_s3 93 rfl rfl
set_option maxRecDepth 100000 in
theorem tw_581 : Cond.methodLink RX9 157 yX0_has ∈ GW := tb_s3 101 rfl rfl
set_option maxRecDepth 100000 in
theorem tw_585 : Cond.methodLink RX9 160 yX0_perilOf ∈ GW := tb_s3 105 rfl rfl
set_option maxRecDepth 100000 in
theorem tw_589 : Cond.methodLink RX9 164 yX0_apart ∈ GW := tb_s3 109 rfl rfl
set_option maxRecDepth 100000 in
theorem tw_593 : Cond.methodLink RX0 53 yX0_xOf ∈ GW := tb_s3 113 rfl rfl
set_option maxRecDepth 100000 in
theorem tw_597 : Cond.methodLink RX0 57 yX0_yOf ∈ GW := tb_s3 117 rfl rfl
set_option maxRecDepth 100000 in
theorem tw_601 : Cond.methodLink RX9 167 yX9_leaveTreaties ∈ GW := tb_s3 121 rfl rfl
set_option maxRecDepth 100000 in
theorem tw_605 : Cond.methodLink RX9 223 yX2_remove ∈ GW := tb_s3 125 rfl rfl
set_option maxRecDepth 100000 in
theorem tw_609 : Cond.methodLink RX9 170 yX0_shift ∈ GW := tb_s3 129 rfl rfl
set_option maxRecDepth 100000 in
theorem tw_614 : Cond.methodLink RX9 174 yX0_sumOf ∈ GW := tb_s3 134 rfl rfl
set_option maxRecDepth 100000 in
theorem tw_618 : Cond.methodLink RX9 177 yX0_weigh ∈ GW := tb_s3 138 rfl rfl
set_option maxRecDepth 100000 in
theorem tw_623 : Cond.methodLink RX9 180 yX0_drop ∈ GW := tb_s3 143 rfl rfl
set_option maxRecDepth 100000 in
theorem tw_631 : Cond.methodLink RX9 226 yX9_arePerils ∈ GW := tb_s3 151 rfl rfl
set_option maxRecDepth 100000 in
theorem tw_634 : Cond.methodLink RX9 229 yX9_isRadius ∈ GW := tb_s3 154 rfl rfl
set_option maxRecDepth 100000 in
theorem tw_637 : Cond.constant RX9 232 (oI 9999999) ∈ GW := tb_s3 157 rfl rfl
set_option maxRecDepth 100000 in
theorem tw_646 : Cond.methodLink RX9 195 yJ6_bitCount_0f7a4 ∈ GW := tb_s3 166 rfl rfl
set_option maxRecDepth 100000 in
theorem tw_649 : Cond.constant RJ6 265 (oI 1431655765) ∈ GW := tb_s3 169 rfl rfl
set_option maxRecDepth 100000 in
theorem tw_650 : Cond.constant RJ6 266 (oI 858993459) ∈ GW := tb_s3 170 rfl rfl
set_option maxRecDepth 100000 in
theorem tw_651 : Cond.constant RJ6 267 (oI 252645135) ∈ GW := tb_s3 171 rfl rfl
set_option maxRecDepth 100000 in
theorem tw_652 : Cond.methodLink RX9 245 yX0_sums ∈ GW := tb_s3 172 rfl rfl
set_option maxRecDepth 100000 in
theorem tw_661 : Cond.methodLink RX9 273 yX9_contains ∈ GW := tb_s3 181 rfl rfl
set_option maxRecDepth 100000 in
theorem tw_666 : Cond.methodLink RX9 276 yX2_bounding ∈ GW := tb_s3 186 rfl rfl
set_option maxRecDepth 100000 in
theorem tw_670 : Cond.methodLink RX9 279 Lib.Math.min.name ∈ GW := tb_s3 190 rfl rfl
set_option maxRecDepth 100000 in
theorem tw_671 : Cond.methodLink RX9 284 Lib.Math.max.name ∈ GW := tb_s3 191 rfl rfl
set_option maxRecDepth 100000 in
theorem tw_678 : Cond.methodLink RX9 287 yX0_between ∈ GW := tb_s3 198 rfl rfl
set_option maxRecDepth 100000 in
theorem tw_682 : Cond.methodLink RX0 60 yX0_apart ∈ GW := tb_s3 202 rfl rfl
set_option maxRecDepth 100000 in
theorem tw_687 : Cond.constantLong RX9 290 (oL (-1)) ∈ GW := tb_s3 207 rfl rfl
set_option maxRecDepth 100000 in
theorem tw_688 : Cond.constantLong RX9 292 (oL (-2)) ∈ GW := tb_s3 208 rfl rfl
set_option maxRecDepth 100000 in
theorem tw_689 : Cond.methodLink RX9 294 yX1_close ∈ GW := tb_s3 209 rfl rfl
set_option maxRecDepth 100000 in
theorem tw_693 : Cond.methodLink RX1 25 yX1_isPoint ∈ GW := tb_s3 213 rfl rfl
set_option maxRecDepth 100000 in
theorem tw_698 : Cond.methodLink RX1 40 yX0_xOf ∈ GW := tb_s3 218 rfl rfl
set_option maxRecDepth 100000 in
theorem tw_699 : Cond.methodLink RX1 46 yX0_yOf ∈ GW := tb_s3 219 rfl rfl
set_option maxRecDepth 100000 in
theorem tw_700 : Cond.methodLink RX1 49 yX0_within ∈ GW := tb_s3 220 rfl rfl
set_option maxRecDepth 100000 in
theorem tw_701 : Cond.methodLink RX1 29 yX1_hasDiameter ∈ GW := tb_s3 221 rfl rfl
set_option maxRecDepth 100000 in
theorem tw_705 : Cond.methodLink RX1 60 yX1_isDiameter ∈ GW := tb_s3 225 rfl rfl
set_option maxRecDepth 100000 in
theorem tw_709 : Cond.methodLink RX1 74 yX1_corner ∈ GW := tb_s3 229 rfl rfl
set_option maxRecDepth 100000 in
theorem tw_713 : Cond.methodLink RX1 64 yX0_between ∈ GW := tb_s3 233 rfl rfl
set_option maxRecDepth 100000 in
theorem tw_714 : Cond.constantLong RX1 68 (oL 4) ∈ GW := tb_s3 234 rfl rfl
set_option maxRecDepth 100000 in
theorem tw_715 : Cond.methodLink RX1 70 yX1_reduce ∈ GW := tb_s3 235 rfl rfl
set_option maxRecDepth 100000 in
theorem tw_719 : Cond.methodLink RX1 32 yX1_findTriangle ∈ GW := tb_s3 239 rfl rfl
set_option maxRecDepth 100000 in
theorem tw_723 : Cond.methodLink RX1 77 yX1_isSharp ∈ GW := tb_s4 3 rfl rfl
set_option maxRecDepth 100000 in
theorem tw_727 : Cond.methodLink RX1 84 yX1_turn ∈ GW := tb_s4 7 rfl rfl
set_option maxRecDepth 100000 in
theorem tw_731 : Cond.methodLink RX1 80 yX1_isAround ∈ GW := tb_s4 11 rfl rfl
set_option maxRecDepth 100000 in
theorem tw_739 : Cond.methodLink RX9 313 yX8_worstWithout ∈ GW := tb_s4 19 rfl rfl
set_option maxRecDepth 100000 in
theorem tw_759 : Cond.methodLink RX9 316 yX8_staysPassed ∈ GW := tb_s4 39 rfl rfl
set_option maxRecDepth 100000 in
theorem tw_763 : Cond.methodLink RX8 60 yX2_hasMore ∈ GW := tb_s4 43 rfl rfl
set_option maxRecDepth 100000 in
theorem tw_767 : Cond.methodLink RX9 319 yX8_isFreedWith ∈ GW := tb_s4 47 rfl rfl
set_option maxRecDepth 100000 in
theorem tw_771 : Cond.methodLink RX8 66 yX8_staysPassed ∈ GW := tb_s4 51 rfl rfl
set_option maxRecDepth 100000 in
theorem tw_776 : Cond.constant RX9 322 (oI 16777215) ∈ GW := tb_s4 56 rfl rfl
set_option maxRecDepth 100000 in
theorem tw_777 : Cond.methodLink RX9 323 yX2_joined ∈ GW := tb_s4 57 rfl rfl
set_option maxRecDepth 100000 in
theorem tw_781 : Cond.methodLink RX2 82 Lib.Math.max.name ∈ GW := tb_s4 61 rfl rfl
set_option maxRecDepth 100000 in
theorem tw_782 : Cond.methodLink RX2 88 yX2_onOthers ∈ GW := tb_s4 62 rfl rfl
set_option maxRecDepth 100000 in
theorem tw_798 : Cond.methodLink RX9 328 yX9_leavesAll ∈ GW := tb_s4 78 rfl rfl
set_option maxRecDepth 100000 in
theorem tw_806 : Cond.methodLink RX9 186 yX0_xOf ∈ GW := tb_s4 86 rfl rfl
set_option maxRecDepth 100000 in
theorem tw_807 : Cond.methodLink RX9 332 yX9_onWay ∈ GW := tb_s4 87 rfl rfl
set_option maxRecDepth 100000 in
theorem tw_810 : Cond.methodLink RX9 409 yJ9_floorDiv_7cf53 ∈ GW := tb_s4 90 rfl rfl
set_option maxRecDepth 100000 in
theorem tw_813 : Cond.methodLink RX9 189 yX0_yOf ∈ GW := tb_s4 93 rfl rfl
set_option maxRecDepth 100000 in
theorem tw_818 : Cond.methodLink RX9 335 yX9_isReach ∈ GW := tb_s4 98 rfl rfl
set_option maxRecDepth 100000 in
theorem tw_821 : Cond.methodLink RX9 338 yX9_chainFrom ∈ GW := tb_s4 101 rfl rfl
set_option maxRecDepth 100000 in
theorem tw_825 : Cond.methodLink RX9 192 yX0_within ∈ GW := tb_s4 105 rfl rfl
set_option maxRecDepth 100000 in
theorem tw_830 : Cond.methodLink RX9 341 yX9_heaviestOf ∈ GW := tb_s4 110 rfl rfl
set_option maxRecDepth 100000 in
theorem tw_834 : Cond.methodLink RX9 344 yX2_heaviestAmong ∈ GW := tb_s4 114 rfl rfl
set_option maxRecDepth 100000 in
theorem tw_843 : Cond.methodLink RX9 347 yX3_gather ∈ GW := tb_s4 123 rfl rfl
set_option maxRecDepth 100000 in
theorem tw_847 : Cond.methodLink RX3 19 yX2_at ∈ GW := tb_s4 127 rfl rfl
set_option maxRecDepth 100000 in
theorem tw_851 : Cond.methodLink RX3 25 yX3_keep ∈ GW := tb_s4 131 rfl rfl
set_option maxRecDepth 100000 in
theorem tw_855 : Cond.methodLink RX9 351 yX3_heaviestTwo ∈ GW := tb_s4 135 rfl rfl
set_option maxRecDepth 100000 in
theorem tw_859 : Cond.methodLink RX3 29 yX0_sums ∈ GW := tb_s4 139 rfl rfl
set_option maxRecDepth 100000 in
theorem tw_864 : Cond.methodLink RX9 355 yX3_fewestOver ∈ GW := tb_s4 144 rfl rfl
set_option maxRecDepth 100000 in
theorem tw_868 : Cond.methodLink RX3 34 yX3_isOneOver ∈ GW := tb_s4 148 rfl rfl
set_option maxRecDepth 100000 in
theorem tw_872 : Cond.methodLink RX3 38 yX3_leastOf ∈ GW := tb_s4 152 rfl rfl
set_option maxRecDepth 100000 in
theorem tw_875 : Cond.methodLink RX3 48 yJ6_bitCount_0f7a4 ∈ GW := tb_s4 155 rfl rfl
set_option maxRecDepth 100000 in
theorem tw_877 : Cond.methodLink RX3 45 yX3_areTwoOver ∈ GW := tb_s4 157 rfl rfl
set_option maxRecDepth 100000 in
theorem tw_885 : Cond.methodLink RX9 358 yX0_inSquare ∈ GW := tb_s4 165 rfl rfl
set_option maxRecDepth 100000 in
theorem tw_909 : Cond.methodLink RX9 377 yX7_hits ∈ GW := tb_s4 189 rfl rfl
set_option maxRecDepth 100000 in
theorem tw_913 : Cond.methodLink RX7 40 yX7_hitAt ∈ GW := tb_s4 193 rfl rfl
set_option maxRecDepth 100000 in
theorem tw_918 : Cond.methodLink RX7 34 yX0_within ∈ GW := tb_s4 198 rfl rfl
set_option maxRecDepth 100000 in
theorem tw_923 : Cond.methodLink RX9 380 yX7_fiercest ∈ GW := tb_s4 203 rfl rfl
set_option maxRecDepth 100000 in
theorem tw_927 : Cond.methodLink RX7 44 yX0_sums ∈ GW := tb_s4 207 rfl rfl
set_option maxRecDepth 100000 in
theorem tw_928 : Cond.methodLink RX9 383 yX7_hitAt ∈ GW := tb_s4 208 rfl rfl
set_option maxRecDepth 100000 in
theorem tw_937 : Cond.methodLink RX9 387 yX9_drawnAfter ∈ GW := tb_s4 217 rfl rfl
set_option maxRecDepth 100000 in
theorem tw_940 : Cond.constantLong RX9 391 (oL 1103515245) ∈ GW := tb_s4 220 rfl rfl
set_option maxRecDepth 100000 in
theorem tw_941 : Cond.constantLong RX9 393 (oL 12345) ∈ GW := tb_s4 221 rfl rfl
set_option maxRecDepth 100000 in
theorem tw_942 : Cond.constantLong RX9 395 (oL 2147483647) ∈ GW := tb_s4 222 rfl rfl
set_option maxRecDepth 100000 in
theorem tw_943 : Cond.constant RX9 390 (oI 65536) ∈ GW := tb_s4 223 rfl rfl
set_option maxRecDepth 100000 in
theorem tw_948 : Cond.methodLink RX9 397 yX5_latest ∈ GW := tb_s4 228 rfl rfl
set_option maxRecDepth 100000 in
theorem tw_960 : Cond.methodLink RX9 403 yX9_passedTreaties ∈ GW := tb_s5 0 rfl rfl
set_option maxRecDepth 100000 in
theorem tw_964 : Cond.methodLink RX9 406 yX0_unlikePlaces ∈ GW := tb_s5 4 rfl rfl
set_option maxRecDepth 100000 in
theorem tw_968 : Cond.methodLink RX0 64 yX0_within ∈ GW := tb_s5 8 rfl rfl
set_option maxRecDepth 100000 in
theorem tw_1060 : Cond.methodLink RX10 1 objectInit ∈ GW := tb_s5 100 rfl rfl
set_option maxRecDepth 100000 in
theorem tw_1061 : Cond.fieldLink RX10 70 RX10 (TX10 0).2.1 (TX10 0).2.2.1 ∈ GW := tb_s5 101 rfl rfl
set_option maxRecDepth 100000 in
theorem tw_1062 : Cond.fieldLink RX10 7 RX10 (TX10 1).2.1 (TX10 1).2.2.1 ∈ GW := tb_s5 102 rfl rfl
set_option maxRecDepth 100000 in
theorem tw_1063 : Cond.fieldLink RX10 73 RX10 (TX10 2).2.1 (TX10 2).2.2.1 ∈ GW := tb_s5 103 rfl rfl
set_option maxRecDepth 100000 in
theorem tw_1064 : Cond.fieldLink RX10 13 RX10 (TX10 3).2.1 (TX10 3).2.2.1 ∈ GW := tb_s5 104 rfl rfl
set_option maxRecDepth 100000 in
theorem tw_1065 : Cond.fieldLink RX10 16 RX10 (TX10 4).2.1 (TX10 4).2.2.1 ∈ GW := tb_s5 105 rfl rfl
set_option maxRecDepth 100000 in
theorem tw_1066 : Cond.fieldLink RX10 133 RX10 (TX10 5).2.1 (TX10 5).2.2.1 ∈ GW := tb_s5 106 rfl rfl
set_option maxRecDepth 100000 in
theorem tw_1067 : Cond.fieldLink RX10 141 RX10 (TX10 6).2.1 (TX10 6).2.2.1 ∈ GW := tb_s5 107 rfl rfl
set_option maxRecDepth 100000 in
theorem tw_1068 : Cond.fieldLink RX10 150 RX10 (TX10 7).2.1 (TX10 7).2.2.1 ∈ GW := tb_s5 108 rfl rfl
set_option maxRecDepth 100000 in
theorem tw_1069 : Cond.fieldLink RX10 79 RX10 (TX10 8).2.1 (TX10 8).2.2.1 ∈ GW := tb_s5 109 rfl rfl
set_option maxRecDepth 100000 in
theorem tw_1070 : Cond.fieldLink RX10 76 RX10 (TX10 9).2.1 (TX10 9).2.2.1 ∈ GW := tb_s5 110 rfl rfl
set_option maxRecDepth 100000 in
theorem tw_1071 : Cond.fieldLink RX10 86 RX10 (TX10 10).2.1 (TX10 10).2.2.1 ∈ GW := tb_s5 111 rfl rfl
set_option maxRecDepth 100000 in
theorem tw_1072 : Cond.fieldLink RX10 89 RX10 (TX10 11).2.1 (TX10 11).2.2.1 ∈ GW := tb_s5 112 rfl rfl
set_option maxRecDepth 100000 in
theorem tw_1073 : Cond.fieldLink RX10 99 RX10 (TX10 12).2.1 (TX10 12).2.2.1 ∈ GW := tb_s5 113 rfl rfl
set_option maxRecDepth 100000 in
theorem tw_1074 : Cond.fieldLink RX10 117 RX10 (TX10 13).2.1 (TX10 13).2.2.1 ∈ GW := tb_s5 114 rfl rfl
set_option maxRecDepth 100000 in
theorem tw_1075 : Cond.fieldLink RX10 120 RX10 (TX10 14).2.1 (TX10 14).2.2.1 ∈ GW := tb_s5 115 rfl rfl
set_option maxRecDepth 100000 in
theorem tw_1076 : Cond.fieldLink RX10 159 RX10 (TX10 15).2.1 (TX10 15).2.2.1 ∈ GW := tb_s5 116 rfl rfl
set_option maxRecDepth 100000 in
theorem tw_1077 : Cond.fieldLink RX10 19 RX10 (TX10 16).2.1 (TX10 16).2.2.1 ∈ GW := tb_s5 117 rfl rfl
set_option maxRecDepth 100000 in
theorem tw_1078 : Cond.fieldLink RX10 23 RX10 (TX10 17).2.1 (TX10 17).2.2.1 ∈ GW := tb_s5 118 rfl rfl
set_option maxRecDepth 100000 in
theorem tw_1079 : Cond.fieldLink RX10 26 RX10 (TX10 18).2.1 (TX10 18).2.2.1 ∈ GW := tb_s5 119 rfl rfl
set_option maxRecDepth 100000 in
theorem tw_1080 : Cond.fieldLink RX10 29 RX10 (TX10 19).2.1 (TX10 19).2.2.1 ∈ GW := tb_s5 120 rfl rfl
set_option maxRecDepth 100000 in
theorem tw_1081 : Cond.fieldLink RX10 32 RX10 (TX10 20).2.1 (TX10 20).2.2.1 ∈ GW := tb_s5 121 rfl rfl
set_option maxRecDepth 100000 in
theorem tw_1082 : Cond.fieldLink RX10 35 RX10 (TX10 21).2.1 (TX10 21).2.2.1 ∈ GW := tb_s5 122 rfl rfl
set_option maxRecDepth 100000 in
theorem tw_1083 : Cond.fieldLink RX10 39 RX10 (TX10 22).2.1 (TX10 22).2.2.1 ∈ GW := tb_s5 123 rfl rfl
set_option maxRecDepth 100000 in
theorem tw_1084 : Cond.fieldLink RX10 42 RX10 (TX10 23).2.1 (TX10 23).2.2.1 ∈ GW := tb_s5 124 rfl rfl
set_option maxRecDepth 100000 in
theorem tw_1085 : Cond.fieldLink RX10 45 RX10 (TX10 24).2.1 (TX10 24).2.2.1 ∈ GW := tb_s5 125 rfl rfl
set_option maxRecDepth 100000 in
theorem tw_1086 : Cond.fieldLink RX10 48 RX10 (TX10 25).2.1 (TX10 25).2.2.1 ∈ GW := tb_s5 126 rfl rfl
set_option maxRecDepth 100000 in
theorem tw_1087 : Cond.fieldLink RX10 51 RX10 (TX10 26).2.1 (TX10 26).2.2.1 ∈ GW := tb_s5 127 rfl rfl
set_option maxRecDepth 100000 in
theorem tw_1088 : Cond.fieldLink RX10 169 RX10 (TX10 27).2.1 (TX10 27).2.2.1 ∈ GW := tb_s5 128 rfl rfl
set_option maxRecDepth 100000 in
theorem tw_1089 : Cond.fieldLink RX10 176 RX10 (TX10 28).2.1 (TX10 28).2.2.1 ∈ GW := tb_s5 129 rfl rfl
set_option maxRecDepth 100000 in
theorem tw_1090 : Cond.fieldLink RX10 54 RX10 (TX10 29).2.1 (TX10 29).2.2.1 ∈ GW := tb_s5 130 rfl rfl
set_option maxRecDepth 100000 in
theorem tw_1091 : Cond.fieldLink RX10 179 RX10 (TX10 30).2.1 (TX10 30).2.2.1 ∈ GW := tb_s5 131 rfl rfl
set_option maxRecDepth 100000 in
theorem tw_1092 : Cond.fieldLink RX10 57 RX10 (TX10 31).2.1 (TX10 31).2.2.1 ∈ GW := tb_s5 132 rfl rfl
set_option maxRecDepth 100000 in
theorem tw_1093 : Cond.fieldLink RX10 183 RX10 (TX10 32).2.1 (TX10 32).2.2.1 ∈ GW := tb_s5 133 rfl rfl
set_option maxRecDepth 100000 in
theorem tw_1094 : Cond.fieldLink RX10 60 RX10 (TX10 33).2.1 (TX10 33).2.2.1 ∈ GW := tb_s5 134 rfl rfl
set_option maxRecDepth 100000 in
theorem tw_1095 : Cond.fieldLink RX10 186 RX10 (TX10 34).2.1 (TX10 34).2.2.1 ∈ GW := tb_s5 135 rfl rfl
set_option maxRecDepth 100000 in
theorem tw_1096 : Cond.fieldLink RX10 200 RX10 (TX10 35).2.1 (TX10 35).2.2.1 ∈ GW := tb_s5 136 rfl rfl
set_option maxRecDepth 100000 in
theorem tw_1097 : Cond.fieldLink RX10 214 RX10 (TX10 36).2.1 (TX10 36).2.2.1 ∈ GW := tb_s5 137 rfl rfl
set_option maxRecDepth 100000 in
theorem tw_1098 : Cond.fieldLink RX10 217 RX10 (TX10 37).2.1 (TX10 37).2.2.1 ∈ GW := tb_s5 138 rfl rfl
set_option maxRecDepth 100000 in
theorem tw_1099 : Cond.fieldLink RX10 63 RX10 (TX10 38).2.1 (TX10 38).2.2.1 ∈ GW := tb_s5 139 rfl rfl
set_option maxRecDepth 100000 in
theorem tw_1100 : Cond.fieldLink RX10 67 RX10 (TX10 39).2.1 (TX10 39).2.2.1 ∈ GW := tb_s5 140 rfl rfl
set_option maxRecDepth 100000 in
theorem tw_1101 : Cond.fieldLink RX10 336 RX10 (TX10 40).2.1 (TX10 40).2.2.1 ∈ GW := tb_s5 141 rfl rfl
set_option maxRecDepth 100000 in
theorem tw_1102 : Cond.fieldLink RX10 379 RX10 (TX10 41).2.1 (TX10 41).2.2.1 ∈ GW := tb_s5 142 rfl rfl
set_option maxRecDepth 100000 in
theorem tw_1188 : Cond.arrayClass .boolean ∈ GW := tb_s5 228 rfl rfl
set_option maxRecDepth 100000 in
theorem tw_1189 : Cond.arrayClass .long ∈ GW := tb_s5 229 rfl rfl
set_option maxRecDepth 100000 in
theorem tw_1202 : Cond.methodLink RX10 156 yX10_readText ∈ GW := tb_s6 2 rfl rfl
set_option maxRecDepth 100000 in
theorem tw_1206 : Cond.methodLink RX10 123 yX10_token ∈ GW := tb_s6 6 rfl rfl
set_option maxRecDepth 100000 in
theorem tw_1210 : Cond.methodLink RX10 82 yX10_here ∈ GW := tb_s6 10 rfl rfl
set_option maxRecDepth 100000 in
theorem tw_1214 : Cond.methodLink RX10 92 yX10_isSmall ∈ GW := tb_s6 14 rfl rfl
set_option maxRecDepth 100000 in
theorem tw_1217 : Cond.methodLink RX10 96 yX10_wordHere ∈ GW := tb_s6 17 rfl rfl
set_option maxRecDepth 100000 in
theorem tw_1222 : Cond.methodLink RX10 108 yJ0_length_8abf5 ∈ GW := tb_s6 22 rfl rfl
set_option maxRecDepth 100000 in
theorem tw_1223 : Cond.methodLink RX10 113 yJ0_charAt_5068e ∈ GW := tb_s6 23 rfl rfl
set_option maxRecDepth 100000 in
theorem tw_1224 : Cond.methodLink RX10 102 yX10_isDigit ∈ GW := tb_s6 24 rfl rfl
set_option maxRecDepth 100000 in
theorem tw_1227 : Cond.constant RX10 105 (oI 9999999) ∈ GW := tb_s6 27 rfl rfl
set_option maxRecDepth 100000 in
theorem tw_1228 : Cond.methodLink RX10 153 yX10_readLine ∈ GW := tb_s6 28 rfl rfl
set_option maxRecDepth 100000 in
theorem tw_1232 : Cond.methodLink RX10 126 yX10_wrong ∈ GW := tb_s6 32 rfl rfl
set_option maxRecDepth 100000 in
theorem tw_1236 : Cond.methodLink RX10 144 yX10_readOne ∈ GW := tb_s6 36 rfl rfl
set_option maxRecDepth 100000 in
theorem tw_1240 : Cond.methodLink RX10 130 yX10_goOn ∈ GW := tb_s6 40 rfl rfl
set_option maxRecDepth 100000 in
theorem tw_1244 : Cond.methodLink RX10 136 yX10_numeral ∈ GW := tb_s6 44 rfl rfl
set_option maxRecDepth 100000 in
theorem tw_1248 : Cond.constant RX10 140 (oI 99999) ∈ GW := tb_s6 48 rfl rfl
set_option maxRecDepth 100000 in
theorem tw_1249 : Cond.methodLink RX10 147 yX10_readOther ∈ GW := tb_s6 49 rfl rfl
set_option maxRecDepth 100000 in
theorem tw_1253 : Cond.methodLink RX10 162 yX10_lays ∈ GW := tb_s6 53 rfl rfl
set_option maxRecDepth 100000 in
theorem tw_1257 : Cond.methodLink RX10 165 yX10_puts ∈ GW := tb_s6 57 rfl rfl
set_option maxRecDepth 100000 in
theorem tw_1261 : Cond.methodLink RX10 172 yX10_begins ∈ GW := tb_s6 61 rfl rfl
set_option maxRecDepth 100000 in
theorem tw_1265 : Cond.methodLink RX10 189 yX10_looks ∈ GW := tb_s6 65 rfl rfl
set_option maxRecDepth 100000 in
theorem tw_1269 : Cond.methodLink RX10 247 yX10_isPassed ∈ GW := tb_s6 69 rfl rfl
set_option maxRecDepth 100000 in
theorem tw_1273 : Cond.methodLink RX10 244 yX10_worstOf ∈ GW := tb_s6 73 rfl rfl
set_option maxRecDepth 100000 in
theorem tw_1277 : Cond.methodLink RX10 237 yX10_ofTreaty ∈ GW := tb_s6 77 rfl rfl
set_option maxRecDepth 100000 in
theorem tw_1281 : Cond.methodLink RX10 196 yX10_ofPerils ∈ GW := tb_s6 81 rfl rfl
set_option maxRecDepth 100000 in
theorem tw_1285 : Cond.methodLink RX10 192 yX10_has ∈ GW := tb_s6 85 rfl rfl
set_option maxRecDepth 100000 in
theorem tw_1288 : Cond.methodLink RX10 240 yX10_weighs ∈ GW := tb_s6 88 rfl rfl
set_option maxRecDepth 100000 in
theorem tw_1292 : Cond.constant RX10 220 (oI 2147483647) ∈ GW := tb_s6 92 rfl rfl
set_option maxRecDepth 100000 in
theorem tw_1293 : Cond.methodLink RX10 221 yX10_around ∈ GW := tb_s6 93 rfl rfl
set_option maxRecDepth 100000 in
theorem tw_1297 : Cond.methodLink RX10 203 yX10_distance ∈ GW := tb_s6 97 rfl rfl
set_option maxRecDepth 100000 in
theorem tw_1301 : Cond.methodLink RX10 225 yX10_offers ∈ GW := tb_s6 101 rfl rfl
set_option maxRecDepth 100000 in
theorem tw_1305 : Cond.methodLink RX10 229 yX10_canBeRim ∈ GW := tb_s6 105 rfl rfl
set_option maxRecDepth 100000 in
theorem tw_1309 : Cond.methodLink RX10 233 yX10_onRim ∈ GW := tb_s6 109 rfl rfl
set_option maxRecDepth 100000 in
theorem tw_1313 : Cond.methodLink RX10 210 yX10_isIn ∈ GW := tb_s6 113 rfl rfl
set_option maxRecDepth 100000 in
theorem tw_1317 : Cond.constantLong RX10 206 (oL 2) ∈ GW := tb_s6 117 rfl rfl
set_option maxRecDepth 100000 in
theorem tw_1318 : Cond.constantLong RX10 208 (oL 4) ∈ GW := tb_s6 118 rfl rfl
set_option maxRecDepth 100000 in
theorem tw_1319 : Cond.methodLink RX10 250 yX10_notes ∈ GW := tb_s6 119 rfl rfl
set_option maxRecDepth 100000 in
theorem tw_1330 : Cond.methodLink RX10 254 yX10_isPlace ∈ GW := tb_s6 130 rfl rfl
set_option maxRecDepth 100000 in
theorem tw_1333 : Cond.methodLink RX10 257 yX10_isSum ∈ GW := tb_s6 133 rfl rfl
set_option maxRecDepth 100000 in
theorem tw_1336 : Cond.methodLink RX10 260 yX10_isPeril ∈ GW := tb_s6 136 rfl rfl
set_option maxRecDepth 100000 in
theorem tw_1339 : Cond.methodLink RX10 263 yX10_acted ∈ GW := tb_s6 139 rfl rfl
set_option maxRecDepth 100000 in
theorem tw_1347 : Cond.methodLink RX10 266 yX10_isPolicy ∈ GW := tb_s6 147 rfl rfl
set_option maxRecDepth 100000 in
theorem tw_1363 : Cond.methodLink RX10 269 yX10_arePerils ∈ GW := tb_s6 163 rfl rfl
set_option maxRecDepth 100000 in
theorem tw_1366 : Cond.methodLink RX10 272 yX10_isRadius ∈ GW := tb_s6 166 rfl rfl
set_option maxRecDepth 100000 in
theorem tw_1373 : Cond.methodLink RX10 275 yX10_isTreaty ∈ GW := tb_s6 173 rfl rfl
set_option maxRecDepth 100000 in
theorem tw_1381 : Cond.methodLink RX10 278 yX10_atPlaceOf ∈ GW := tb_s6 181 rfl rfl
set_option maxRecDepth 100000 in
theorem tw_1389 : Cond.methodLink RX10 281 yX10_bits ∈ GW := tb_s6 189 rfl rfl
set_option maxRecDepth 100000 in
theorem tw_1392 : Cond.methodLink RX10 284 yX10_sumOf ∈ GW := tb_s6 192 rfl rfl
set_option maxRecDepth 100000 in
theorem tw_1400 : Cond.constant RX10 287 (oI (-2147483648)) ∈ GW := tb_s6 200 rfl rfl
set_option maxRecDepth 100000 in
theorem tw_1409 : Cond.methodLink RX10 288 yX10_boundOf ∈ GW := tb_s6 209 rfl rfl
set_option maxRecDepth 100000 in
theorem tw_1421 : Cond.constantLong RX10 320 (oL (-1)) ∈ GW := tb_s6 221 rfl rfl
set_option maxRecDepth 100000 in
theorem tw_1422 : Cond.constantLong RX10 322 (oL (-2)) ∈ GW := tb_s6 222 rfl rfl
set_option maxRecDepth 100000 in
theorem tw_1423 : Cond.methodLink RX10 324 yX10_isOnePlace ∈ GW := tb_s6 223 rfl rfl
set_option maxRecDepth 100000 in
theorem tw_1427 : Cond.methodLink RX10 317 yX10_lowest ∈ GW := tb_s6 227 rfl rfl
set_option maxRecDepth 100000 in
theorem tw_1430 : Cond.methodLink RX10 307 yX10_isRing ∈ GW := tb_s6 230 rfl rfl
set_option maxRecDepth 100000 in
theorem tw_1434 : Cond.methodLink RX10 300 yX10_common ∈ GW := tb_s6 234 rfl rfl
set_option maxRecDepth 100000 in
theorem tw_1437 : Cond.methodLink RX10 327 yX10_isTwo ∈ GW := tb_s6 237 rfl rfl
set_option maxRecDepth 100000 in
theorem tw_1441 : Cond.methodLink RX10 304 yX10_isWidth ∈ GW := tb_s7 1 rfl rfl
set_option maxRecDepth 100000 in
theorem tw_1445 : Cond.methodLink RX10 330 yX10_isThree ∈ GW := tb_s7 5 rfl rfl
set_option maxRecDepth 100000 in
theorem tw_1449 : Cond.methodLink RX10 311 yX10_isSharp ∈ GW := tb_s7 9 rfl rfl
set_option maxRecDepth 100000 in
theorem tw_1453 : Cond.methodLink RX10 292 yX10_turn ∈ GW := tb_s7 13 rfl rfl
set_option maxRecDepth 100000 in
theorem tw_1457 : Cond.methodLink RX10 314 yX10_isCircle ∈ GW := tb_s7 17 rfl rfl
set_option maxRecDepth 100000 in
theorem tw_1461 : Cond.methodLink RX10 296 yX10_isWithin ∈ GW := tb_s7 21 rfl rfl
set_option maxRecDepth 100000 in
theorem tw_1477 : Cond.methodLink RX10 333 yX10_chainOf ∈ GW := tb_s7 37 rfl rfl
set_option maxRecDepth 100000 in
theorem tw_1485 : Cond.methodLink RX10 342 yX10_findsDiscs ∈ GW := tb_s7 45 rfl rfl
set_option maxRecDepth 100000 in
theorem tw_1489 : Cond.methodLink RX10 339 yX10_adds ∈ GW := tb_s7 49 rfl rfl
set_option maxRecDepth 100000 in
theorem tw_1497 : Cond.methodLink RX10 345 yX10_isCovered ∈ GW := tb_s7 57 rfl rfl
set_option maxRecDepth 100000 in
theorem tw_1505 : Cond.methodLink RX10 348 yX10_squareAt ∈ GW := tb_s7 65 rfl rfl
set_option maxRecDepth 100000 in
theorem tw_1541 : Cond.constant RX10 351 (oI 16777216) ∈ GW := tb_s7 101 rfl rfl
set_option maxRecDepth 100000 in
theorem tw_1546 : Cond.methodLink RX10 352 yX10_withPlace ∈ GW := tb_s7 106 rfl rfl
set_option maxRecDepth 100000 in
theorem tw_1554 : Cond.methodLink RX10 355 yX10_roomAt ∈ GW := tb_s7 114 rfl rfl
set_option maxRecDepth 100000 in
theorem tw_1570 : Cond.methodLink RX10 358 yX10_isPassedBy ∈ GW := tb_s7 130 rfl rfl
set_option maxRecDepth 100000 in
theorem tw_1574 : Cond.methodLink RX10 361 yX10_greatestOf ∈ GW := tb_s7 134 rfl rfl
set_option maxRecDepth 100000 in
theorem tw_1578 : Cond.methodLink RX10 364 yX10_isByOneMore ∈ GW := tb_s7 138 rfl rfl
set_option maxRecDepth 100000 in
theorem tw_1594 : Cond.methodLink RX10 367 yX10_onWay ∈ GW := tb_s7 154 rfl rfl
set_option maxRecDepth 100000 in
theorem tw_1601 : Cond.methodLink RX10 370 yX10_allHit ∈ GW := tb_s7 161 rfl rfl
set_option maxRecDepth 100000 in
theorem tw_1605 : Cond.methodLink RX10 376 yX10_hitAt ∈ GW := tb_s7 165 rfl rfl
set_option maxRecDepth 100000 in
theorem tw_1609 : Cond.methodLink RX10 373 yX10_aboutPlace ∈ GW := tb_s7 169 rfl rfl
set_option maxRecDepth 100000 in
theorem tw_1625 : Cond.methodLink RX10 391 yX10_draws ∈ GW := tb_s7 185 rfl rfl
set_option maxRecDepth 100000 in
theorem tw_1629 : Cond.constantLong RX10 383 (oL 1103515245) ∈ GW := tb_s7 189 rfl rfl
set_option maxRecDepth 100000 in
theorem tw_1630 : Cond.constantLong RX10 385 (oL 12345) ∈ GW := tb_s7 190 rfl rfl
set_option maxRecDepth 100000 in
theorem tw_1631 : Cond.constantLong RX10 387 (oL 2147483648) ∈ GW := tb_s7 191 rfl rfl
set_option maxRecDepth 100000 in
theorem tw_1632 : Cond.constantLong RX10 389 (oL 65536) ∈ GW := tb_s7 192 rfl rfl
set_option maxRecDepth 100000 in
theorem tw_1637 : Cond.methodLink RX10 394 yX10_passedOnes ∈ GW := tb_s7 197 rfl rfl
set_option maxRecDepth 100000 in
theorem tw_1641 : Cond.methodLink RX10 397 yX10_unlikePlaces ∈ GW := tb_s7 201 rfl rfl
set_option maxRecDepth 100000 in
theorem tw_1661 : Cond.fieldLink RJ0 9 "java/lang/String" "value" "[B" ∈ GW := tb_s7 221 rfl rfl
set_option maxRecDepth 100000 in
theorem tw_1662 : Cond.fieldLink RJ0 15 "java/lang/String" "coder" "B" ∈ GW := tb_s7 222 rfl rfl
theorem nw_92 {G : Gd} {s : State} (N : Ns G s) : va_Nw (.fieldLinkNest RX2 44 RX0 (TX0 0).2.1 (TX0 0).2.2.1 "RiskDesk") s := N.2.1 _ (List.mem_of_getElem? (i := 0) rfl)
theorem nw_94 {G : Gd} {s : State} (N : Ns G s) : va_Nw (.fieldLinkNest RX2 49 RX0 (TX0 1).2.1 (TX0 1).2.2.1 "RiskDesk") s := N.2.1 _ (List.mem_of_getElem? (i := 1) rfl)
theorem nw_450 {G : Gd} {s : State} (N : Ns G s) : va_Nw (.methodLinkNest RX0 37 yX9_isNumber "RiskDesk") s := N.1 _ (List.mem_of_getElem? (i := 4) rfl)
theorem nw_461 {G : Gd} {s : State} (N : Ns G s) : va_Nw (.methodLinkNest RX0 41 yX9_contains "RiskDesk") s := N.1 _ (List.mem_of_getElem? (i := 5) rfl)
theorem nw_485 {G : Gd} {s : State} (N : Ns G s) : va_Nw (.methodLinkNest RX2 32 yX9_contains "RiskDesk") s := N.1 _ (List.mem_of_getElem? (i := 6) rfl)
theorem nw_490 {G : Gd} {s : State} (N : Ns G s) : va_Nw (.methodLinkNest RX2 40 yX9_isNumber "RiskDesk") s := N.1 _ (List.mem_of_getElem? (i := 7) rfl)
theorem nw_503 {G : Gd} {s : State} (N : Ns G s) : va_Nw (.methodLinkNest RX2 74 yX9_sides "RiskDesk") s := N.1 _ (List.mem_of_getElem? (i := 8) rfl)
theorem nw_571 {G : Gd} {s : State} (N : Ns G s) : va_Nw (.methodLinkNest RX8 40 yX9_contains "RiskDesk") s := N.1 _ (List.mem_of_getElem? (i := 9) rfl)
theorem nw_697 {G : Gd} {s : State} (N : Ns G s) : va_Nw (.methodLinkNest RX1 36 yX9_contains "RiskDesk") s := N.1 _ (List.mem_of_getElem? (i := 10) rfl)
theorem nw_876 {G : Gd} {s : State} (N : Ns G s) : va_Nw (.methodLinkNest RX3 41 yX9_contains "RiskDesk") s := N.1 _ (List.mem_of_getElem? (i := 11) rfl)
theorem nw_917 {G : Gd} {s : State} (N : Ns G s) : va_Nw (.methodLinkNest RX7 19 yX9_onWay "RiskDesk") s := N.1 _ (List.mem_of_getElem? (i := 12) rfl)
set_option maxRecDepth 100000 in
theorem mi_J0_charAt_5068e : MI yJ0_charAt_5068e cJ0_charAt_5068e 2 (some .char) 1 := ⟨tb_s2 124 rfl rfl, tb_s1 12 rfl rfl, by decide +kernel, by decide +kernel, by decide +kernel⟩
set_option maxRecDepth 100000 in
theorem mv_J0_charAt_5068e : MV yJ0_charAt_5068e := ⟨tb_s2 122 rfl rfl, tb_s2 123 rfl rfl⟩
set_option maxRecDepth 100000 in
theorem mi_J0_checkIndex_df160 : MI yJ0_checkIndex_df160 cJ0_checkIndex_df160 2 none 2 := ⟨tb_s2 134 rfl rfl, tb_s1 12 rfl rfl, by decide +kernel, by decide +kernel, by decide +kernel⟩
set_option maxRecDepth 100000 in
theorem ms_J0_checkIndex_df160 : Cond.static yJ0_checkIndex_df160 ∈ GW := tb_s2 133 rfl rfl
set_option maxRecDepth 100000 in
theorem mi_J0_coder_7d493 : MI yJ0_coder_7d493 cJ0_coder_7d493 1 (some .byte) 0 := ⟨tb_s2 118 rfl rfl, tb_s1 12 rfl rfl, by decide +kernel, by decide +kernel, by decide +kernel⟩
set_option maxRecDepth 100000 in
theorem mv_J0_coder_7d493 : MV yJ0_coder_7d493 := ⟨tb_s2 116 rfl rfl, tb_s2 117 rfl rfl⟩
set_option maxRecDepth 100000 in
theorem mi_J0_isLatin1_aae02 : MI yJ0_isLatin1_aae02 cJ0_isLatin1_aae02 1 (some .boolean) 0 := ⟨tb_s2 128 rfl rfl, tb_s1 12 rfl rfl, by decide +kernel, by decide +kernel, by decide +kernel⟩
set_option maxRecDepth 100000 in
theorem mv_J0_isLatin1_aae02 : MV yJ0_isLatin1_aae02 := ⟨tb_s2 126 rfl rfl, tb_s2 127 rfl rfl⟩
set_option maxRecDepth 100000 in
theorem mi_J0_length_8abf5 : MI yJ0_length_8abf5 cJ0_length_8abf5 1 (some .int) 0 := ⟨tb_s2 114 rfl rfl, tb_s1 12 rfl rfl, by decide +kernel, by decide +kernel, by decide +kernel⟩
set_option maxRecDepth 100000 in
theorem mv_J0_length_8abf5 : MV yJ0_length_8abf5 := ⟨tb_s2 112 rfl rfl, tb_s2 113 rfl rfl⟩
set_option maxRecDepth 100000 in
theorem mi_J1_charAt_3b067 : MI yJ1_charAt_3b067 cJ1_charAt_3b067 2 (some .char) 2 := ⟨tb_s2 131 rfl rfl, tb_s1 13 rfl rfl, by decide +kernel, by decide +kernel, by decide +kernel⟩
set_option maxRecDepth 100000 in
theorem ms_J1_charAt_3b067 : Cond.static yJ1_charAt_3b067 ∈ GW := tb_s2 130 rfl rfl
set_option maxRecDepth 100000 in
theorem mi_J3_checkIndex_8e157 : MI yJ3_checkIndex_8e157 cJ3_checkIndex_8e157 3 (some .int) 3 := ⟨tb_s2 139 rfl rfl, tb_s1 14 rfl rfl, by decide +kernel, by decide +kernel, by decide +kernel⟩
set_option maxRecDepth 100000 in
theorem ms_J3_checkIndex_8e157 : Cond.static yJ3_checkIndex_8e157 ∈ GW := tb_s2 138 rfl rfl
set_option maxRecDepth 100000 in
theorem mi_J6_bitCount_0f7a4 : MI yJ6_bitCount_0f7a4 cJ6_bitCount_0f7a4 1 (some .int) 1 := ⟨tb_s3 168 rfl rfl, tb_s1 22 rfl rfl, by decide +kernel, by decide +kernel, by decide +kernel⟩
set_option maxRecDepth 100000 in
theorem ms_J6_bitCount_0f7a4 : Cond.static yJ6_bitCount_0f7a4 ∈ GW := tb_s3 167 rfl rfl
set_option maxRecDepth 100000 in
theorem mi_J7_fill_53178 : MI yJ7_fill_53178 cJ7_fill_53178 4 none 2 := ⟨tb_s2 201 rfl rfl, tb_s1 17 rfl rfl, by decide +kernel, by decide +kernel, by decide +kernel⟩
set_option maxRecDepth 100000 in
theorem ms_J7_fill_53178 : Cond.static yJ7_fill_53178 ∈ GW := tb_s2 200 rfl rfl
set_option maxRecDepth 100000 in
theorem mi_J9_floorDiv_7cf53 : MI yJ9_floorDiv_7cf53 cJ9_floorDiv_7cf53 3 (some .int) 2 := ⟨tb_s4 92 rfl rfl, tb_s1 16 rfl rfl, by decide +kernel, by decide +kernel, by decide +kernel⟩
set_option maxRecDepth 100000 in
theorem ms_J9_floorDiv_7cf53 : Cond.static yJ9_floorDiv_7cf53 ∈ GW := tb_s4 91 rfl rfl
set_option maxRecDepth 100000 in
theorem mi_X0_apart : MI yX0_apart cX0_apart 6 (some .int) 3 := ⟨tb_s3 112 rfl rfl, tb_s1 4 rfl rfl, by decide +kernel, by decide +kernel, by decide +kernel⟩
set_option maxRecDepth 100000 in
theorem mv_X0_apart : MV yX0_apart := ⟨tb_s3 110 rfl rfl, tb_s3 111 rfl rfl⟩
set_option maxRecDepth 100000 in
theorem mi_X0_between : MI yX0_between cX0_between 3 (some .int) 2 := ⟨tb_s3 201 rfl rfl, tb_s1 4 rfl rfl, by decide +kernel, by decide +kernel, by decide +kernel⟩
set_option maxRecDepth 100000 in
theorem mv_X0_between : MV yX0_between := ⟨tb_s3 199 rfl rfl, tb_s3 200 rfl rfl⟩
set_option maxRecDepth 100000 in
theorem mi_X0_clear : MI yX0_clear cX0_clear 1 none 0 := ⟨tb_s2 198 rfl rfl, tb_s1 4 rfl rfl, by decide +kernel, by decide +kernel, by decide +kernel⟩
set_option maxRecDepth 100000 in
theorem mv_X0_clear : MV yX0_clear := ⟨tb_s2 196 rfl rfl, tb_s2 197 rfl rfl⟩
set_option maxRecDepth 100000 in
theorem mi_X0_drop : MI yX0_drop cX0_drop 2 none 1 := ⟨tb_s3 146 rfl rfl, tb_s1 4 rfl rfl, by decide +kernel, by decide +kernel, by decide +kernel⟩
set_option maxRecDepth 100000 in
theorem mv_X0_drop : MV yX0_drop := ⟨tb_s3 144 rfl rfl, tb_s3 145 rfl rfl⟩
set_option maxRecDepth 100000 in
theorem mi_X0_enter : MI yX0_enter cX0_enter 6 none 5 := ⟨tb_s2 209 rfl rfl, tb_s1 4 rfl rfl, by decide +kernel, by decide +kernel, by decide +kernel⟩
set_option maxRecDepth 100000 in
theorem mv_X0_enter : MV yX0_enter := ⟨tb_s2 207 rfl rfl, tb_s2 208 rfl rfl⟩
set_option maxRecDepth 100000 in
theorem mi_X0_has : MI yX0_has cX0_has 2 (some .boolean) 1 := ⟨tb_s3 104 rfl rfl, tb_s1 4 rfl rfl, by decide +kernel, by decide +kernel, by decide +kernel⟩
set_option maxRecDepth 100000 in
theorem mv_X0_has : MV yX0_has := ⟨tb_s3 102 rfl rfl, tb_s3 103 rfl rfl⟩
set_option maxRecDepth 100000 in
theorem mi_X0_inSquare : MI yX0_inSquare cX0_inSquare 8 (some .int) 3 := ⟨tb_s4 168 rfl rfl, tb_s1 4 rfl rfl, by decide +kernel, by decide +kernel, by decide +kernel⟩
set_option maxRecDepth 100000 in
theorem mv_X0_inSquare : MV yX0_inSquare := ⟨tb_s4 166 rfl rfl, tb_s4 167 rfl rfl⟩
set_option maxRecDepth 100000 in
theorem mi_X0_leastFree : MI yX0_leastFree cX0_leastFree 2 (some .int) 0 := ⟨tb_s3 82 rfl rfl, tb_s1 4 rfl rfl, by decide +kernel, by decide +kernel, by decide +kernel⟩
set_option maxRecDepth 100000 in
theorem mv_X0_leastFree : MV yX0_leastFree := ⟨tb_s3 80 rfl rfl, tb_s3 81 rfl rfl⟩
set_option maxRecDepth 100000 in
theorem mi_X0_ofPerils : MI yX0_ofPerils cX0_ofPerils 4 (some .int) 1 := ⟨tb_s2 239 rfl rfl, tb_s1 4 rfl rfl, by decide +kernel, by decide +kernel, by decide +kernel⟩
set_option maxRecDepth 100000 in
theorem mv_X0_ofPerils : MV yX0_ofPerils := ⟨tb_s2 237 rfl rfl, tb_s2 238 rfl rfl⟩
set_option maxRecDepth 100000 in
theorem mi_X0_perilOf : MI yX0_perilOf cX0_perilOf 2 (some .int) 1 := ⟨tb_s3 108 rfl rfl, tb_s1 4 rfl rfl, by decide +kernel, by decide +kernel, by decide +kernel⟩
set_option maxRecDepth 100000 in
theorem mv_X0_perilOf : MV yX0_perilOf := ⟨tb_s3 106 rfl rfl, tb_s3 107 rfl rfl⟩
set_option maxRecDepth 100000 in
theorem mi_X0_shift : MI yX0_shift cX0_shift 4 none 3 := ⟨tb_s2 216 rfl rfl, tb_s1 4 rfl rfl, by decide +kernel, by decide +kernel, by decide +kernel⟩
set_option maxRecDepth 100000 in
theorem mv_X0_shift : MV yX0_shift := ⟨tb_s2 214 rfl rfl, tb_s2 215 rfl rfl⟩
set_option maxRecDepth 100000 in
theorem mi_X0_sumOf : MI yX0_sumOf cX0_sumOf 2 (some .int) 1 := ⟨tb_s3 137 rfl rfl, tb_s1 4 rfl rfl, by decide +kernel, by decide +kernel, by decide +kernel⟩
set_option maxRecDepth 100000 in
theorem mv_X0_sumOf : MV yX0_sumOf := ⟨tb_s3 135 rfl rfl, tb_s3 136 rfl rfl⟩
set_option maxRecDepth 100000 in
theorem mi_X0_sums : MI yX0_sums cX0_sums 5 (some .int) 1 := ⟨tb_s3 42 rfl rfl, tb_s1 4 rfl rfl, by decide +kernel, by decide +kernel, by decide +kernel⟩
set_option maxRecDepth 100000 in
theorem mv_X0_sums : MV yX0_sums := ⟨tb_s3 40 rfl rfl, tb_s3 41 rfl rfl⟩
set_option maxRecDepth 100000 in
theorem mi_X0_unlikePlaces : MI yX0_unlikePlaces cX0_unlikePlaces 3 (some .int) 0 := ⟨tb_s5 7 rfl rfl, tb_s1 4 rfl rfl, by decide +kernel, by decide +kernel, by decide +kernel⟩
set_option maxRecDepth 100000 in
theorem mv_X0_unlikePlaces : MV yX0_unlikePlaces := ⟨tb_s5 5 rfl rfl, tb_s5 6 rfl rfl⟩
set_option maxRecDepth 100000 in
theorem mi_X0_weigh : MI yX0_weigh cX0_weigh 6 none 2 := ⟨tb_s2 220 rfl rfl, tb_s1 4 rfl rfl, by decide +kernel, by decide +kernel, by decide +kernel⟩
set_option maxRecDepth 100000 in
theorem mv_X0_weigh : MV yX0_weigh := ⟨tb_s2 218 rfl rfl, tb_s2 219 rfl rfl⟩
set_option maxRecDepth 100000 in
theorem mi_X0_within : MI yX0_within cX0_within 8 (some .int) 3 := ⟨tb_s3 14 rfl rfl, tb_s1 4 rfl rfl, by decide +kernel, by decide +kernel, by decide +kernel⟩
set_option maxRecDepth 100000 in
theorem mv_X0_within : MV yX0_within := ⟨tb_s3 12 rfl rfl, tb_s3 13 rfl rfl⟩
set_option maxRecDepth 100000 in
theorem mi_X0_xOf : MI yX0_xOf cX0_xOf 2 (some .int) 1 := ⟨tb_s3 116 rfl rfl, tb_s1 4 rfl rfl, by decide +kernel, by decide +kernel, by decide +kernel⟩
set_option maxRecDepth 100000 in
theorem mv_X0_xOf : MV yX0_xOf := ⟨tb_s3 114 rfl rfl, tb_s3 115 rfl rfl⟩
set_option maxRecDepth 100000 in
theorem mi_X0_yOf : MI yX0_yOf cX0_yOf 2 (some .int) 1 := ⟨tb_s3 120 rfl rfl, tb_s1 4 rfl rfl, by decide +kernel, by decide +kernel, by decide +kernel⟩
set_option maxRecDepth 100000 in
theorem mv_X0_yOf : MV yX0_yOf := ⟨tb_s3 118 rfl rfl, tb_s3 119 rfl rfl⟩
set_option maxRecDepth 100000 in
theorem mi_X10_aboutPlace : MI yX10_aboutPlace cX10_aboutPlace 4 (some .int) 3 := ⟨tb_s7 172 rfl rfl, tb_s1 11 rfl rfl, by decide +kernel, by decide +kernel, by decide +kernel⟩
set_option maxRecDepth 100000 in
theorem mv_X10_aboutPlace : MV yX10_aboutPlace := ⟨tb_s7 171 rfl rfl, tb_p 88 rfl rfl⟩
set_option maxRecDepth 100000 in
theorem mi_X10_acted : MI yX10_acted cX10_acted 4 none 3 := ⟨tb_s6 142 rfl rfl, tb_s1 11 rfl rfl, by decide +kernel, by decide +kernel, by decide +kernel⟩
set_option maxRecDepth 100000 in
theorem mv_X10_acted : MV yX10_acted := ⟨tb_s6 141 rfl rfl, tb_p 61 rfl rfl⟩
set_option maxRecDepth 100000 in
theorem mi_X10_adds : MI yX10_adds cX10_adds 3 none 1 := ⟨tb_s7 52 rfl rfl, tb_s1 11 rfl rfl, by decide +kernel, by decide +kernel, by decide +kernel⟩
set_option maxRecDepth 100000 in
theorem mv_X10_adds : MV yX10_adds := ⟨tb_s7 51 rfl rfl, tb_p 78 rfl rfl⟩
set_option maxRecDepth 100000 in
theorem mi_X10_allHit : MI yX10_allHit cX10_allHit 3 (some .int) 0 := ⟨tb_s7 164 rfl rfl, tb_s1 11 rfl rfl, by decide +kernel, by decide +kernel, by decide +kernel⟩
set_option maxRecDepth 100000 in
theorem mv_X10_allHit : MV yX10_allHit := ⟨tb_s7 163 rfl rfl, tb_p 86 rfl rfl⟩
set_option maxRecDepth 100000 in
theorem mi_X10_arePerils : MI yX10_arePerils cX10_arePerils 1 (some .boolean) 1 := ⟨tb_s6 165 rfl rfl, tb_s1 11 rfl rfl, by decide +kernel, by decide +kernel, by decide +kernel⟩
set_option maxRecDepth 100000 in
theorem ms_X10_arePerils : Cond.static yX10_arePerils ∈ GW := tb_s6 164 rfl rfl
set_option maxRecDepth 100000 in
theorem mi_X10_around : MI yX10_around cX10_around 6 (some .int) 3 := ⟨tb_s6 96 rfl rfl, tb_s1 11 rfl rfl, by decide +kernel, by decide +kernel, by decide +kernel⟩
set_option maxRecDepth 100000 in
theorem mv_X10_around : MV yX10_around := ⟨tb_s6 95 rfl rfl, tb_p 55 rfl rfl⟩
set_option maxRecDepth 100000 in
theorem mi_X10_atPlaceOf : MI yX10_atPlaceOf cX10_atPlaceOf 4 (some .int) 1 := ⟨tb_s6 184 rfl rfl, tb_s1 11 rfl rfl, by decide +kernel, by decide +kernel, by decide +kernel⟩
set_option maxRecDepth 100000 in
theorem mv_X10_atPlaceOf : MV yX10_atPlaceOf := ⟨tb_s6 183 rfl rfl, tb_p 64 rfl rfl⟩
set_option maxRecDepth 100000 in
theorem mi_X10_begins : MI yX10_begins cX10_begins 5 none 4 := ⟨tb_s6 64 rfl rfl, tb_s1 11 rfl rfl, by decide +kernel, by decide +kernel, by decide +kernel⟩
set_option maxRecDepth 100000 in
theorem mv_X10_begins : MV yX10_begins := ⟨tb_s6 63 rfl rfl, tb_p 48 rfl rfl⟩
set_option maxRecDepth 100000 in
theorem mi_X10_bits : MI yX10_bits cX10_bits 3 (some .int) 1 := ⟨tb_s6 191 rfl rfl, tb_s1 11 rfl rfl, by decide +kernel, by decide +kernel, by decide +kernel⟩
set_option maxRecDepth 100000 in
theorem ms_X10_bits : Cond.static yX10_bits ∈ GW := tb_s6 190 rfl rfl
set_option maxRecDepth 100000 in
theorem mi_X10_boundOf : MI yX10_boundOf cX10_boundOf 8 (some .int) 4 := ⟨tb_s6 212 rfl rfl, tb_s1 11 rfl rfl, by decide +kernel, by decide +kernel, by decide +kernel⟩
set_option maxRecDepth 100000 in
theorem mv_X10_boundOf : MV yX10_boundOf := ⟨tb_s6 211 rfl rfl, tb_p 66 rfl rfl⟩
set_option maxRecDepth 100000 in
theorem mi_X10_canBeRim : MI yX10_canBeRim cX10_canBeRim 5 (some .boolean) 3 := ⟨tb_s6 108 rfl rfl, tb_s1 11 rfl rfl, by decide +kernel, by decide +kernel, by decide +kernel⟩
set_option maxRecDepth 100000 in
theorem mv_X10_canBeRim : MV yX10_canBeRim := ⟨tb_s6 107 rfl rfl, tb_p 58 rfl rfl⟩
set_option maxRecDepth 100000 in
theorem mi_X10_chainOf : MI yX10_chainOf cX10_chainOf 7 (some .int) 3 := ⟨tb_s7 40 rfl rfl, tb_s1 11 rfl rfl, by decide +kernel, by decide +kernel, by decide +kernel⟩
set_option maxRecDepth 100000 in
theorem mv_X10_chainOf : MV yX10_chainOf := ⟨tb_s7 39 rfl rfl, tb_p 76 rfl rfl⟩
set_option maxRecDepth 100000 in
theorem mi_X10_common : MI yX10_common cX10_common 10 (some .long) 2 := ⟨tb_s6 236 rfl rfl, tb_s1 11 rfl rfl, by decide +kernel, by decide +kernel, by decide +kernel⟩
set_option maxRecDepth 100000 in
theorem ms_X10_common : Cond.static yX10_common ∈ GW := tb_s6 235 rfl rfl
set_option maxRecDepth 100000 in
theorem mi_X10_distance : MI yX10_distance cX10_distance 3 (some .int) 2 := ⟨tb_s6 100 rfl rfl, tb_s1 11 rfl rfl, by decide +kernel, by decide +kernel, by decide +kernel⟩
set_option maxRecDepth 100000 in
theorem mv_X10_distance : MV yX10_distance := ⟨tb_s6 99 rfl rfl, tb_p 56 rfl rfl⟩
set_option maxRecDepth 100000 in
theorem mi_X10_draws : MI yX10_draws cX10_draws 2 (some .int) 1 := ⟨tb_s7 188 rfl rfl, tb_s1 11 rfl rfl, by decide +kernel, by decide +kernel, by decide +kernel⟩
set_option maxRecDepth 100000 in
theorem mv_X10_draws : MV yX10_draws := ⟨tb_s7 187 rfl rfl, tb_p 89 rfl rfl⟩
set_option maxRecDepth 100000 in
theorem mi_X10_findsDiscs : MI yX10_findsDiscs cX10_findsDiscs 5 none 2 := ⟨tb_s7 48 rfl rfl, tb_s1 11 rfl rfl, by decide +kernel, by decide +kernel, by decide +kernel⟩
set_option maxRecDepth 100000 in
theorem mv_X10_findsDiscs : MV yX10_findsDiscs := ⟨tb_s7 47 rfl rfl, tb_p 77 rfl rfl⟩
set_option maxRecDepth 100000 in
theorem mi_X10_goOn : MI yX10_goOn cX10_goOn 1 none 0 := ⟨tb_s6 43 rfl rfl, tb_s1 11 rfl rfl, by decide +kernel, by decide +kernel, by decide +kernel⟩
set_option maxRecDepth 100000 in
theorem mv_X10_goOn : MV yX10_goOn := ⟨tb_s6 42 rfl rfl, tb_p 43 rfl rfl⟩
set_option maxRecDepth 100000 in
theorem mi_X10_greatestOf : MI yX10_greatestOf cX10_greatestOf 5 (some .int) 2 := ⟨tb_s7 137 rfl rfl, tb_s1 11 rfl rfl, by decide +kernel, by decide +kernel, by decide +kernel⟩
set_option maxRecDepth 100000 in
theorem mv_X10_greatestOf : MV yX10_greatestOf := ⟨tb_s7 136 rfl rfl, tb_p 84 rfl rfl⟩
set_option maxRecDepth 100000 in
theorem mi_X10_has : MI yX10_has cX10_has 2 (some .boolean) 2 := ⟨tb_s6 87 rfl rfl, tb_s1 11 rfl rfl, by decide +kernel, by decide +kernel, by decide +kernel⟩
set_option maxRecDepth 100000 in
theorem ms_X10_has : Cond.static yX10_has ∈ GW := tb_s6 86 rfl rfl
set_option maxRecDepth 100000 in
theorem mi_X10_here : MI yX10_here cX10_here 1 (some .int) 0 := ⟨tb_s6 13 rfl rfl, tb_s1 11 rfl rfl, by decide +kernel, by decide +kernel, by decide +kernel⟩
set_option maxRecDepth 100000 in
theorem mv_X10_here : MV yX10_here := ⟨tb_s6 12 rfl rfl, tb_p 38 rfl rfl⟩
set_option maxRecDepth 100000 in
theorem mi_X10_hitAt : MI yX10_hitAt cX10_hitAt 2 (some .int) 1 := ⟨tb_s7 168 rfl rfl, tb_s1 11 rfl rfl, by decide +kernel, by decide +kernel, by decide +kernel⟩
set_option maxRecDepth 100000 in
theorem mv_X10_hitAt : MV yX10_hitAt := ⟨tb_s7 167 rfl rfl, tb_p 87 rfl rfl⟩
set_option maxRecDepth 100000 in
theorem mi_X10_isByOneMore : MI yX10_isByOneMore cX10_isByOneMore 5 (some .boolean) 2 := ⟨tb_s7 141 rfl rfl, tb_s1 11 rfl rfl, by decide +kernel, by decide +kernel, by decide +kernel⟩
set_option maxRecDepth 100000 in
theorem mv_X10_isByOneMore : MV yX10_isByOneMore := ⟨tb_s7 140 rfl rfl, tb_p 85 rfl rfl⟩
set_option maxRecDepth 100000 in
theorem mi_X10_isCircle : MI yX10_isCircle cX10_isCircle 6 (some .boolean) 4 := ⟨tb_s7 20 rfl rfl, tb_s1 11 rfl rfl, by decide +kernel, by decide +kernel, by decide +kernel⟩
set_option maxRecDepth 100000 in
theorem mv_X10_isCircle : MV yX10_isCircle := ⟨tb_s7 19 rfl rfl, tb_p 74 rfl rfl⟩
set_option maxRecDepth 100000 in
theorem mi_X10_isCovered : MI yX10_isCovered cX10_isCovered 5 (some .boolean) 2 := ⟨tb_s7 60 rfl rfl, tb_s1 11 rfl rfl, by decide +kernel, by decide +kernel, by decide +kernel⟩
set_option maxRecDepth 100000 in
theorem mv_X10_isCovered : MV yX10_isCovered := ⟨tb_s7 59 rfl rfl, tb_p 79 rfl rfl⟩
set_option maxRecDepth 100000 in
theorem mi_X10_isDigit : MI yX10_isDigit cX10_isDigit 1 (some .boolean) 1 := ⟨tb_s6 26 rfl rfl, tb_s1 11 rfl rfl, by decide +kernel, by decide +kernel, by decide +kernel⟩
set_option maxRecDepth 100000 in
theorem ms_X10_isDigit : Cond.static yX10_isDigit ∈ GW := tb_s6 25 rfl rfl
set_option maxRecDepth 100000 in
theorem mi_X10_isIn : MI yX10_isIn cX10_isIn 26 (some .boolean) 5 := ⟨tb_s6 116 rfl rfl, tb_s1 11 rfl rfl, by decide +kernel, by decide +kernel, by decide +kernel⟩
set_option maxRecDepth 100000 in
theorem mv_X10_isIn : MV yX10_isIn := ⟨tb_s6 115 rfl rfl, tb_p 60 rfl rfl⟩
set_option maxRecDepth 100000 in
theorem mi_X10_isOnePlace : MI yX10_isOnePlace cX10_isOnePlace 4 (some .boolean) 1 := ⟨tb_s6 226 rfl rfl, tb_s1 11 rfl rfl, by decide +kernel, by decide +kernel, by decide +kernel⟩
set_option maxRecDepth 100000 in
theorem mv_X10_isOnePlace : MV yX10_isOnePlace := ⟨tb_s6 225 rfl rfl, tb_p 67 rfl rfl⟩
set_option maxRecDepth 100000 in
theorem mi_X10_isPassed : MI yX10_isPassed cX10_isPassed 2 (some .boolean) 1 := ⟨tb_s6 72 rfl rfl, tb_s1 11 rfl rfl, by decide +kernel, by decide +kernel, by decide +kernel⟩
set_option maxRecDepth 100000 in
theorem mv_X10_isPassed : MV yX10_isPassed := ⟨tb_s6 71 rfl rfl, tb_p 50 rfl rfl⟩
set_option maxRecDepth 100000 in
theorem mi_X10_isPassedBy : MI yX10_isPassedBy cX10_isPassedBy 3 (some .boolean) 2 := ⟨tb_s7 133 rfl rfl, tb_s1 11 rfl rfl, by decide +kernel, by decide +kernel, by decide +kernel⟩
set_option maxRecDepth 100000 in
theorem mv_X10_isPassedBy : MV yX10_isPassedBy := ⟨tb_s7 132 rfl rfl, tb_p 83 rfl rfl⟩
set_option maxRecDepth 100000 in
theorem mi_X10_isPeril : MI yX10_isPeril cX10_isPeril 1 (some .boolean) 1 := ⟨tb_s6 138 rfl rfl, tb_s1 11 rfl rfl, by decide +kernel, by decide +kernel, by decide +kernel⟩
set_option maxRecDepth 100000 in
theorem ms_X10_isPeril : Cond.static yX10_isPeril ∈ GW := tb_s6 137 rfl rfl
set_option maxRecDepth 100000 in
theorem mi_X10_isPlace : MI yX10_isPlace cX10_isPlace 2 (some .boolean) 2 := ⟨tb_s6 132 rfl rfl, tb_s1 11 rfl rfl, by decide +kernel, by decide +kernel, by decide +kernel⟩
set_option maxRecDepth 100000 in
theorem ms_X10_isPlace : Cond.static yX10_isPlace ∈ GW := tb_s6 131 rfl rfl
set_option maxRecDepth 100000 in
theorem mi_X10_isPolicy : MI yX10_isPolicy cX10_isPolicy 2 (some .boolean) 1 := ⟨tb_s6 150 rfl rfl, tb_s1 11 rfl rfl, by decide +kernel, by decide +kernel, by decide +kernel⟩
set_option maxRecDepth 100000 in
theorem mv_X10_isPolicy : MV yX10_isPolicy := ⟨tb_s6 149 rfl rfl, tb_p 62 rfl rfl⟩
set_option maxRecDepth 100000 in
theorem mi_X10_isRadius : MI yX10_isRadius cX10_isRadius 1 (some .boolean) 1 := ⟨tb_s6 168 rfl rfl, tb_s1 11 rfl rfl, by decide +kernel, by decide +kernel, by decide +kernel⟩
set_option maxRecDepth 100000 in
theorem ms_X10_isRadius : Cond.static yX10_isRadius ∈ GW := tb_s6 167 rfl rfl
set_option maxRecDepth 100000 in
theorem mi_X10_isRing : MI yX10_isRing cX10_isRing 10 none 5 := ⟨tb_s6 233 rfl rfl, tb_s1 11 rfl rfl, by decide +kernel, by decide +kernel, by decide +kernel⟩
set_option maxRecDepth 100000 in
theorem mv_X10_isRing : MV yX10_isRing := ⟨tb_s6 232 rfl rfl, tb_p 68 rfl rfl⟩
set_option maxRecDepth 100000 in
theorem mi_X10_isSharp : MI yX10_isSharp cX10_isSharp 7 (some .boolean) 3 := ⟨tb_s7 12 rfl rfl, tb_s1 11 rfl rfl, by decide +kernel, by decide +kernel, by decide +kernel⟩
set_option maxRecDepth 100000 in
theorem mv_X10_isSharp : MV yX10_isSharp := ⟨tb_s7 11 rfl rfl, tb_p 72 rfl rfl⟩
set_option maxRecDepth 100000 in
theorem mi_X10_isSmall : MI yX10_isSmall cX10_isSmall 1 (some .boolean) 1 := ⟨tb_s6 16 rfl rfl, tb_s1 11 rfl rfl, by decide +kernel, by decide +kernel, by decide +kernel⟩
set_option maxRecDepth 100000 in
theorem ms_X10_isSmall : Cond.static yX10_isSmall ∈ GW := tb_s6 15 rfl rfl
set_option maxRecDepth 100000 in
theorem mi_X10_isSum : MI yX10_isSum cX10_isSum 1 (some .boolean) 1 := ⟨tb_s6 135 rfl rfl, tb_s1 11 rfl rfl, by decide +kernel, by decide +kernel, by decide +kernel⟩
set_option maxRecDepth 100000 in
theorem ms_X10_isSum : Cond.static yX10_isSum ∈ GW := tb_s6 134 rfl rfl
set_option maxRecDepth 100000 in
theorem mi_X10_isThree : MI yX10_isThree cX10_isThree 7 none 1 := ⟨tb_s7 8 rfl rfl, tb_s1 11 rfl rfl, by decide +kernel, by decide +kernel, by decide +kernel⟩
set_option maxRecDepth 100000 in
theorem mv_X10_isThree : MV yX10_isThree := ⟨tb_s7 7 rfl rfl, tb_p 71 rfl rfl⟩
set_option maxRecDepth 100000 in
theorem mi_X10_isTreaty : MI yX10_isTreaty cX10_isTreaty 2 (some .boolean) 1 := ⟨tb_s6 176 rfl rfl, tb_s1 11 rfl rfl, by decide +kernel, by decide +kernel, by decide +kernel⟩
set_option maxRecDepth 100000 in
theorem mv_X10_isTreaty : MV yX10_isTreaty := ⟨tb_s6 175 rfl rfl, tb_p 63 rfl rfl⟩
set_option maxRecDepth 100000 in
theorem mi_X10_isTwo : MI yX10_isTwo cX10_isTwo 4 (some .boolean) 1 := ⟨tb_s7 0 rfl rfl, tb_s1 11 rfl rfl, by decide +kernel, by decide +kernel, by decide +kernel⟩
set_option maxRecDepth 100000 in
theorem mv_X10_isTwo : MV yX10_isTwo := ⟨tb_s6 239 rfl rfl, tb_p 69 rfl rfl⟩
set_option maxRecDepth 100000 in
theorem mi_X10_isWidth : MI yX10_isWidth cX10_isWidth 5 (some .boolean) 3 := ⟨tb_s7 4 rfl rfl, tb_s1 11 rfl rfl, by decide +kernel, by decide +kernel, by decide +kernel⟩
set_option maxRecDepth 100000 in
theorem mv_X10_isWidth : MV yX10_isWidth := ⟨tb_s7 3 rfl rfl, tb_p 70 rfl rfl⟩
set_option maxRecDepth 100000 in
theorem mi_X10_isWithin : MI yX10_isWithin cX10_isWithin 19 (some .boolean) 4 := ⟨tb_s7 24 rfl rfl, tb_s1 11 rfl rfl, by decide +kernel, by decide +kernel, by decide +kernel⟩
set_option maxRecDepth 100000 in
theorem mv_X10_isWithin : MV yX10_isWithin := ⟨tb_s7 23 rfl rfl, tb_p 75 rfl rfl⟩
set_option maxRecDepth 100000 in
theorem mi_X10_lays : MI yX10_lays cX10_lays 2 none 0 := ⟨tb_s6 56 rfl rfl, tb_s1 11 rfl rfl, by decide +kernel, by decide +kernel, by decide +kernel⟩
set_option maxRecDepth 100000 in
theorem mv_X10_lays : MV yX10_lays := ⟨tb_s6 55 rfl rfl, tb_p 46 rfl rfl⟩
set_option maxRecDepth 100000 in
theorem mi_X10_looks : MI yX10_looks cX10_looks 3 none 0 := ⟨tb_s6 68 rfl rfl, tb_s1 11 rfl rfl, by decide +kernel, by decide +kernel, by decide +kernel⟩
set_option maxRecDepth 100000 in
theorem mv_X10_looks : MV yX10_looks := ⟨tb_s6 67 rfl rfl, tb_p 49 rfl rfl⟩
set_option maxRecDepth 100000 in
theorem mi_X10_lowest : MI yX10_lowest cX10_lowest 2 (some .int) 1 := ⟨tb_s6 229 rfl rfl, tb_s1 11 rfl rfl, by decide +kernel, by decide +kernel, by decide +kernel⟩
set_option maxRecDepth 100000 in
theorem ms_X10_lowest : Cond.static yX10_lowest ∈ GW := tb_s6 228 rfl rfl
set_option maxRecDepth 100000 in
theorem mi_X10_notes : MI yX10_notes cX10_notes 5 none 4 := ⟨tb_s6 121 rfl rfl, tb_s1 11 rfl rfl, by decide +kernel, by decide +kernel, by decide +kernel⟩
set_option maxRecDepth 100000 in
theorem ms_X10_notes : Cond.static yX10_notes ∈ GW := tb_s6 120 rfl rfl
set_option maxRecDepth 100000 in
theorem mi_X10_numeral : MI yX10_numeral cX10_numeral 4 (some .int) 2 := ⟨tb_s6 47 rfl rfl, tb_s1 11 rfl rfl, by decide +kernel, by decide +kernel, by decide +kernel⟩
set_option maxRecDepth 100000 in
theorem mv_X10_numeral : MV yX10_numeral := ⟨tb_s6 46 rfl rfl, tb_p 44 rfl rfl⟩
set_option maxRecDepth 100000 in
theorem mi_X10_ofPerils : MI yX10_ofPerils cX10_ofPerils 4 (some .int) 1 := ⟨tb_s6 84 rfl rfl, tb_s1 11 rfl rfl, by decide +kernel, by decide +kernel, by decide +kernel⟩
set_option maxRecDepth 100000 in
theorem mv_X10_ofPerils : MV yX10_ofPerils := ⟨tb_s6 83 rfl rfl, tb_p 53 rfl rfl⟩
set_option maxRecDepth 100000 in
theorem mi_X10_ofTreaty : MI yX10_ofTreaty cX10_ofTreaty 2 (some .int) 1 := ⟨tb_s6 80 rfl rfl, tb_s1 11 rfl rfl, by decide +kernel, by decide +kernel, by decide +kernel⟩
set_option maxRecDepth 100000 in
theorem mv_X10_ofTreaty : MV yX10_ofTreaty := ⟨tb_s6 79 rfl rfl, tb_p 52 rfl rfl⟩
set_option maxRecDepth 100000 in
theorem mi_X10_offers : MI yX10_offers cX10_offers 4 none 2 := ⟨tb_s6 104 rfl rfl, tb_s1 11 rfl rfl, by decide +kernel, by decide +kernel, by decide +kernel⟩
set_option maxRecDepth 100000 in
theorem mv_X10_offers : MV yX10_offers := ⟨tb_s6 103 rfl rfl, tb_p 57 rfl rfl⟩
set_option maxRecDepth 100000 in
theorem mi_X10_onRim : MI yX10_onRim cX10_onRim 8 (some .int) 5 := ⟨tb_s6 112 rfl rfl, tb_s1 11 rfl rfl, by decide +kernel, by decide +kernel, by decide +kernel⟩
set_option maxRecDepth 100000 in
theorem mv_X10_onRim : MV yX10_onRim := ⟨tb_s6 111 rfl rfl, tb_p 59 rfl rfl⟩
set_option maxRecDepth 100000 in
theorem mi_X10_onWay : MI yX10_onWay cX10_onWay 6 (some .int) 4 := ⟨tb_s7 156 rfl rfl, tb_s1 11 rfl rfl, by decide +kernel, by decide +kernel, by decide +kernel⟩
set_option maxRecDepth 100000 in
theorem ms_X10_onWay : Cond.static yX10_onWay ∈ GW := tb_s7 155 rfl rfl
set_option maxRecDepth 100000 in
theorem mi_X10_passedOnes : MI yX10_passedOnes cX10_passedOnes 3 (some .int) 0 := ⟨tb_s7 200 rfl rfl, tb_s1 11 rfl rfl, by decide +kernel, by decide +kernel, by decide +kernel⟩
set_option maxRecDepth 100000 in
theorem mv_X10_passedOnes : MV yX10_passedOnes := ⟨tb_s7 199 rfl rfl, tb_p 90 rfl rfl⟩
set_option maxRecDepth 100000 in
theorem mi_X10_puts : MI yX10_puts cX10_puts 6 none 5 := ⟨tb_s6 60 rfl rfl, tb_s1 11 rfl rfl, by decide +kernel, by decide +kernel, by decide +kernel⟩
set_option maxRecDepth 100000 in
theorem mv_X10_puts : MV yX10_puts := ⟨tb_s6 59 rfl rfl, tb_p 47 rfl rfl⟩
set_option maxRecDepth 100000 in
theorem mi_X10_readLine : MI yX10_readLine cX10_readLine 1 none 0 := ⟨tb_s6 31 rfl rfl, tb_s1 11 rfl rfl, by decide +kernel, by decide +kernel, by decide +kernel⟩
set_option maxRecDepth 100000 in
theorem mv_X10_readLine : MV yX10_readLine := ⟨tb_s6 30 rfl rfl, tb_p 40 rfl rfl⟩
set_option maxRecDepth 100000 in
theorem mi_X10_readOne : MI yX10_readOne cX10_readOne 6 none 0 := ⟨tb_s6 39 rfl rfl, tb_s1 11 rfl rfl, by decide +kernel, by decide +kernel, by decide +kernel⟩
set_option maxRecDepth 100000 in
theorem mv_X10_readOne : MV yX10_readOne := ⟨tb_s6 38 rfl rfl, tb_p 42 rfl rfl⟩
set_option maxRecDepth 100000 in
theorem mi_X10_readOther : MI yX10_readOther cX10_readOther 5 none 0 := ⟨tb_s6 52 rfl rfl, tb_s1 11 rfl rfl, by decide +kernel, by decide +kernel, by decide +kernel⟩
set_option maxRecDepth 100000 in
theorem mv_X10_readOther : MV yX10_readOther := ⟨tb_s6 51 rfl rfl, tb_p 45 rfl rfl⟩
set_option maxRecDepth 100000 in
theorem mi_X10_readText : MI yX10_readText cX10_readText 2 none 1 := ⟨tb_s6 5 rfl rfl, tb_s1 11 rfl rfl, by decide +kernel, by decide +kernel, by decide +kernel⟩
set_option maxRecDepth 100000 in
theorem mv_X10_readText : MV yX10_readText := ⟨tb_s6 4 rfl rfl, tb_p 36 rfl rfl⟩
set_option maxRecDepth 100000 in
theorem mi_X10_roomAt : MI yX10_roomAt cX10_roomAt 7 (some .int) 3 := ⟨tb_s7 117 rfl rfl, tb_s1 11 rfl rfl, by decide +kernel, by decide +kernel, by decide +kernel⟩
set_option maxRecDepth 100000 in
theorem mv_X10_roomAt : MV yX10_roomAt := ⟨tb_s7 116 rfl rfl, tb_p 82 rfl rfl⟩
set_option maxRecDepth 100000 in
theorem mi_X10_squareAt : MI yX10_squareAt cX10_squareAt 8 (some .int) 4 := ⟨tb_s7 68 rfl rfl, tb_s1 11 rfl rfl, by decide +kernel, by decide +kernel, by decide +kernel⟩
set_option maxRecDepth 100000 in
theorem mv_X10_squareAt : MV yX10_squareAt := ⟨tb_s7 67 rfl rfl, tb_p 80 rfl rfl⟩
set_option maxRecDepth 100000 in
theorem mi_X10_sumOf : MI yX10_sumOf cX10_sumOf 4 (some .int) 1 := ⟨tb_s6 195 rfl rfl, tb_s1 11 rfl rfl, by decide +kernel, by decide +kernel, by decide +kernel⟩
set_option maxRecDepth 100000 in
theorem mv_X10_sumOf : MV yX10_sumOf := ⟨tb_s6 194 rfl rfl, tb_p 65 rfl rfl⟩
set_option maxRecDepth 100000 in
theorem mi_X10_token : MI yX10_token cX10_token 2 none 0 := ⟨tb_s6 9 rfl rfl, tb_s1 11 rfl rfl, by decide +kernel, by decide +kernel, by decide +kernel⟩
set_option maxRecDepth 100000 in
theorem mv_X10_token : MV yX10_token := ⟨tb_s6 8 rfl rfl, tb_p 37 rfl rfl⟩
set_option maxRecDepth 100000 in
theorem mi_X10_turn : MI yX10_turn cX10_turn 4 (some .long) 3 := ⟨tb_s7 16 rfl rfl, tb_s1 11 rfl rfl, by decide +kernel, by decide +kernel, by decide +kernel⟩
set_option maxRecDepth 100000 in
theorem mv_X10_turn : MV yX10_turn := ⟨tb_s7 15 rfl rfl, tb_p 73 rfl rfl⟩
set_option maxRecDepth 100000 in
theorem mi_X10_unlikePlaces : MI yX10_unlikePlaces cX10_unlikePlaces 5 (some .int) 0 := ⟨tb_s7 204 rfl rfl, tb_s1 11 rfl rfl, by decide +kernel, by decide +kernel, by decide +kernel⟩
set_option maxRecDepth 100000 in
theorem mv_X10_unlikePlaces : MV yX10_unlikePlaces := ⟨tb_s7 203 rfl rfl, tb_p 91 rfl rfl⟩
set_option maxRecDepth 100000 in
theorem mi_X10_weighs : MI yX10_weighs cX10_weighs 7 none 3 := ⟨tb_s6 91 rfl rfl, tb_s1 11 rfl rfl, by decide +kernel, by decide +kernel, by decide +kernel⟩
set_option maxRecDepth 100000 in
theorem mv_X10_weighs : MV yX10_weighs := ⟨tb_s6 90 rfl rfl, tb_p 54 rfl rfl⟩
set_option maxRecDepth 100000 in
theorem mi_X10_withPlace : MI yX10_withPlace cX10_withPlace 4 (some .int) 3 := ⟨tb_s7 109 rfl rfl, tb_s1 11 rfl rfl, by decide +kernel, by decide +kernel, by decide +kernel⟩
set_option maxRecDepth 100000 in
theorem mv_X10_withPlace : MV yX10_withPlace := ⟨tb_s7 108 rfl rfl, tb_p 81 rfl rfl⟩
set_option maxRecDepth 100000 in
theorem mi_X10_wordHere : MI yX10_wordHere cX10_wordHere 4 (some .int) 0 := ⟨tb_s6 20 rfl rfl, tb_s1 11 rfl rfl, by decide +kernel, by decide +kernel, by decide +kernel⟩
set_option maxRecDepth 100000 in
theorem mv_X10_wordHere : MV yX10_wordHere := ⟨tb_s6 19 rfl rfl, tb_p 39 rfl rfl⟩
set_option maxRecDepth 100000 in
theorem mi_X10_worstOf : MI yX10_worstOf cX10_worstOf 2 (some .int) 1 := ⟨tb_s6 76 rfl rfl, tb_s1 11 rfl rfl, by decide +kernel, by decide +kernel, by decide +kernel⟩
set_option maxRecDepth 100000 in
theorem mv_X10_worstOf : MV yX10_worstOf := ⟨tb_s6 75 rfl rfl, tb_p 51 rfl rfl⟩
set_option maxRecDepth 100000 in
theorem mi_X10_wrong : MI yX10_wrong cX10_wrong 2 none 1 := ⟨tb_s6 35 rfl rfl, tb_s1 11 rfl rfl, by decide +kernel, by decide +kernel, by decide +kernel⟩
set_option maxRecDepth 100000 in
theorem mv_X10_wrong : MV yX10_wrong := ⟨tb_s6 34 rfl rfl, tb_p 41 rfl rfl⟩
set_option maxRecDepth 100000 in
theorem mi_X1_close : MI yX1_close cX1_close 2 none 1 := ⟨tb_s3 212 rfl rfl, tb_s1 10 rfl rfl, by decide +kernel, by decide +kernel, by decide +kernel⟩
set_option maxRecDepth 100000 in
theorem mv_X1_close : MV yX1_close := ⟨tb_s3 210 rfl rfl, tb_s3 211 rfl rfl⟩
set_option maxRecDepth 100000 in
theorem mi_X1_corner : MI yX1_corner cX1_corner 4 (some .int) 3 := ⟨tb_s3 232 rfl rfl, tb_s1 10 rfl rfl, by decide +kernel, by decide +kernel, by decide +kernel⟩
set_option maxRecDepth 100000 in
theorem mv_X1_corner : MV yX1_corner := ⟨tb_s3 231 rfl rfl, tb_p 21 rfl rfl⟩
set_option maxRecDepth 100000 in
theorem mi_X1_findTriangle : MI yX1_findTriangle cX1_findTriangle 10 none 1 := ⟨tb_s4 2 rfl rfl, tb_s1 10 rfl rfl, by decide +kernel, by decide +kernel, by decide +kernel⟩
set_option maxRecDepth 100000 in
theorem mv_X1_findTriangle : MV yX1_findTriangle := ⟨tb_s4 1 rfl rfl, tb_p 23 rfl rfl⟩
set_option maxRecDepth 100000 in
theorem mi_X1_hasDiameter : MI yX1_hasDiameter cX1_hasDiameter 4 (some .boolean) 1 := ⟨tb_s3 224 rfl rfl, tb_s1 10 rfl rfl, by decide +kernel, by decide +kernel, by decide +kernel⟩
set_option maxRecDepth 100000 in
theorem mv_X1_hasDiameter : MV yX1_hasDiameter := ⟨tb_s3 223 rfl rfl, tb_p 19 rfl rfl⟩
set_option maxRecDepth 100000 in
theorem mi_X1_isAround : MI yX1_isAround cX1_isAround 10 (some .boolean) 4 := ⟨tb_s4 14 rfl rfl, tb_s1 10 rfl rfl, by decide +kernel, by decide +kernel, by decide +kernel⟩
set_option maxRecDepth 100000 in
theorem mv_X1_isAround : MV yX1_isAround := ⟨tb_s4 13 rfl rfl, tb_p 26 rfl rfl⟩
set_option maxRecDepth 100000 in
theorem mi_X1_isDiameter : MI yX1_isDiameter cX1_isDiameter 5 (some .boolean) 3 := ⟨tb_s3 228 rfl rfl, tb_s1 10 rfl rfl, by decide +kernel, by decide +kernel, by decide +kernel⟩
set_option maxRecDepth 100000 in
theorem mv_X1_isDiameter : MV yX1_isDiameter := ⟨tb_s3 227 rfl rfl, tb_p 20 rfl rfl⟩
set_option maxRecDepth 100000 in
theorem mi_X1_isPoint : MI yX1_isPoint cX1_isPoint 3 (some .boolean) 1 := ⟨tb_s3 216 rfl rfl, tb_s1 10 rfl rfl, by decide +kernel, by decide +kernel, by decide +kernel⟩
set_option maxRecDepth 100000 in
theorem mv_X1_isPoint : MV yX1_isPoint := ⟨tb_s3 215 rfl rfl, tb_p 18 rfl rfl⟩
set_option maxRecDepth 100000 in
theorem mi_X1_isSharp : MI yX1_isSharp cX1_isSharp 4 (some .boolean) 3 := ⟨tb_s4 6 rfl rfl, tb_s1 10 rfl rfl, by decide +kernel, by decide +kernel, by decide +kernel⟩
set_option maxRecDepth 100000 in
theorem mv_X1_isSharp : MV yX1_isSharp := ⟨tb_s4 5 rfl rfl, tb_p 24 rfl rfl⟩
set_option maxRecDepth 100000 in
theorem mi_X1_reduce : MI yX1_reduce cX1_reduce 12 none 2 := ⟨tb_s3 238 rfl rfl, tb_s1 10 rfl rfl, by decide +kernel, by decide +kernel, by decide +kernel⟩
set_option maxRecDepth 100000 in
theorem mv_X1_reduce : MV yX1_reduce := ⟨tb_s3 237 rfl rfl, tb_p 22 rfl rfl⟩
set_option maxRecDepth 100000 in
theorem mi_X1_turn : MI yX1_turn cX1_turn 4 (some .long) 3 := ⟨tb_s4 10 rfl rfl, tb_s1 10 rfl rfl, by decide +kernel, by decide +kernel, by decide +kernel⟩
set_option maxRecDepth 100000 in
theorem mv_X1_turn : MV yX1_turn := ⟨tb_s4 9 rfl rfl, tb_p 25 rfl rfl⟩
set_option maxRecDepth 100000 in
theorem mi_X2_add : MI yX2_add cX2_add 5 none 1 := ⟨tb_s3 9 rfl rfl, tb_s1 6 rfl rfl, by decide +kernel, by decide +kernel, by decide +kernel⟩
set_option maxRecDepth 100000 in
theorem mv_X2_add : MV yX2_add := ⟨tb_s3 7 rfl rfl, tb_s3 8 rfl rfl⟩
set_option maxRecDepth 100000 in
theorem mi_X2_at : MI yX2_at cX2_at 2 (some .int) 1 := ⟨tb_s4 130 rfl rfl, tb_s1 6 rfl rfl, by decide +kernel, by decide +kernel, by decide +kernel⟩
set_option maxRecDepth 100000 in
theorem mv_X2_at : MV yX2_at := ⟨tb_s4 128 rfl rfl, tb_s4 129 rfl rfl⟩
set_option maxRecDepth 100000 in
theorem mi_X2_bounding : MI yX2_bounding cX2_bounding 4 (some .int) 1 := ⟨tb_s3 189 rfl rfl, tb_s1 6 rfl rfl, by decide +kernel, by decide +kernel, by decide +kernel⟩
set_option maxRecDepth 100000 in
theorem mv_X2_bounding : MV yX2_bounding := ⟨tb_s3 187 rfl rfl, tb_s3 188 rfl rfl⟩
set_option maxRecDepth 100000 in
theorem mi_X2_extend : MI yX2_extend cX2_extend 6 none 2 := ⟨tb_s3 18 rfl rfl, tb_s1 6 rfl rfl, by decide +kernel, by decide +kernel, by decide +kernel⟩
set_option maxRecDepth 100000 in
theorem mv_X2_extend : MV yX2_extend := ⟨tb_s3 17 rfl rfl, tb_p 10 rfl rfl⟩
set_option maxRecDepth 100000 in
theorem mi_X2_fill : MI yX2_fill cX2_fill 4 none 2 := ⟨tb_s3 3 rfl rfl, tb_s1 6 rfl rfl, by decide +kernel, by decide +kernel, by decide +kernel⟩
set_option maxRecDepth 100000 in
theorem mv_X2_fill : MV yX2_fill := ⟨tb_s3 1 rfl rfl, tb_s3 2 rfl rfl⟩
set_option maxRecDepth 100000 in
theorem mi_X2_hasMore : MI yX2_hasMore cX2_hasMore 4 (some .boolean) 2 := ⟨tb_s4 46 rfl rfl, tb_s1 6 rfl rfl, by decide +kernel, by decide +kernel, by decide +kernel⟩
set_option maxRecDepth 100000 in
theorem mv_X2_hasMore : MV yX2_hasMore := ⟨tb_s4 44 rfl rfl, tb_s4 45 rfl rfl⟩
set_option maxRecDepth 100000 in
theorem mi_X2_heaviestAmong : MI yX2_heaviestAmong cX2_heaviestAmong 7 (some .int) 1 := ⟨tb_s3 38 rfl rfl, tb_s1 6 rfl rfl, by decide +kernel, by decide +kernel, by decide +kernel⟩
set_option maxRecDepth 100000 in
theorem mv_X2_heaviestAmong : MV yX2_heaviestAmong := ⟨tb_s3 36 rfl rfl, tb_s3 37 rfl rfl⟩
set_option maxRecDepth 100000 in
theorem mi_X2_holdBoth : MI yX2_holdBoth cX2_holdBoth 11 none 4 := ⟨tb_s3 29 rfl rfl, tb_s1 6 rfl rfl, by decide +kernel, by decide +kernel, by decide +kernel⟩
set_option maxRecDepth 100000 in
theorem mv_X2_holdBoth : MV yX2_holdBoth := ⟨tb_s3 28 rfl rfl, tb_p 12 rfl rfl⟩
set_option maxRecDepth 100000 in
theorem mi_X2_joined : MI yX2_joined cX2_joined 9 (some .int) 4 := ⟨tb_s4 60 rfl rfl, tb_s1 6 rfl rfl, by decide +kernel, by decide +kernel, by decide +kernel⟩
set_option maxRecDepth 100000 in
theorem mv_X2_joined : MV yX2_joined := ⟨tb_s4 58 rfl rfl, tb_s4 59 rfl rfl⟩
set_option maxRecDepth 100000 in
theorem mi_X2_onOthers : MI yX2_onOthers cX2_onOthers 10 (some .int) 6 := ⟨tb_s4 65 rfl rfl, tb_s1 6 rfl rfl, by decide +kernel, by decide +kernel, by decide +kernel⟩
set_option maxRecDepth 100000 in
theorem mv_X2_onOthers : MV yX2_onOthers := ⟨tb_s4 64 rfl rfl, tb_p 27 rfl rfl⟩
set_option maxRecDepth 100000 in
theorem mi_X2_remove : MI yX2_remove cX2_remove 3 none 1 := ⟨tb_s3 128 rfl rfl, tb_s1 6 rfl rfl, by decide +kernel, by decide +kernel, by decide +kernel⟩
set_option maxRecDepth 100000 in
theorem mv_X2_remove : MV yX2_remove := ⟨tb_s3 126 rfl rfl, tb_s3 127 rfl rfl⟩
set_option maxRecDepth 100000 in
theorem mi_X2_sidesAt : MI yX2_sidesAt cX2_sidesAt 9 (some .int) 4 := ⟨tb_s3 22 rfl rfl, tb_s1 6 rfl rfl, by decide +kernel, by decide +kernel, by decide +kernel⟩
set_option maxRecDepth 100000 in
theorem mv_X2_sidesAt : MV yX2_sidesAt := ⟨tb_s3 21 rfl rfl, tb_p 11 rfl rfl⟩
set_option maxRecDepth 100000 in
theorem mi_X3_areTwoOver : MI yX3_areTwoOver cX3_areTwoOver 3 (some .boolean) 1 := ⟨tb_s4 160 rfl rfl, tb_s1 9 rfl rfl, by decide +kernel, by decide +kernel, by decide +kernel⟩
set_option maxRecDepth 100000 in
theorem mv_X3_areTwoOver : MV yX3_areTwoOver := ⟨tb_s4 159 rfl rfl, tb_p 33 rfl rfl⟩
set_option maxRecDepth 100000 in
theorem mi_X3_fewestOver : MI yX3_fewestOver cX3_fewestOver 3 (some .int) 1 := ⟨tb_s4 147 rfl rfl, tb_s1 9 rfl rfl, by decide +kernel, by decide +kernel, by decide +kernel⟩
set_option maxRecDepth 100000 in
theorem mv_X3_fewestOver : MV yX3_fewestOver := ⟨tb_s4 145 rfl rfl, tb_s4 146 rfl rfl⟩
set_option maxRecDepth 100000 in
theorem mi_X3_gather : MI yX3_gather cX3_gather 3 none 1 := ⟨tb_s4 126 rfl rfl, tb_s1 9 rfl rfl, by decide +kernel, by decide +kernel, by decide +kernel⟩
set_option maxRecDepth 100000 in
theorem mv_X3_gather : MV yX3_gather := ⟨tb_s4 124 rfl rfl, tb_s4 125 rfl rfl⟩
set_option maxRecDepth 100000 in
theorem mi_X3_heaviestTwo : MI yX3_heaviestTwo cX3_heaviestTwo 8 (some .int) 1 := ⟨tb_s4 138 rfl rfl, tb_s1 9 rfl rfl, by decide +kernel, by decide +kernel, by decide +kernel⟩
set_option maxRecDepth 100000 in
theorem mv_X3_heaviestTwo : MV yX3_heaviestTwo := ⟨tb_s4 136 rfl rfl, tb_s4 137 rfl rfl⟩
set_option maxRecDepth 100000 in
theorem mi_X3_isOneOver : MI yX3_isOneOver cX3_isOneOver 3 (some .boolean) 1 := ⟨tb_s4 151 rfl rfl, tb_s1 9 rfl rfl, by decide +kernel, by decide +kernel, by decide +kernel⟩
set_option maxRecDepth 100000 in
theorem mv_X3_isOneOver : MV yX3_isOneOver := ⟨tb_s4 150 rfl rfl, tb_p 32 rfl rfl⟩
set_option maxRecDepth 100000 in
theorem mi_X3_keep : MI yX3_keep cX3_keep 4 none 1 := ⟨tb_s4 134 rfl rfl, tb_s1 9 rfl rfl, by decide +kernel, by decide +kernel, by decide +kernel⟩
set_option maxRecDepth 100000 in
theorem mv_X3_keep : MV yX3_keep := ⟨tb_s4 133 rfl rfl, tb_p 31 rfl rfl⟩
set_option maxRecDepth 100000 in
theorem mi_X3_leastOf : MI yX3_leastOf cX3_leastOf 1 (some .int) 1 := ⟨tb_s4 154 rfl rfl, tb_s1 9 rfl rfl, by decide +kernel, by decide +kernel, by decide +kernel⟩
set_option maxRecDepth 100000 in
theorem ms_X3_leastOf : Cond.static yX3_leastOf ∈ GW := tb_s4 153 rfl rfl
set_option maxRecDepth 100000 in
theorem mi_X4_complain : MI yX4_complain cX4_complain 3 none 2 := ⟨tb_s2 170 rfl rfl, tb_s1 3 rfl rfl, by decide +kernel, by decide +kernel, by decide +kernel⟩
set_option maxRecDepth 100000 in
theorem mv_X4_complain : MV yX4_complain := ⟨tb_s2 169 rfl rfl, tb_p 5 rfl rfl⟩
set_option maxRecDepth 100000 in
theorem mi_X4_isDigit : MI yX4_isDigit cX4_isDigit 1 (some .boolean) 1 := ⟨tb_s2 177 rfl rfl, tb_s1 3 rfl rfl, by decide +kernel, by decide +kernel, by decide +kernel⟩
set_option maxRecDepth 100000 in
theorem ms_X4_isDigit : Cond.static yX4_isDigit ∈ GW := tb_s2 176 rfl rfl
set_option maxRecDepth 100000 in
theorem mi_X4_ofPolicy : MI yX4_ofPolicy cX4_ofPolicy 4 (some .int) 2 := ⟨tb_s2 205 rfl rfl, tb_s1 3 rfl rfl, by decide +kernel, by decide +kernel, by decide +kernel⟩
set_option maxRecDepth 100000 in
theorem mv_X4_ofPolicy : MV yX4_ofPolicy := ⟨tb_s2 203 rfl rfl, tb_s2 204 rfl rfl⟩
set_option maxRecDepth 100000 in
theorem mi_X4_ofTreaty : MI yX4_ofTreaty cX4_ofTreaty 4 (some .int) 2 := ⟨tb_s2 227 rfl rfl, tb_s1 3 rfl rfl, by decide +kernel, by decide +kernel, by decide +kernel⟩
set_option maxRecDepth 100000 in
theorem mv_X4_ofTreaty : MV yX4_ofTreaty := ⟨tb_s2 225 rfl rfl, tb_s2 226 rfl rfl⟩
set_option maxRecDepth 100000 in
theorem mi_X4_passWord : MI yX4_passWord cX4_passWord 1 none 0 := ⟨tb_s2 105 rfl rfl, tb_s1 3 rfl rfl, by decide +kernel, by decide +kernel, by decide +kernel⟩
set_option maxRecDepth 100000 in
theorem mv_X4_passWord : MV yX4_passWord := ⟨tb_s2 104 rfl rfl, tb_p 2 rfl rfl⟩
set_option maxRecDepth 100000 in
theorem mi_X4_read : MI yX4_read cX4_read 3 none 1 := ⟨tb_s2 89 rfl rfl, tb_s1 3 rfl rfl, by decide +kernel, by decide +kernel, by decide +kernel⟩
set_option maxRecDepth 100000 in
theorem mv_X4_read : MV yX4_read := ⟨tb_s2 87 rfl rfl, tb_s2 88 rfl rfl⟩
set_option maxRecDepth 100000 in
theorem mi_X4_readEnd : MI yX4_readEnd cX4_readEnd 1 none 0 := ⟨tb_s2 190 rfl rfl, tb_s1 3 rfl rfl, by decide +kernel, by decide +kernel, by decide +kernel⟩
set_option maxRecDepth 100000 in
theorem mv_X4_readEnd : MV yX4_readEnd := ⟨tb_s2 189 rfl rfl, tb_p 7 rfl rfl⟩
set_option maxRecDepth 100000 in
theorem mi_X4_readLine : MI yX4_readLine cX4_readLine 2 none 0 := ⟨tb_s2 101 rfl rfl, tb_s1 3 rfl rfl, by decide +kernel, by decide +kernel, by decide +kernel⟩
set_option maxRecDepth 100000 in
theorem mv_X4_readLine : MV yX4_readLine := ⟨tb_s2 100 rfl rfl, tb_p 1 rfl rfl⟩
set_option maxRecDepth 100000 in
theorem mi_X4_readNumber : MI yX4_readNumber cX4_readNumber 5 (some .int) 2 := ⟨tb_s2 174 rfl rfl, tb_s1 3 rfl rfl, by decide +kernel, by decide +kernel, by decide +kernel⟩
set_option maxRecDepth 100000 in
theorem mv_X4_readNumber : MV yX4_readNumber := ⟨tb_s2 173 rfl rfl, tb_p 6 rfl rfl⟩
set_option maxRecDepth 100000 in
theorem mi_X4_readNumbers : MI yX4_readNumbers cX4_readNumbers 9 none 5 := ⟨tb_s2 166 rfl rfl, tb_s1 3 rfl rfl, by decide +kernel, by decide +kernel, by decide +kernel⟩
set_option maxRecDepth 100000 in
theorem mv_X4_readNumbers : MV yX4_readNumbers := ⟨tb_s2 165 rfl rfl, tb_p 4 rfl rfl⟩
set_option maxRecDepth 100000 in
theorem mi_X4_skipBlanks : MI yX4_skipBlanks cX4_skipBlanks 1 none 0 := ⟨tb_s2 93 rfl rfl, tb_s1 3 rfl rfl, by decide +kernel, by decide +kernel, by decide +kernel⟩
set_option maxRecDepth 100000 in
theorem mv_X4_skipBlanks : MV yX4_skipBlanks := ⟨tb_s2 92 rfl rfl, tb_p 0 rfl rfl⟩
set_option maxRecDepth 100000 in
theorem mi_X4_spells : MI yX4_spells cX4_spells 4 (some .boolean) 2 := ⟨tb_s2 110 rfl rfl, tb_s1 3 rfl rfl, by decide +kernel, by decide +kernel, by decide +kernel⟩
set_option maxRecDepth 100000 in
theorem mv_X4_spells : MV yX4_spells := ⟨tb_s2 109 rfl rfl, tb_p 3 rfl rfl⟩
set_option maxRecDepth 100000 in
theorem mi_X5_latest : MI yX5_latest cX5_latest 4 (some .int) 2 := ⟨tb_s4 231 rfl rfl, tb_s1 7 rfl rfl, by decide +kernel, by decide +kernel, by decide +kernel⟩
set_option maxRecDepth 100000 in
theorem mv_X5_latest : MV yX5_latest := ⟨tb_s4 229 rfl rfl, tb_s4 230 rfl rfl⟩
set_option maxRecDepth 100000 in
theorem mi_X5_note : MI yX5_note cX5_note 5 none 3 := ⟨tb_s3 59 rfl rfl, tb_s1 7 rfl rfl, by decide +kernel, by decide +kernel, by decide +kernel⟩
set_option maxRecDepth 100000 in
theorem mv_X5_note : MV yX5_note := ⟨tb_s3 57 rfl rfl, tb_s3 58 rfl rfl⟩
set_option maxRecDepth 100000 in
theorem mi_X6_at : MI yX6_at cX6_at 2 (some .int) 1 := ⟨tb_s2 97 rfl rfl, tb_s1 2 rfl rfl, by decide +kernel, by decide +kernel, by decide +kernel⟩
set_option maxRecDepth 100000 in
theorem mv_X6_at : MV yX6_at := ⟨tb_s2 95 rfl rfl, tb_s2 96 rfl rfl⟩
set_option maxRecDepth 100000 in
theorem mi_X6_push : MI yX6_push cX6_push 3 none 1 := ⟨tb_s2 81 rfl rfl, tb_s1 2 rfl rfl, by decide +kernel, by decide +kernel, by decide +kernel⟩
set_option maxRecDepth 100000 in
theorem mv_X6_push : MV yX6_push := ⟨tb_s2 79 rfl rfl, tb_s2 80 rfl rfl⟩
set_option maxRecDepth 100000 in
theorem mi_X7_fiercest : MI yX7_fiercest cX7_fiercest 6 (some .int) 1 := ⟨tb_s4 206 rfl rfl, tb_s1 8 rfl rfl, by decide +kernel, by decide +kernel, by decide +kernel⟩
set_option maxRecDepth 100000 in
theorem mv_X7_fiercest : MV yX7_fiercest := ⟨tb_s4 204 rfl rfl, tb_s4 205 rfl rfl⟩
set_option maxRecDepth 100000 in
theorem mi_X7_hitAt : MI yX7_hitAt cX7_hitAt 3 (some .int) 2 := ⟨tb_s4 196 rfl rfl, tb_s1 8 rfl rfl, by decide +kernel, by decide +kernel, by decide +kernel⟩
set_option maxRecDepth 100000 in
theorem mv_X7_hitAt : MV yX7_hitAt := ⟨tb_s4 194 rfl rfl, tb_s4 195 rfl rfl⟩
set_option maxRecDepth 100000 in
theorem mi_X7_hits : MI yX7_hits cX7_hits 4 (some .int) 1 := ⟨tb_s4 192 rfl rfl, tb_s1 8 rfl rfl, by decide +kernel, by decide +kernel, by decide +kernel⟩
set_option maxRecDepth 100000 in
theorem mv_X7_hits : MV yX7_hits := ⟨tb_s4 190 rfl rfl, tb_s4 191 rfl rfl⟩
set_option maxRecDepth 100000 in
theorem mi_X8_agree : MI yX8_agree cX8_agree 4 none 3 := ⟨tb_s2 235 rfl rfl, tb_s1 5 rfl rfl, by decide +kernel, by decide +kernel, by decide +kernel⟩
set_option maxRecDepth 100000 in
theorem mv_X8_agree : MV yX8_agree := ⟨tb_s2 233 rfl rfl, tb_s2 234 rfl rfl⟩
set_option maxRecDepth 100000 in
theorem mi_X8_findWorst : MI yX8_findWorst cX8_findWorst 1 none 0 := ⟨tb_s3 33 rfl rfl, tb_s1 5 rfl rfl, by decide +kernel, by decide +kernel, by decide +kernel⟩
set_option maxRecDepth 100000 in
theorem mv_X8_findWorst : MV yX8_findWorst := ⟨tb_s3 31 rfl rfl, tb_s3 32 rfl rfl⟩
set_option maxRecDepth 100000 in
theorem mi_X8_isFreedWith : MI yX8_isFreedWith cX8_isFreedWith 3 (some .boolean) 1 := ⟨tb_s4 50 rfl rfl, tb_s1 5 rfl rfl, by decide +kernel, by decide +kernel, by decide +kernel⟩
set_option maxRecDepth 100000 in
theorem mv_X8_isFreedWith : MV yX8_isFreedWith := ⟨tb_s4 48 rfl rfl, tb_s4 49 rfl rfl⟩
set_option maxRecDepth 100000 in
theorem mi_X8_isPassed : MI yX8_isPassed cX8_isPassed 1 (some .boolean) 0 := ⟨tb_s3 55 rfl rfl, tb_s1 5 rfl rfl, by decide +kernel, by decide +kernel, by decide +kernel⟩
set_option maxRecDepth 100000 in
theorem mv_X8_isPassed : MV yX8_isPassed := ⟨tb_s3 53 rfl rfl, tb_s3 54 rfl rfl⟩
set_option maxRecDepth 100000 in
theorem mi_X8_staysPassed : MI yX8_staysPassed cX8_staysPassed 2 (some .boolean) 1 := ⟨tb_s4 42 rfl rfl, tb_s1 5 rfl rfl, by decide +kernel, by decide +kernel, by decide +kernel⟩
set_option maxRecDepth 100000 in
theorem mv_X8_staysPassed : MV yX8_staysPassed := ⟨tb_s4 40 rfl rfl, tb_s4 41 rfl rfl⟩
set_option maxRecDepth 100000 in
theorem mi_X8_takes : MI yX8_takes cX8_takes 2 (some .boolean) 1 := ⟨tb_s3 90 rfl rfl, tb_s1 5 rfl rfl, by decide +kernel, by decide +kernel, by decide +kernel⟩
set_option maxRecDepth 100000 in
theorem mv_X8_takes : MV yX8_takes := ⟨tb_s3 88 rfl rfl, tb_s3 89 rfl rfl⟩
set_option maxRecDepth 100000 in
theorem mi_X8_worstWithout : MI yX8_worstWithout cX8_worstWithout 2 (some .int) 1 := ⟨tb_s4 22 rfl rfl, tb_s1 5 rfl rfl, by decide +kernel, by decide +kernel, by decide +kernel⟩
set_option maxRecDepth 100000 in
theorem mv_X8_worstWithout : MV yX8_worstWithout := ⟨tb_s4 20 rfl rfl, tb_s4 21 rfl rfl⟩
set_option maxRecDepth 100000 in
theorem mi_X9_arePerils : MI yX9_arePerils cX9_arePerils 1 (some .boolean) 1 := ⟨tb_s3 153 rfl rfl, tb_s1 1 rfl rfl, by decide +kernel, by decide +kernel, by decide +kernel⟩
set_option maxRecDepth 100000 in
theorem ms_X9_arePerils : Cond.static yX9_arePerils ∈ GW := tb_s3 152 rfl rfl
set_option maxRecDepth 100000 in
theorem mi_X9_beginAnew : MI yX9_beginAnew cX9_beginAnew 2 none 0 := ⟨tb_s2 194 rfl rfl, tb_s1 1 rfl rfl, by decide +kernel, by decide +kernel, by decide +kernel⟩
set_option maxRecDepth 100000 in
theorem mv_X9_beginAnew : MV yX9_beginAnew := ⟨tb_s2 193 rfl rfl, tb_p 8 rfl rfl⟩
set_option maxRecDepth 100000 in
theorem mi_X9_chainFrom : MI yX9_chainFrom cX9_chainFrom 8 (some .int) 3 := ⟨tb_s4 104 rfl rfl, tb_s1 1 rfl rfl, by decide +kernel, by decide +kernel, by decide +kernel⟩
set_option maxRecDepth 100000 in
theorem mv_X9_chainFrom : MV yX9_chainFrom := ⟨tb_s4 103 rfl rfl, tb_p 29 rfl rfl⟩
set_option maxRecDepth 100000 in
theorem mi_X9_contains : MI yX9_contains cX9_contains 2 (some .boolean) 2 := ⟨tb_s2 223 rfl rfl, tb_s1 1 rfl rfl, by decide +kernel, by decide +kernel, by decide +kernel⟩
set_option maxRecDepth 100000 in
theorem ms_X9_contains : Cond.static yX9_contains ∈ GW := tb_s2 222 rfl rfl
set_option maxRecDepth 100000 in
theorem mi_X9_drawnAfter : MI yX9_drawnAfter cX9_drawnAfter 1 (some .int) 1 := ⟨tb_s4 219 rfl rfl, tb_s1 1 rfl rfl, by decide +kernel, by decide +kernel, by decide +kernel⟩
set_option maxRecDepth 100000 in
theorem ms_X9_drawnAfter : Cond.static yX9_drawnAfter ∈ GW := tb_s4 218 rfl rfl
set_option maxRecDepth 100000 in
theorem mi_X9_heaviestOf : MI yX9_heaviestOf cX9_heaviestOf 3 (some .int) 2 := ⟨tb_s4 113 rfl rfl, tb_s1 1 rfl rfl, by decide +kernel, by decide +kernel, by decide +kernel⟩
set_option maxRecDepth 100000 in
theorem mv_X9_heaviestOf : MV yX9_heaviestOf := ⟨tb_s4 112 rfl rfl, tb_p 30 rfl rfl⟩
set_option maxRecDepth 100000 in
theorem mi_X9_isNumber : MI yX9_isNumber cX9_isNumber 1 (some .boolean) 1 := ⟨tb_s2 212 rfl rfl, tb_s1 1 rfl rfl, by decide +kernel, by decide +kernel, by decide +kernel⟩
set_option maxRecDepth 100000 in
theorem ms_X9_isNumber : Cond.static yX9_isNumber ∈ GW := tb_s2 211 rfl rfl
set_option maxRecDepth 100000 in
theorem mi_X9_isPeril : MI yX9_isPeril cX9_isPeril 1 (some .boolean) 1 := ⟨tb_s3 78 rfl rfl, tb_s1 1 rfl rfl, by decide +kernel, by decide +kernel, by decide +kernel⟩
set_option maxRecDepth 100000 in
theorem ms_X9_isPeril : Cond.static yX9_isPeril ∈ GW := tb_s3 77 rfl rfl
set_option maxRecDepth 100000 in
theorem mi_X9_isPlace : MI yX9_isPlace cX9_isPlace 2 (some .boolean) 2 := ⟨tb_s3 71 rfl rfl, tb_s1 1 rfl rfl, by decide +kernel, by decide +kernel, by decide +kernel⟩
set_option maxRecDepth 100000 in
theorem ms_X9_isPlace : Cond.static yX9_isPlace ∈ GW := tb_s3 70 rfl rfl
set_option maxRecDepth 100000 in
theorem mi_X9_isRadius : MI yX9_isRadius cX9_isRadius 1 (some .boolean) 1 := ⟨tb_s3 156 rfl rfl, tb_s1 1 rfl rfl, by decide +kernel, by decide +kernel, by decide +kernel⟩
set_option maxRecDepth 100000 in
theorem ms_X9_isRadius : Cond.static yX9_isRadius ∈ GW := tb_s3 155 rfl rfl
set_option maxRecDepth 100000 in
theorem mi_X9_isReach : MI yX9_isReach cX9_isReach 1 (some .boolean) 1 := ⟨tb_s4 100 rfl rfl, tb_s1 1 rfl rfl, by decide +kernel, by decide +kernel, by decide +kernel⟩
set_option maxRecDepth 100000 in
theorem ms_X9_isReach : Cond.static yX9_isReach ∈ GW := tb_s4 99 rfl rfl
set_option maxRecDepth 100000 in
theorem mi_X9_isSum : MI yX9_isSum cX9_isSum 1 (some .boolean) 1 := ⟨tb_s3 74 rfl rfl, tb_s1 1 rfl rfl, by decide +kernel, by decide +kernel, by decide +kernel⟩
set_option maxRecDepth 100000 in
theorem ms_X9_isSum : Cond.static yX9_isSum ∈ GW := tb_s3 73 rfl rfl
set_option maxRecDepth 100000 in
theorem mi_X9_joinTreaties : MI yX9_joinTreaties cX9_joinTreaties 5 none 2 := ⟨tb_s3 86 rfl rfl, tb_s1 1 rfl rfl, by decide +kernel, by decide +kernel, by decide +kernel⟩
set_option maxRecDepth 100000 in
theorem mv_X9_joinTreaties : MV yX9_joinTreaties := ⟨tb_s3 85 rfl rfl, tb_p 15 rfl rfl⟩
set_option maxRecDepth 100000 in
theorem mi_X9_leaveTreaties : MI yX9_leaveTreaties cX9_leaveTreaties 5 none 2 := ⟨tb_s3 124 rfl rfl, tb_s1 1 rfl rfl, by decide +kernel, by decide +kernel, by decide +kernel⟩
set_option maxRecDepth 100000 in
theorem mv_X9_leaveTreaties : MV yX9_leaveTreaties := ⟨tb_s3 123 rfl rfl, tb_p 17 rfl rfl⟩
set_option maxRecDepth 100000 in
theorem mi_X9_leavesAll : MI yX9_leavesAll cX9_leavesAll 8 (some .boolean) 4 := ⟨tb_s4 81 rfl rfl, tb_s1 1 rfl rfl, by decide +kernel, by decide +kernel, by decide +kernel⟩
set_option maxRecDepth 100000 in
theorem mv_X9_leavesAll : MV yX9_leavesAll := ⟨tb_s4 80 rfl rfl, tb_p 28 rfl rfl⟩
set_option maxRecDepth 100000 in
theorem mi_X9_lookAt : MI yX9_lookAt cX9_lookAt 3 none 1 := ⟨tb_s3 47 rfl rfl, tb_s1 1 rfl rfl, by decide +kernel, by decide +kernel, by decide +kernel⟩
set_option maxRecDepth 100000 in
theorem mv_X9_lookAt : MV yX9_lookAt := ⟨tb_s3 46 rfl rfl, tb_p 13 rfl rfl⟩
set_option maxRecDepth 100000 in
theorem mi_X9_onWay : MI yX9_onWay cX9_onWay 4 (some .int) 4 := ⟨tb_s4 89 rfl rfl, tb_s1 1 rfl rfl, by decide +kernel, by decide +kernel, by decide +kernel⟩
set_option maxRecDepth 100000 in
theorem ms_X9_onWay : Cond.static yX9_onWay ∈ GW := tb_s4 88 rfl rfl
set_option maxRecDepth 100000 in
theorem mi_X9_openTreaty : MI yX9_openTreaty cX9_openTreaty 6 (some .int) 3 := ⟨tb_s2 231 rfl rfl, tb_s1 1 rfl rfl, by decide +kernel, by decide +kernel, by decide +kernel⟩
set_option maxRecDepth 100000 in
theorem mv_X9_openTreaty : MV yX9_openTreaty := ⟨tb_s2 230 rfl rfl, tb_p 9 rfl rfl⟩
set_option maxRecDepth 100000 in
theorem mi_X9_passedTreaties : MI yX9_passedTreaties cX9_passedTreaties 4 (some .int) 0 := ⟨tb_s5 3 rfl rfl, tb_s1 1 rfl rfl, by decide +kernel, by decide +kernel, by decide +kernel⟩
set_option maxRecDepth 100000 in
theorem mv_X9_passedTreaties : MV yX9_passedTreaties := ⟨tb_s5 2 rfl rfl, tb_p 34 rfl rfl⟩
set_option maxRecDepth 100000 in
theorem mi_X9_sides : MI yX9_sides cX9_sides 15 (some .int) 6 := ⟨tb_s3 25 rfl rfl, tb_s1 1 rfl rfl, by decide +kernel, by decide +kernel, by decide +kernel⟩
set_option maxRecDepth 100000 in
theorem ms_X9_sides : Cond.static yX9_sides ∈ GW := tb_s3 24 rfl rfl
set_option maxRecDepth 100000 in
theorem mi_X9_tell : MI yX9_tell cX9_tell 7 none 4 := ⟨tb_s3 96 rfl rfl, tb_s1 1 rfl rfl, by decide +kernel, by decide +kernel, by decide +kernel⟩
set_option maxRecDepth 100000 in
theorem mv_X9_tell : MV yX9_tell := ⟨tb_s3 95 rfl rfl, tb_p 16 rfl rfl⟩
set_option maxRecDepth 100000 in
theorem mi_X9_treatyAt : MI yX9_treatyAt cX9_treatyAt 2 (some (.object "RiskDesk$Treaty")) 1 := ⟨tb_s3 51 rfl rfl, tb_s1 1 rfl rfl, by decide +kernel, by decide +kernel, by decide +kernel⟩
set_option maxRecDepth 100000 in
theorem mv_X9_treatyAt : MV yX9_treatyAt := ⟨tb_s3 50 rfl rfl, tb_p 14 rfl rfl⟩
