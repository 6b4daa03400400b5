/-! every method is as its table says: by the kernel -/
set_option maxRecDepth 1000000 in
theorem mb_120 : mBB 120 = true := by decide +kernel
set_option maxRecDepth 1000000 in
theorem mb_121 : mBB 121 = true := by decide +kernel
set_option maxRecDepth 1000000 in
theorem mb_122 : mBB 122 = true := by decide +kernel
set_option maxRecDepth 1000000 in
theorem mb_123 : mBB 123 = true := by decide +kernel
set_option maxRecDepth 1000000 in
theorem mb_124 : mBB 124 = true := by decide +kernel
set_option maxRecDepth 1000000 in
theorem mb_125 : mBB 125 = true := by decide +kernel
set_option maxRecDepth 1000000 in
theorem mb_126 : mBB 126 = true := by decide +kernel
set_option maxRecDepth 1000000 in
theorem mb_127 : mBB 127 = true := by decide +kernel
set_option maxRecDepth 1000000 in
theorem mb_128 : mBB 128 = true := by decide +kernel
set_option maxRecDepth 1000000 in
theorem mb_129 : mBB 129 = true := by decide +kernel
set_option maxRecDepth 1000000 in
theorem mb_130 : mBB 130 = true := by decide +kernel
set_option maxRecDepth 1000000 in
theorem mb_131 : mBB 131 = true := by decide +kernel
set_option maxRecDepth 1000000 in
theorem mb_132 : mBB 132 = true := by decide +kernel
set_option maxRecDepth 1000000 in
theorem mb_133 : mBB 133 = true := by decide +kernel
set_option maxRecDepth 1000000 in
theorem mb_134 : mBB 134 = true := by decide +kernel
set_option maxRecDepth 1000000 in
theorem mb_135 : mBB 135 = true := by decide +kernel
set_option maxRecDepth 1000000 in
theorem mb_136 : mBB 136 = true := by decide +kernel
set_option maxRecDepth 1000000 in
theorem mb_137 : mBB 137 = true := by decide +kernel
set_option maxRecDepth 1000000 in
theorem mb_138 : mBB 138 = true := by decide +kernel
set_option maxRecDepth 1000000 in
theorem mb_139 : mBB 139 = true := by decide +kernel
set_option maxRecDepth 1000000 in
theorem mb_140 : mBB 140 = true := by decide +kernel
set_option maxRecDepth 1000000 in
theorem mb_141 : mBB 141 = true := by decide +kernel
set_option maxRecDepth 1000000 in
theorem mb_142 : mBB 142 = true := by decide +kernel
set_option maxRecDepth 1000000 in
theorem mb_143 : mBB 143 = true := by decide +kernel
set_option maxRecDepth 1000000 in
theorem mb_144 : mBB 144 = true := by decide +kernel
set_option maxRecDepth 1000000 in
theorem mb_145 : mBB 145 = true := by decide +kernel
set_option maxRecDepth 1000000 in
theorem mb_146 : mBB 146 = true := by decide +kernel
set_option maxRecDepth 1000000 in
theorem mb_147 : mBB 147 = true := by decide +kernel
set_option maxRecDepth 1000000 in
theorem mb_148 : mBB 148 = true := by decide +kernel
set_option maxRecDepth 1000000 in
theorem mb_149 : mBB 149 = true := by decide +kernel
set_option maxRecDepth 1000000 in
theorem mb_150 : mBB 150 = true := by decide +kernel
set_option maxRecDepth 1000000 in
theorem mb_151 : mBB 151 = true := by decide +kernel
set_option maxRecDepth 1000000 in
theorem mb_152 : mBB 152 = true := by decide +kernel
set_option maxRecDepth 1000000 in
theorem mb_153 : mBB 153 = true := by decide +kernel
set_option maxRecDepth 1000000 in
theorem mb_154 : mBB 154 = true := by decide +kernel
set_option maxRecDepth 1000000 in
theorem mb_155 : mBB 155 = true := by decide +kernel
set_option maxRecDepth 1000000 in
theorem mb_156 : mBB 156 = true := by decide +kernel
set_option maxRecDepth 1000000 in
theorem mb_157 : mBB 157 = true := by decide +kernel
set_option maxRecDepth 1000000 in
theorem mb_158 : mBB 158 = true := by decide +kernel
set_option maxRecDepth 1000000 in
theorem mb_159 : mBB 159 = true := by decide +kernel
theorem mbc_3 : ∀ j, j < 40 → mBB (120 + j) = true
  | 0, _ => mb_120
  | 1, _ => mb_121
  | 2, _ => mb_122
  | 3, _ => mb_123
  | 4, _ => mb_124
  | 5, _ => mb_125
  | 6, _ => mb_126
  | 7, _ => mb_127
  | 8, _ => mb_128
  | 9, _ => mb_129
  | 10, _ => mb_130
  | 11, _ => mb_131
  | 12, _ => mb_132
  | 13, _ => mb_133
  | 14, _ => mb_134
  | 15, _ => mb_135
  | 16, _ => mb_136
  | 17, _ => mb_137
  | 18, _ => mb_138
  | 19, _ => mb_139
  | 20, _ => mb_140
  | 21, _ => mb_141
  | 22, _ => mb_142
  | 23, _ => mb_143
  | 24, _ => mb_144
  | 25, _ => mb_145
  | 26, _ => mb_146
  | 27, _ => mb_147
  | 28, _ => mb_148
  | 29, _ => mb_149
  | 30, _ => mb_150
  | 31, _ => mb_151
  | 32, _ => mb_152
  | 33, _ => mb_153
  | 34, _ => mb_154
  | 35, _ => mb_155
  | 36, _ => mb_156
  | 37, _ => mb_157
  | 38, _ => mb_158
  | 39, _ => mb_159
  | j + 40, h => absurd h (by omega)
set_option maxRecDepth 1000000 in
theorem mb_160 : mBB 160 = true := by decide +kernel
set_option maxRecDepth 1000000 in
theorem mb_161 : mBB 161 = true := by decide +kernel
set_option maxRecDepth 1000000 in
theorem mb_162 : mBB 162 = true := by decide +kernel
set_option maxRecDepth 1000000 in
theorem mb_163 : mBB 163 = true := by decide +kernel
set_option maxRecDepth 1000000 in
theorem mb_164 : mBB 164 = true := by decide +kernel
set_option maxRecDepth 1000000 in
theorem mb_165 : mBB 165 = true := by decide +kernel
set_option maxRecDepth 1000000 in
theorem mb_166 : mBB 166 = true := by decide +kernel
set_option maxRecDepth 1000000 in
theorem mb_167 : mBB 167 = true := by decide +kernel
set_option maxRecDepth 1000000 in
theorem mb_168 : mBB 168 = true := by decide +kernel
set_option maxRecDepth 1000000 in
theorem mb_169 : mBB 169 = true := by decide +kernel
set_option maxRecDepth 1000000 in
theorem mb_170 : mBB 170 = true := by decide +kernel
set_option maxRecDepth 1000000 in
theorem mb_171 : mBB 171 = true := by decide +kernel
set_option maxRecDepth 1000000 in
theorem mb_172 : mBB 172 = true := by decide +kernel
set_option maxRecDepth 1000000 in
theorem mb_173 : mBB 173 = true := by decide +kernel
set_option maxRecDepth 1000000 in
theorem mb_174 : mBB 174 = true := by decide +kernel
set_option maxRecDepth 1000000 in
theorem mb_175 : mBB 175 = true := by decide +kernel
set_option maxRecDepth 1000000 in
theorem mb_176 : mBB 176 = true := by decide +kernel
set_option maxRecDepth 1000000 in
theorem mb_177 : mBB 177 = true := by decide +kernel
set_option maxRecDepth 1000000 in
theorem mb_178 : mBB 178 = true := by decide +kernel
set_option maxRecDepth 1000000 in
theorem mb_179 : mBB 179 = true := by decide +kernel
set_option maxRecDepth 1000000 in
theorem mb_180 : mBB 180 = true := by decide +kernel
set_option maxRecDepth 1000000 in
theorem mb_181 : mBB 181 = true := by decide +kernel
set_option maxRecDepth 1000000 in
theorem mb_182 : mBB 182 = true := by decide +kernel
set_option maxRecDepth 1000000 in
theorem mb_183 : mBB 183 = true := by decide +kernel
set_option maxRecDepth 1000000 in
theorem mb_184 : mBB 184 = true := by decide +kernel
set_option maxRecDepth 1000000 in
theorem mb_185 : mBB 185 = true := by decide +kernel
set_option maxRecDepth 1000000 in
theorem mb_186 : mBB 186 = true := by decide +kernel
set_option maxRecDepth 1000000 in
theorem mb_187 : mBB 187 = true := by decide +kernel
set_option maxRecDepth 1000000 in
theorem mb_188 : mBB 188 = true := by decide +kernel
set_option maxRecDepth 1000000 in
theorem mb_189 : mBB 189 = true := by decide +kernel
set_option maxRecDepth 1000000 in
theorem mb_190 : mBB 190 = true := by decide +kernel
set_option maxRecDepth 1000000 in
theorem mb_191 : mBB 191 = true := by decide +kernel
set_option maxRecDepth 1000000 in
theorem mb_192 : mBB 192 = true := by decide +kernel
set_option maxRecDepth 1000000 in
theorem mb_193 : mBB 193 = true := by decide +kernel
set_option maxRecDepth 1000000 in
theorem mb_194 : mBB 194 = true := by decide +kernel
set_option maxRecDepth 1000000 in
theorem mb_195 : mBB 195 = true := by decide +kernel
set_option maxRecDepth 1000000 in
theorem mb_196 : mBB 196 = true := by decide +kernel
set_option maxRecDepth 1000000 in
theorem mb_197 : mBB 197 = true := by decide +kernel
set_option maxRecDepth 1000000 in
theorem mb_198 : mBB 198 = true := by decide +kernel
set_option maxRecDepth 1000000 in
theorem mb_199 : mBB 199 = true := by decide +kernel
theorem mbc_4 : ∀ j, j < 40 → mBB (160 + j) = true
  | 0, _ => mb_160
  | 1, _ => mb_161
  | 2, _ => mb_162
  | 3, _ => mb_163
  | 4, _ => mb_164
  | 5, _ => mb_165
  | 6, _ => mb_166
  | 7, _ => mb_167
  | 8, _ => mb_168
  | 9, _ => mb_169
  | 10, _ => mb_170
  | 11, _ => mb_171
  | 12, _ => mb_172
  | 13, _ => mb_173
  | 14, _ => mb_174
  | 15, _ => mb_175
  | 16, _ => mb_176
  | 17, _ => mb_177
  | 18, _ => mb_178
  | 19, _ => mb_179
  | 20, _ => mb_180
  | 21, _ => mb_181
  | 22, _ => mb_182
  | 23, _ => mb_183
  | 24, _ => mb_184
  | 25, _ => mb_185
  | 26, _ => mb_186
  | 27, _ => mb_187
  | 28, _ => mb_188
  | 29, _ => mb_189
  | 30, _ => mb_190
  | 31, _ => mb_191
  | 32, _ => mb_192
  | 33, _ => mb_193
  | 34, _ => mb_194
  | 35, _ => mb_195
  | 36, _ => mb_196
  | 37, _ => mb_197
  | 38, _ => mb_198
  | 39, _ => mb_199
  | j + 40, h => absurd h (by omega)
set_option maxRecDepth 1000000 in
theorem mb_200 : mBB 200 = true := by decide +kernel
set_option maxRecDepth 1000000 in
theorem mb_201 : mBB 201 = true := by decide +kernel
set_option maxRecDepth 1000000 in
theorem mb_202 : mBB 202 = true := by decide +kernel
set_option maxRecDepth 1000000 in
theorem mb_203 : mBB 203 = true := by decide +kernel
set_option maxRecDepth 1000000 in
theorem mb_204 : mBB 204 = true := by decide +kernel
set_option maxRecDepth 1000000 in
theorem mb_205 : mBB 205 = true := by decide +kernel
set_option maxRecDepth 1000000 in
theorem mb_206 : mBB 206 = true := by decide +kernel
set_option maxRecDepth 1000000 in
theorem mb_207 : mBB 207 = true := by decide +kernel
set_option maxRecDepth 1000000 in
theorem mb_208 : mBB 208 = true := by decide +kernel
set_option maxRecDepth 1000000 in
theorem mb_209 : mBB 209 = true := by decide +kernel
set_option maxRecDepth 1000000 in
theorem mb_210 : mBB 210 = true := by decide +kernel
set_option maxRecDepth 1000000 in
theorem mb_211 : mBB 211 = true := by decide +kernel
set_option maxRecDepth 1000000 in
theorem mb_212 : mBB 212 = true := by decide +kernel
set_option maxRecDepth 1000000 in
theorem mb_213 : mBB 213 = true := by decide +kernel
set_option maxRecDepth 1000000 in
theorem mb_214 : mBB 214 = true := by decide +kernel
set_option maxRecDepth 1000000 in
theorem mb_215 : mBB 215 = true := by decide +kernel
set_option maxRecDepth 1000000 in
theorem mb_216 : mBB 216 = true := by decide +kernel
set_option maxRecDepth 1000000 in
theorem mb_217 : mBB 217 = true := by decide +kernel
set_option maxRecDepth 1000000 in
theorem mb_218 : mBB 218 = true := by decide +kernel
set_option maxRecDepth 1000000 in
theorem mb_219 : mBB 219 = true := by decide +kernel
set_option maxRecDepth 1000000 in
theorem mb_220 : mBB 220 = true := by decide +kernel
set_option maxRecDepth 1000000 in
theorem mb_221 : mBB 221 = true := by decide +kernel
set_option maxRecDepth 1000000 in
theorem mb_222 : mBB 222 = true := by decide +kernel
set_option maxRecDepth 1000000 in
theorem mb_223 : mBB 223 = true := by decide +kernel
set_option maxRecDepth 1000000 in
theorem mb_224 : mBB 224 = true := by decide +kernel
set_option maxRecDepth 1000000 in
theorem mb_225 : mBB 225 = true := by decide +kernel
set_option maxRecDepth 1000000 in
theorem mb_226 : mBB 226 = true := by decide +kernel
set_option maxRecDepth 1000000 in
theorem mb_227 : mBB 227 = true := by decide +kernel
set_option maxRecDepth 1000000 in
theorem mb_228 : mBB 228 = true := by decide +kernel
set_option maxRecDepth 1000000 in
theorem mb_229 : mBB 229 = true := by decide +kernel
set_option maxRecDepth 1000000 in
theorem mb_230 : mBB 230 = true := by decide +kernel
set_option maxRecDepth 1000000 in
theorem mb_231 : mBB 231 = true := by decide +kernel
set_option maxRecDepth 1000000 in
theorem mb_232 : mBB 232 = true := by decide +kernel
set_option maxRecDepth 1000000 in
theorem mb_233 : mBB 233 = true := by decide +kernel
set_option maxRecDepth 1000000 in
theorem mb_234 : mBB 234 = true := by decide +kernel
set_option maxRecDepth 1000000 in
theorem mb_235 : mBB 235 = true := by decide +kernel
set_option maxRecDepth 1000000 in
theorem mb_236 : mBB 236 = true := by decide +kernel
set_option maxRecDepth 1000000 in
theorem mb_237 : mBB 237 = true := by decide +kernel
set_option maxRecDepth 1000000 in
theorem mb_238 : mBB 238 = true := by decide +kernel
set_option maxRecDepth 1000000 in
theorem mb_239 : mBB 239 = true := by decide +kernel
theorem mbc_5 : ∀ j, j < 40 → mBB (200 + j) = true
  | 0, _ => mb_200
  | 1, _ => mb_201
  | 2, _ => mb_202
  | 3, _ => mb_203
  | 4, _ => mb_204
  | 5, _ => mb_205
  | 6, _ => mb_206
  | 7, _ => mb_207
  | 8, _ => mb_208
  | 9, _ => mb_209
  | 10, _ => mb_210
  | 11, _ => mb_211
  | 12, _ => mb_212
  | 13, _ => mb_213
  | 14, _ => mb_214
  | 15, _ => mb_215
  | 16, _ => mb_216
  | 17, _ => mb_217
  | 18, _ => mb_218
  | 19, _ => mb_219
  | 20, _ => mb_220
  | 21, _ => mb_221
  | 22, _ => mb_222
  | 23, _ => mb_223
  | 24, _ => mb_224
  | 25, _ => mb_225
  | 26, _ => mb_226
  | 27, _ => mb_227
  | 28, _ => mb_228
  | 29, _ => mb_229
  | 30, _ => mb_230
  | 31, _ => mb_231
  | 32, _ => mb_232
  | 33, _ => mb_233
  | 34, _ => mb_234
  | 35, _ => mb_235
  | 36, _ => mb_236
  | 37, _ => mb_237
  | 38, _ => mb_238
  | 39, _ => mb_239
  | j + 40, h => absurd h (by omega)
