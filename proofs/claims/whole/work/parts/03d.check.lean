theorem xrg_0 (i : Nat) (h : i < 20) (h2 : 20 * 0 + i < 332) : xr (20 * 0 + i) = true := by
  match i, h, h2 with
  | 0, _, _ => exact xr_0
  | 1, _, _ => exact xr_1
  | 2, _, _ => exact xr_2
  | 3, _, _ => exact xr_3
  | 4, _, _ => exact xr_4
  | 5, _, _ => exact xr_5
  | 6, _, _ => exact xr_6
  | 7, _, _ => exact xr_7
  | 8, _, _ => exact xr_8
  | 9, _, _ => exact xr_9
  | 10, _, _ => exact xr_10
  | 11, _, _ => exact xr_11
  | 12, _, _ => exact xr_12
  | 13, _, _ => exact xr_13
  | 14, _, _ => exact xr_14
  | 15, _, _ => exact xr_15
  | 16, _, _ => exact xr_16
  | 17, _, _ => exact xr_17
  | 18, _, _ => exact xr_18
  | 19, _, _ => exact xr_19
  | _ + 20, h, h2 => omega
theorem xrg_1 (i : Nat) (h : i < 20) (h2 : 20 * 1 + i < 332) : xr (20 * 1 + i) = true := by
  match i, h, h2 with
  | 0, _, _ => exact xr_20
  | 1, _, _ => exact xr_21
  | 2, _, _ => exact xr_22
  | 3, _, _ => exact xr_23
  | 4, _, _ => exact xr_24
  | 5, _, _ => exact xr_25
  | 6, _, _ => exact xr_26
  | 7, _, _ => exact xr_27
  | 8, _, _ => exact xr_28
  | 9, _, _ => exact xr_29
  | 10, _, _ => exact xr_30
  | 11, _, _ => exact xr_31
  | 12, _, _ => exact xr_32
  | 13, _, _ => exact xr_33
  | 14, _, _ => exact xr_34
  | 15, _, _ => exact xr_35
  | 16, _, _ => exact xr_36
  | 17, _, _ => exact xr_37
  | 18, _, _ => exact xr_38
  | 19, _, _ => exact xr_39
  | _ + 20, h, h2 => omega
theorem xrg_2 (i : Nat) (h : i < 20) (h2 : 20 * 2 + i < 332) : xr (20 * 2 + i) = true := by
  match i, h, h2 with
  | 0, _, _ => exact xr_40
  | 1, _, _ => exact xr_41
  | 2, _, _ => exact xr_42
  | 3, _, _ => exact xr_43
  | 4, _, _ => exact xr_44
  | 5, _, _ => exact xr_45
  | 6, _, _ => exact xr_46
  | 7, _, _ => exact xr_47
  | 8, _, _ => exact xr_48
  | 9, _, _ => exact xr_49
  | 10, _, _ => exact xr_50
  | 11, _, _ => exact xr_51
  | 12, _, _ => exact xr_52
  | 13, _, _ => exact xr_53
  | 14, _, _ => exact xr_54
  | 15, _, _ => exact xr_55
  | 16, _, _ => exact xr_56
  | 17, _, _ => exact xr_57
  | 18, _, _ => exact xr_58
  | 19, _, _ => exact xr_59
  | _ + 20, h, h2 => omega
theorem xrg_3 (i : Nat) (h : i < 20) (h2 : 20 * 3 + i < 332) : xr (20 * 3 + i) = true := by
  match i, h, h2 with
  | 0, _, _ => exact xr_60
  | 1, _, _ => exact xr_61
  | 2, _, _ => exact xr_62
  | 3, _, _ => exact xr_63
  | 4, _, _ => exact xr_64
  | 5, _, _ => exact xr_65
  | 6, _, _ => exact xr_66
  | 7, _, _ => exact xr_67
  | 8, _, _ => exact xr_68
  | 9, _, _ => exact xr_69
  | 10, _, _ => exact xr_70
  | 11, _, _ => exact xr_71
  | 12, _, _ => exact xr_72
  | 13, _, _ => exact xr_73
  | 14, _, _ => exact xr_74
  | 15, _, _ => exact xr_75
  | 16, _, _ => exact xr_76
  | 17, _, _ => exact xr_77
  | 18, _, _ => exact xr_78
  | 19, _, _ => exact xr_79
  | _ + 20, h, h2 => omega
theorem xrg_4 (i : Nat) (h : i < 20) (h2 : 20 * 4 + i < 332) : xr (20 * 4 + i) = true := by
  match i, h, h2 with
  | 0, _, _ => exact xr_80
  | 1, _, _ => exact xr_81
  | 2, _, _ => exact xr_82
  | 3, _, _ => exact xr_83
  | 4, _, _ => exact xr_84
  | 5, _, _ => exact xr_85
  | 6, _, _ => exact xr_86
  | 7, _, _ => exact xr_87
  | 8, _, _ => exact xr_88
  | 9, _, _ => exact xr_89
  | 10, _, _ => exact xr_90
  | 11, _, _ => exact xr_91
  | 12, _, _ => exact xr_92
  | 13, _, _ => exact xr_93
  | 14, _, _ => exact xr_94
  | 15, _, _ => exact xr_95
  | 16, _, _ => exact xr_96
  | 17, _, _ => exact xr_97
  | 18, _, _ => exact xr_98
  | 19, _, _ => exact xr_99
  | _ + 20, h, h2 => omega
theorem xrg_5 (i : Nat) (h : i < 20) (h2 : 20 * 5 + i < 332) : xr (20 * 5 + i) = true := by
  match i, h, h2 with
  | 0, _, _ => exact xr_100
  | 1, _, _ => exact xr_101
  | 2, _, _ => exact xr_102
  | 3, _, _ => exact xr_103
  | 4, _, _ => exact xr_104
  | 5, _, _ => exact xr_105
  | 6, _, _ => exact xr_106
  | 7, _, _ => exact xr_107
  | 8, _, _ => exact xr_108
  | 9, _, _ => exact xr_109
  | 10, _, _ => exact xr_110
  | 11, _, _ => exact xr_111
  | 12, _, _ => exact xr_112
  | 13, _, _ => exact xr_113
  | 14, _, _ => exact xr_114
  | 15, _, _ => exact xr_115
  | 16, _, _ => exact xr_116
  | 17, _, _ => exact xr_117
  | 18, _, _ => exact xr_118
  | 19, _, _ => exact xr_119
  | _ + 20, h, h2 => omega
theorem xrg_6 (i : Nat) (h : i < 20) (h2 : 20 * 6 + i < 332) : xr (20 * 6 + i) = true := by
  match i, h, h2 with
  | 0, _, _ => exact xr_120
  | 1, _, _ => exact xr_121
  | 2, _, _ => exact xr_122
  | 3, _, _ => exact xr_123
  | 4, _, _ => exact xr_124
  | 5, _, _ => exact xr_125
  | 6, _, _ => exact xr_126
  | 7, _, _ => exact xr_127
  | 8, _, _ => exact xr_128
  | 9, _, _ => exact xr_129
  | 10, _, _ => exact xr_130
  | 11, _, _ => exact xr_131
  | 12, _, _ => exact xr_132
  | 13, _, _ => exact xr_133
  | 14, _, _ => exact xr_134
  | 15, _, _ => exact xr_135
  | 16, _, _ => exact xr_136
  | 17, _, _ => exact xr_137
  | 18, _, _ => exact xr_138
  | 19, _, _ => exact xr_139
  | _ + 20, h, h2 => omega
theorem xrg_7 (i : Nat) (h : i < 20) (h2 : 20 * 7 + i < 332) : xr (20 * 7 + i) = true := by
  match i, h, h2 with
  | 0, _, _ => exact xr_140
  | 1, _, _ => exact xr_141
  | 2, _, _ => exact xr_142
  | 3, _, _ => exact xr_143
  | 4, _, _ => exact xr_144
  | 5, _, _ => exact xr_145
  | 6, _, _ => exact xr_146
  | 7, _, _ => exact xr_147
  | 8, _, _ => exact xr_148
  | 9, _, _ => exact xr_149
  | 10, _, _ => exact xr_150
  | 11, _, _ => exact xr_151
  | 12, _, _ => exact xr_152
  | 13, _, _ => exact xr_153
  | 14, _, _ => exact xr_154
  | 15, _, _ => exact xr_155
  | 16, _, _ => exact xr_156
  | 17, _, _ => exact xr_157
  | 18, _, _ => exact xr_158
  | 19, _, _ => exact xr_159
  | _ + 20, h, h2 => omega
theorem xrg_8 (i : Nat) (h : i < 20) (h2 : 20 * 8 + i < 332) : xr (20 * 8 + i) = true := by
  match i, h, h2 with
  | 0, _, _ => exact xr_160
  | 1, _, _ => exact xr_161
  | 2, _, _ => exact xr_162
  | 3, _, _ => exact xr_163
  | 4, _, _ => exact xr_164
  | 5, _, _ => exact xr_165
  | 6, _, _ => exact xr_166
  | 7, _, _ => exact xr_167
  | 8, _, _ => exact xr_168
  | 9, _, _ => exact xr_169
  | 10, _, _ => exact xr_170
  | 11, _, _ => exact xr_171
  | 12, _, _ => exact xr_172
  | 13, _, _ => exact xr_173
  | 14, _, _ => exact xr_174
  | 15, _, _ => exact xr_175
  | 16, _, _ => exact xr_176
  | 17, _, _ => exact xr_177
  | 18, _, _ => exact xr_178
  | 19, _, _ => exact xr_179
  | _ + 20, h, h2 => omega
theorem xrg_9 (i : Nat) (h : i < 20) (h2 : 20 * 9 + i < 332) : xr (20 * 9 + i) = true := by
  match i, h, h2 with
  | 0, _, _ => exact xr_180
  | 1, _, _ => exact xr_181
  | 2, _, _ => exact xr_182
  | 3, _, _ => exact xr_183
  | 4, _, _ => exact xr_184
  | 5, _, _ => exact xr_185
  | 6, _, _ => exact xr_186
  | 7, _, _ => exact xr_187
  | 8, _, _ => exact xr_188
  | 9, _, _ => exact xr_189
  | 10, _, _ => exact xr_190
  | 11, _, _ => exact xr_191
  | 12, _, _ => exact xr_192
  | 13, _, _ => exact xr_193
  | 14, _, _ => exact xr_194
  | 15, _, _ => exact xr_195
  | 16, _, _ => exact xr_196
  | 17, _, _ => exact xr_197
  | 18, _, _ => exact xr_198
  | 19, _, _ => exact xr_199
  | _ + 20, h, h2 => omega
theorem xrg_10 (i : Nat) (h : i < 20) (h2 : 20 * 10 + i < 332) : xr (20 * 10 + i) = true := by
  match i, h, h2 with
  | 0, _, _ => exact xr_200
  | 1, _, _ => exact xr_201
  | 2, _, _ => exact xr_202
  | 3, _, _ => exact xr_203
  | 4, _, _ => exact xr_204
  | 5, _, _ => exact xr_205
  | 6, _, _ => exact xr_206
  | 7, _, _ => exact xr_207
  | 8, _, _ => exact xr_208
  | 9, _, _ => exact xr_209
  | 10, _, _ => exact xr_210
  | 11, _, _ => exact xr_211
  | 12, _, _ => exact xr_212
  | 13, _, _ => exact xr_213
  | 14, _, _ => exact xr_214
  | 15, _, _ => exact xr_215
  | 16, _, _ => exact xr_216
  | 17, _, _ => exact xr_217
  | 18, _, _ => exact xr_218
  | 19, _, _ => exact xr_219
  | _ + 20, h, h2 => omega
theorem xrg_11 (i : Nat) (h : i < 20) (h2 : 20 * 11 + i < 332) : xr (20 * 11 + i) = true := by
  match i, h, h2 with
  | 0, _, _ => exact xr_220
  | 1, _, _ => exact xr_221
  | 2, _, _ => exact xr_222
  | 3, _, _ => exact xr_223
  | 4, _, _ => exact xr_224
  | 5, _, _ => exact xr_225
  | 6, _, _ => exact xr_226
  | 7, _, _ => exact xr_227
  | 8, _, _ => exact xr_228
  | 9, _, _ => exact xr_229
  | 10, _, _ => exact xr_230
  | 11, _, _ => exact xr_231
  | 12, _, _ => exact xr_232
  | 13, _, _ => exact xr_233
  | 14, _, _ => exact xr_234
  | 15, _, _ => exact xr_235
  | 16, _, _ => exact xr_236
  | 17, _, _ => exact xr_237
  | 18, _, _ => exact xr_238
  | 19, _, _ => exact xr_239
  | _ + 20, h, h2 => omega
theorem xrg_12 (i : Nat) (h : i < 20) (h2 : 20 * 12 + i < 332) : xr (20 * 12 + i) = true := by
  match i, h, h2 with
  | 0, _, _ => exact xr_240
  | 1, _, _ => exact xr_241
  | 2, _, _ => exact xr_242
  | 3, _, _ => exact xr_243
  | 4, _, _ => exact xr_244
  | 5, _, _ => exact xr_245
  | 6, _, _ => exact xr_246
  | 7, _, _ => exact xr_247
  | 8, _, _ => exact xr_248
  | 9, _, _ => exact xr_249
  | 10, _, _ => exact xr_250
  | 11, _, _ => exact xr_251
  | 12, _, _ => exact xr_252
  | 13, _, _ => exact xr_253
  | 14, _, _ => exact xr_254
  | 15, _, _ => exact xr_255
  | 16, _, _ => exact xr_256
  | 17, _, _ => exact xr_257
  | 18, _, _ => exact xr_258
  | 19, _, _ => exact xr_259
  | _ + 20, h, h2 => omega
theorem xrg_13 (i : Nat) (h : i < 20) (h2 : 20 * 13 + i < 332) : xr (20 * 13 + i) = true := by
  match i, h, h2 with
  | 0, _, _ => exact xr_260
  | 1, _, _ => exact xr_261
  | 2, _, _ => exact xr_262
  | 3, _, _ => exact xr_263
  | 4, _, _ => exact xr_264
  | 5, _, _ => exact xr_265
  | 6, _, _ => exact xr_266
  | 7, _, _ => exact xr_267
  | 8, _, _ => exact xr_268
  | 9, _, _ => exact xr_269
  | 10, _, _ => exact xr_270
  | 11, _, _ => exact xr_271
  | 12, _, _ => exact xr_272
  | 13, _, _ => exact xr_273
  | 14, _, _ => exact xr_274
  | 15, _, _ => exact xr_275
  | 16, _, _ => exact xr_276
  | 17, _, _ => exact xr_277
  | 18, _, _ => exact xr_278
  | 19, _, _ => exact xr_279
  | _ + 20, h, h2 => omega
theorem xrg_14 (i : Nat) (h : i < 20) (h2 : 20 * 14 + i < 332) : xr (20 * 14 + i) = true := by
  match i, h, h2 with
  | 0, _, _ => exact xr_280
  | 1, _, _ => exact xr_281
  | 2, _, _ => exact xr_282
  | 3, _, _ => exact xr_283
  | 4, _, _ => exact xr_284
  | 5, _, _ => exact xr_285
  | 6, _, _ => exact xr_286
  | 7, _, _ => exact xr_287
  | 8, _, _ => exact xr_288
  | 9, _, _ => exact xr_289
  | 10, _, _ => exact xr_290
  | 11, _, _ => exact xr_291
  | 12, _, _ => exact xr_292
  | 13, _, _ => exact xr_293
  | 14, _, _ => exact xr_294
  | 15, _, _ => exact xr_295
  | 16, _, _ => exact xr_296
  | 17, _, _ => exact xr_297
  | 18, _, _ => exact xr_298
  | 19, _, _ => exact xr_299
  | _ + 20, h, h2 => omega
theorem xrg_15 (i : Nat) (h : i < 20) (h2 : 20 * 15 + i < 332) : xr (20 * 15 + i) = true := by
  match i, h, h2 with
  | 0, _, _ => exact xr_300
  | 1, _, _ => exact xr_301
  | 2, _, _ => exact xr_302
  | 3, _, _ => exact xr_303
  | 4, _, _ => exact xr_304
  | 5, _, _ => exact xr_305
  | 6, _, _ => exact xr_306
  | 7, _, _ => exact xr_307
  | 8, _, _ => exact xr_308
  | 9, _, _ => exact xr_309
  | 10, _, _ => exact xr_310
  | 11, _, _ => exact xr_311
  | 12, _, _ => exact xr_312
  | 13, _, _ => exact xr_313
  | 14, _, _ => exact xr_314
  | 15, _, _ => exact xr_315
  | 16, _, _ => exact xr_316
  | 17, _, _ => exact xr_317
  | 18, _, _ => exact xr_318
  | 19, _, _ => exact xr_319
  | _ + 20, h, h2 => omega
theorem xrg_16 (i : Nat) (h : i < 20) (h2 : 20 * 16 + i < 332) : xr (20 * 16 + i) = true := by
  match i, h, h2 with
  | 0, _, _ => exact xr_320
  | 1, _, _ => exact xr_321
  | 2, _, _ => exact xr_322
  | 3, _, _ => exact xr_323
  | 4, _, _ => exact xr_324
  | 5, _, _ => exact xr_325
  | 6, _, _ => exact xr_326
  | 7, _, _ => exact xr_327
  | 8, _, _ => exact xr_328
  | 9, _, _ => exact xr_329
  | 10, _, _ => exact xr_330
  | 11, _, _ => exact xr_331
  | _ + 12, h, h2 => omega
theorem xr_all (m : Nat) (h : m < 332) : xr m = true := by
  have e : 20 * (m / 20) + m % 20 = m := by omega
  have key : ∀ j, j < 17 → ∀ i, i < 20 → 20 * j + i < 332 → xr (20 * j + i) = true := by
    intro j hj i hi h2
    match j, hj, h2 with
    | 0, _, h2 => exact xrg_0 i hi h2
    | 1, _, h2 => exact xrg_1 i hi h2
    | 2, _, h2 => exact xrg_2 i hi h2
    | 3, _, h2 => exact xrg_3 i hi h2
    | 4, _, h2 => exact xrg_4 i hi h2
    | 5, _, h2 => exact xrg_5 i hi h2
    | 6, _, h2 => exact xrg_6 i hi h2
    | 7, _, h2 => exact xrg_7 i hi h2
    | 8, _, h2 => exact xrg_8 i hi h2
    | 9, _, h2 => exact xrg_9 i hi h2
    | 10, _, h2 => exact xrg_10 i hi h2
    | 11, _, h2 => exact xrg_11 i hi h2
    | 12, _, h2 => exact xrg_12 i hi h2
    | 13, _, h2 => exact xrg_13 i hi h2
    | 14, _, h2 => exact xrg_14 i hi h2
    | 15, _, h2 => exact xrg_15 i hi h2
    | 16, _, h2 => exact xrg_16 i hi h2
    | _ + 17, h, _ => omega
  have := key (m / 20) (by omega) (m % 20) (by omega) (by omega)
  rw [e] at this
  exact this
theorem xmk_all (j : Nat) (h : j < 17) : (List.range 20).all (fun i => Nat.ble 332 (20 * j + i) || xmok (20 * j + i)) = true := by
  match j, h with
  | 0, _ => exact xmk_0
  | 1, _ => exact xmk_1
  | 2, _ => exact xmk_2
  | 3, _ => exact xmk_3
  | 4, _ => exact xmk_4
  | 5, _ => exact xmk_5
  | 6, _ => exact xmk_6
  | 7, _ => exact xmk_7
  | 8, _ => exact xmk_8
  | 9, _ => exact xmk_9
  | 10, _ => exact xmk_10
  | 11, _ => exact xmk_11
  | 12, _ => exact xmk_12
  | 13, _ => exact xmk_13
  | 14, _ => exact xmk_14
  | 15, _ => exact xmk_15
  | 16, _ => exact xmk_16
  | _ + 17, h => omega
theorem xmok_all : ∀ m, m < xM - 1 → xmok m = true := by
  intro m h
  have h : m < 332 := h
  have h3 := List.all_eq_true.mp (xmk_all (m / 20) (by omega)) (m % 20) (List.mem_range.mpr (by omega))
  have e : 20 * (m / 20) + m % 20 = m := by omega
  rw [e] at h3
  have h4 : Nat.ble 332 m = false := by
    rw [← Bool.not_eq_true, Nat.ble_eq]
    omega
  rw [h4, Bool.false_or] at h3
  exact h3
theorem xrl_all (j : Nat) (h : j < 54) : xrl j = true := by
  match j, h with
  | 0, _ => exact xrl_0
  | 1, _ => exact xrl_1
  | 2, _ => exact xrl_2
  | 3, _ => exact xrl_3
  | 4, _ => exact xrl_4
  | 5, _ => exact xrl_5
  | 6, _ => exact xrl_6
  | 7, _ => exact xrl_7
  | 8, _ => exact xrl_8
  | 9, _ => exact xrl_9
  | 10, _ => exact xrl_10
  | 11, _ => exact xrl_11
  | 12, _ => exact xrl_12
  | 13, _ => exact xrl_13
  | 14, _ => exact xrl_14
  | 15, _ => exact xrl_15
  | 16, _ => exact xrl_16
  | 17, _ => exact xrl_17
  | 18, _ => exact xrl_18
  | 19, _ => exact xrl_19
  | 20, _ => exact xrl_20
  | 21, _ => exact xrl_21
  | 22, _ => exact xrl_22
  | 23, _ => exact xrl_23
  | 24, _ => exact xrl_24
  | 25, _ => exact xrl_25
  | 26, _ => exact xrl_26
  | 27, _ => exact xrl_27
  | 28, _ => exact xrl_28
  | 29, _ => exact xrl_29
  | 30, _ => exact xrl_30
  | 31, _ => exact xrl_31
  | 32, _ => exact xrl_32
  | 33, _ => exact xrl_33
  | 34, _ => exact xrl_34
  | 35, _ => exact xrl_35
  | 36, _ => exact xrl_36
  | 37, _ => exact xrl_37
  | 38, _ => exact xrl_38
  | 39, _ => exact xrl_39
  | 40, _ => exact xrl_40
  | 41, _ => exact xrl_41
  | 42, _ => exact xrl_42
  | 43, _ => exact xrl_43
  | 44, _ => exact xrl_44
  | 45, _ => exact xrl_45
  | 46, _ => exact xrl_46
  | 47, _ => exact xrl_47
  | 48, _ => exact xrl_48
  | 49, _ => exact xrl_49
  | 50, _ => exact xrl_50
  | 51, _ => exact xrl_51
  | 52, _ => exact xrl_52
  | 53, _ => exact xrl_53
  | _ + 54, h => omega
theorem xiok_all (m pc : Nat) : xiok m pc = true := by
  by_cases h : m < 332
  · by_cases h2 : pc < xsz m
    · exact List.all_eq_true.mp (xr_all m h) pc (List.mem_range.mpr h2)
    · have : Nat.blt pc (xsz m) = false := by
        rw [← Bool.not_eq_true, Nat.blt_eq]; omega
      simp [xiok, xin, this]
  · by_cases h1 : m = 332
    · subst h1
      by_cases h2 : pc < 2700
      · have h3 := List.all_eq_true.mp (xrl_all (pc / 50) (by omega)) (pc % 50) (List.mem_range.mpr (by omega))
        have e : 50 * (pc / 50) + pc % 50 = pc := by omega
        rw [e] at h3
        exact h3
      · have : Nat.blt pc (xsz 332) = false := by
          rw [← Bool.not_eq_true, Nat.blt_eq]
          show ¬ pc < 2651
          omega
        simp [xiok, xin, this]
    · have : Nat.blt m xM = false := by
        rw [← Bool.not_eq_true, Nat.blt_eq]
        show ¬ m < 333
        omega
      simp [xiok, xin, this]
