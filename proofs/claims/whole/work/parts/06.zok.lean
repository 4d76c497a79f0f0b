/-! the sites: their words stand in the tables -/
theorem okFS_ : okFS = true := by decide +kernel
def tat0 (h : Nat) (w : Cond) : Bool := decide ((tch (h / 1000))[h % 1000]? = some w)
theorem tat0_in {h : Nat} {w : Cond} (hh : tat0 h w = true) : w ∈ lw_tbl := by
  unfold tat0 at hh
  rw [decide_eq_true_eq] at hh
  exact tch_in (List.mem_of_getElem? hh)
def okCS1 : Bool := cCS.all (fun e => match e with
  | (o, ix, a, 0, p) => tat p (.methodLink (cRn o) ix (xY a))
  | (o, ix, a, _, p) => tat0 p (.methodLinkNest (cRn o) ix (xY a) "ClosedRooms"))
def okKS1 : Bool := cKS.all (fun e => tat e.2.2.2 (.constant (cRn e.1) e.2.1 (Int32.ofInt e.2.2.1))) && (cKL.all (fun e => tat e.2.2.2 (.constantLong (cRn e.1) e.2.1 (Int64.ofInt e.2.2.1))) && (cSS.all (fun e => tat0 e.2.2.2 (.stringRef (cRn e.1) e.2.1 (cTx.getD e.2.2.1.toNat ""))) && cGS.all (fun e => tat0 e.2.2.2 (.fieldLinkNest (cRn e.1) e.2.1 "ClosedRooms" (cSt e.2.2.1) "[I" "ClosedRooms"))))
theorem okCS_ : okCS1 = true := by decide +kernel
theorem okKS_ : okKS1 = true := by decide +kernel
def okFS2 : Bool := cFS.all (fun e => Nat.blt e.2.2.1 11 && Nat.blt e.2.2.2.1 ((crC.map (fun q => q.2.2)).getD e.2.2.1 0))
theorem okFS2_ : okFS2 = true := by decide +kernel
theorem okMc_0 : ∀ b, b < 16 → okM (0 + b) = true := by
  intro b hb
  rcases (by omega : b = 0 ∨ b = 1 ∨ b = 2 ∨ b = 3 ∨ b = 4 ∨ b = 5 ∨ b = 6 ∨ b = 7 ∨ b = 8 ∨ b = 9 ∨ b = 10 ∨ b = 11 ∨ b = 12 ∨ b = 13 ∨ b = 14 ∨ b = 15) with rfl | rfl | rfl | rfl | rfl | rfl | rfl | rfl | rfl | rfl | rfl | rfl | rfl | rfl | rfl | rfl
  · exact okM_0
  · exact okM_1
  · exact okM_2
  · exact okM_3
  · exact okM_4
  · exact okM_5
  · exact okM_6
  · exact okM_7
  · exact okM_8
  · exact okM_9
  · exact okM_10
  · exact okM_11
  · exact okM_12
  · exact okM_13
  · exact okM_14
  · exact okM_15
theorem okMc_1 : ∀ b, b < 16 → okM (16 + b) = true := by
  intro b hb
  rcases (by omega : b = 0 ∨ b = 1 ∨ b = 2 ∨ b = 3 ∨ b = 4 ∨ b = 5 ∨ b = 6 ∨ b = 7 ∨ b = 8 ∨ b = 9 ∨ b = 10 ∨ b = 11 ∨ b = 12 ∨ b = 13 ∨ b = 14 ∨ b = 15) with rfl | rfl | rfl | rfl | rfl | rfl | rfl | rfl | rfl | rfl | rfl | rfl | rfl | rfl | rfl | rfl
  · exact okM_16
  · exact okM_17
  · exact okM_18
  · exact okM_19
  · exact okM_20
  · exact okM_21
  · exact okM_22
  · exact okM_23
  · exact okM_24
  · exact okM_25
  · exact okM_26
  · exact okM_27
  · exact okM_28
  · exact okM_29
  · exact okM_30
  · exact okM_31
theorem okMc_2 : ∀ b, b < 16 → okM (32 + b) = true := by
  intro b hb
  rcases (by omega : b = 0 ∨ b = 1 ∨ b = 2 ∨ b = 3 ∨ b = 4 ∨ b = 5 ∨ b = 6 ∨ b = 7 ∨ b = 8 ∨ b = 9 ∨ b = 10 ∨ b = 11 ∨ b = 12 ∨ b = 13 ∨ b = 14 ∨ b = 15) with rfl | rfl | rfl | rfl | rfl | rfl | rfl | rfl | rfl | rfl | rfl | rfl | rfl | rfl | rfl | rfl
  · exact okM_32
  · exact okM_33
  · exact okM_34
  · exact okM_35
  · exact okM_36
  · exact okM_37
  · exact okM_38
  · exact okM_39
  · exact okM_40
  · exact okM_41
  · exact okM_42
  · exact okM_43
  · exact okM_44
  · exact okM_45
  · exact okM_46
  · exact okM_47
theorem okMc_3 : ∀ b, b < 16 → okM (48 + b) = true := by
  intro b hb
  rcases (by omega : b = 0 ∨ b = 1 ∨ b = 2 ∨ b = 3 ∨ b = 4 ∨ b = 5 ∨ b = 6 ∨ b = 7 ∨ b = 8 ∨ b = 9 ∨ b = 10 ∨ b = 11 ∨ b = 12 ∨ b = 13 ∨ b = 14 ∨ b = 15) with rfl | rfl | rfl | rfl | rfl | rfl | rfl | rfl | rfl | rfl | rfl | rfl | rfl | rfl | rfl | rfl
  · exact okM_48
  · exact okM_49
  · exact okM_50
  · exact okM_51
  · exact okM_52
  · exact okM_53
  · exact okM_54
  · exact okM_55
  · exact okM_56
  · exact okM_57
  · exact okM_58
  · exact okM_59
  · exact okM_60
  · exact okM_61
  · exact okM_62
  · exact okM_63
theorem okMc_4 : ∀ b, b < 16 → okM (64 + b) = true := by
  intro b hb
  rcases (by omega : b = 0 ∨ b = 1 ∨ b = 2 ∨ b = 3 ∨ b = 4 ∨ b = 5 ∨ b = 6 ∨ b = 7 ∨ b = 8 ∨ b = 9 ∨ b = 10 ∨ b = 11 ∨ b = 12 ∨ b = 13 ∨ b = 14 ∨ b = 15) with rfl | rfl | rfl | rfl | rfl | rfl | rfl | rfl | rfl | rfl | rfl | rfl | rfl | rfl | rfl | rfl
  · exact okM_64
  · exact okM_65
  · exact okM_66
  · exact okM_67
  · exact okM_68
  · exact okM_69
  · exact okM_70
  · exact okM_71
  · exact okM_72
  · exact okM_73
  · exact okM_74
  · exact okM_75
  · exact okM_76
  · exact okM_77
  · exact okM_78
  · exact okM_79
theorem okMc_5 : ∀ b, b < 16 → okM (80 + b) = true := by
  intro b hb
  rcases (by omega : b = 0 ∨ b = 1 ∨ b = 2 ∨ b = 3 ∨ b = 4 ∨ b = 5 ∨ b = 6 ∨ b = 7 ∨ b = 8 ∨ b = 9 ∨ b = 10 ∨ b = 11 ∨ b = 12 ∨ b = 13 ∨ b = 14 ∨ b = 15) with rfl | rfl | rfl | rfl | rfl | rfl | rfl | rfl | rfl | rfl | rfl | rfl | rfl | rfl | rfl | rfl
  · exact okM_80
  · exact okM_81
  · exact okM_82
  · exact okM_83
  · exact okM_84
  · exact okM_85
  · exact okM_86
  · exact okM_87
  · exact okM_88
  · exact okM_89
  · exact okM_90
  · exact okM_91
  · exact okM_92
  · exact okM_93
  · exact okM_94
  · exact okM_95
theorem okMc_6 : ∀ b, b < 16 → okM (96 + b) = true := by
  intro b hb
  rcases (by omega : b = 0 ∨ b = 1 ∨ b = 2 ∨ b = 3 ∨ b = 4 ∨ b = 5 ∨ b = 6 ∨ b = 7 ∨ b = 8 ∨ b = 9 ∨ b = 10 ∨ b = 11 ∨ b = 12 ∨ b = 13 ∨ b = 14 ∨ b = 15) with rfl | rfl | rfl | rfl | rfl | rfl | rfl | rfl | rfl | rfl | rfl | rfl | rfl | rfl | rfl | rfl
  · exact okM_96
  · exact okM_97
  · exact okM_98
  · exact okM_99
  · exact okM_100
  · exact okM_101
  · exact okM_102
  · exact okM_103
  · exact okM_104
  · exact okM_105
  · exact okM_106
  · exact okM_107
  · exact okM_108
  · exact okM_109
  · exact okM_110
  · exact okM_111
theorem okMc_7 : ∀ b, b < 16 → okM (112 + b) = true := by
  intro b hb
  rcases (by omega : b = 0 ∨ b = 1 ∨ b = 2 ∨ b = 3 ∨ b = 4 ∨ b = 5 ∨ b = 6 ∨ b = 7 ∨ b = 8 ∨ b = 9 ∨ b = 10 ∨ b = 11 ∨ b = 12 ∨ b = 13 ∨ b = 14 ∨ b = 15) with rfl | rfl | rfl | rfl | rfl | rfl | rfl | rfl | rfl | rfl | rfl | rfl | rfl | rfl | rfl | rfl
  · exact okM_112
  · exact okM_113
  · exact okM_114
  · exact okM_115
  · exact okM_116
  · exact okM_117
  · exact okM_118
  · exact okM_119
  · exact okM_120
  · exact okM_121
  · exact okM_122
  · exact okM_123
  · exact okM_124
  · exact okM_125
  · exact okM_126
  · exact okM_127
theorem okMc_8 : ∀ b, b < 16 → okM (128 + b) = true := by
  intro b hb
  rcases (by omega : b = 0 ∨ b = 1 ∨ b = 2 ∨ b = 3 ∨ b = 4 ∨ b = 5 ∨ b = 6 ∨ b = 7 ∨ b = 8 ∨ b = 9 ∨ b = 10 ∨ b = 11 ∨ b = 12 ∨ b = 13 ∨ b = 14 ∨ b = 15) with rfl | rfl | rfl | rfl | rfl | rfl | rfl | rfl | rfl | rfl | rfl | rfl | rfl | rfl | rfl | rfl
  · exact okM_128
  · exact okM_129
  · exact okM_130
  · exact okM_131
  · exact okM_132
  · exact okM_133
  · exact okM_134
  · exact okM_135
  · exact okM_136
  · exact okM_137
  · exact okM_138
  · exact okM_139
  · exact okM_140
  · exact okM_141
  · exact okM_142
  · exact okM_143
theorem okMc_9 : ∀ b, b < 16 → okM (144 + b) = true := by
  intro b hb
  rcases (by omega : b = 0 ∨ b = 1 ∨ b = 2 ∨ b = 3 ∨ b = 4 ∨ b = 5 ∨ b = 6 ∨ b = 7 ∨ b = 8 ∨ b = 9 ∨ b = 10 ∨ b = 11 ∨ b = 12 ∨ b = 13 ∨ b = 14 ∨ b = 15) with rfl | rfl | rfl | rfl | rfl | rfl | rfl | rfl | rfl | rfl | rfl | rfl | rfl | rfl | rfl | rfl
  · exact okM_144
  · exact okM_145
  · exact okM_146
  · exact okM_147
  · exact okM_148
  · exact okM_149
  · exact okM_150
  · exact okM_151
  · exact okM_152
  · exact okM_153
  · exact okM_154
  · exact okM_155
  · exact okM_156
  · exact okM_157
  · exact okM_158
  · exact okM_159
theorem okMc_10 : ∀ b, b < 16 → okM (160 + b) = true := by
  intro b hb
  rcases (by omega : b = 0 ∨ b = 1 ∨ b = 2 ∨ b = 3 ∨ b = 4 ∨ b = 5 ∨ b = 6 ∨ b = 7 ∨ b = 8 ∨ b = 9 ∨ b = 10 ∨ b = 11 ∨ b = 12 ∨ b = 13 ∨ b = 14 ∨ b = 15) with rfl | rfl | rfl | rfl | rfl | rfl | rfl | rfl | rfl | rfl | rfl | rfl | rfl | rfl | rfl | rfl
  · exact okM_160
  · exact okM_161
  · exact okM_162
  · exact okM_163
  · exact okM_164
  · exact okM_165
  · exact okM_166
  · exact okM_167
  · exact okM_168
  · exact okM_169
  · exact okM_170
  · exact okM_171
  · exact okM_172
  · exact okM_173
  · exact okM_174
  · exact okM_175
theorem okMc_11 : ∀ b, b < 16 → okM (176 + b) = true := by
  intro b hb
  rcases (by omega : b = 0 ∨ b = 1 ∨ b = 2 ∨ b = 3 ∨ b = 4 ∨ b = 5 ∨ b = 6 ∨ b = 7 ∨ b = 8 ∨ b = 9 ∨ b = 10 ∨ b = 11 ∨ b = 12 ∨ b = 13 ∨ b = 14 ∨ b = 15) with rfl | rfl | rfl | rfl | rfl | rfl | rfl | rfl | rfl | rfl | rfl | rfl | rfl | rfl | rfl | rfl
  · exact okM_176
  · exact okM_177
  · exact okM_178
  · exact okM_179
  · exact okM_180
  · exact okM_181
  · exact okM_182
  · exact okM_183
  · exact okM_184
  · exact okM_185
  · exact okM_186
  · exact okM_187
  · exact okM_188
  · exact okM_189
  · exact okM_190
  · exact okM_191
theorem okMc_12 : ∀ b, b < 16 → okM (192 + b) = true := by
  intro b hb
  rcases (by omega : b = 0 ∨ b = 1 ∨ b = 2 ∨ b = 3 ∨ b = 4 ∨ b = 5 ∨ b = 6 ∨ b = 7 ∨ b = 8 ∨ b = 9 ∨ b = 10 ∨ b = 11 ∨ b = 12 ∨ b = 13 ∨ b = 14 ∨ b = 15) with rfl | rfl | rfl | rfl | rfl | rfl | rfl | rfl | rfl | rfl | rfl | rfl | rfl | rfl | rfl | rfl
  · exact okM_192
  · exact okM_193
  · exact okM_194
  · exact okM_195
  · exact okM_196
  · exact okM_197
  · exact okM_198
  · exact okM_199
  · exact okM_200
  · exact okM_201
  · exact okM_202
  · exact okM_203
  · exact okM_204
  · exact okM_205
  · exact okM_206
  · exact okM_207
theorem okMc_13 : ∀ b, b < 16 → okM (208 + b) = true := by
  intro b hb
  rcases (by omega : b = 0 ∨ b = 1 ∨ b = 2 ∨ b = 3 ∨ b = 4 ∨ b = 5 ∨ b = 6 ∨ b = 7 ∨ b = 8 ∨ b = 9 ∨ b = 10 ∨ b = 11 ∨ b = 12 ∨ b = 13 ∨ b = 14 ∨ b = 15) with rfl | rfl | rfl | rfl | rfl | rfl | rfl | rfl | rfl | rfl | rfl | rfl | rfl | rfl | rfl | rfl
  · exact okM_208
  · exact okM_209
  · exact okM_210
  · exact okM_211
  · exact okM_212
  · exact okM_213
  · exact okM_214
  · exact okM_215
  · exact okM_216
  · exact okM_217
  · exact okM_218
  · exact okM_219
  · exact okM_220
  · exact okM_221
  · exact okM_222
  · exact okM_223
theorem okMc_14 : ∀ b, b < 16 → okM (224 + b) = true := by
  intro b hb
  rcases (by omega : b = 0 ∨ b = 1 ∨ b = 2 ∨ b = 3 ∨ b = 4 ∨ b = 5 ∨ b = 6 ∨ b = 7 ∨ b = 8 ∨ b = 9 ∨ b = 10 ∨ b = 11 ∨ b = 12 ∨ b = 13 ∨ b = 14 ∨ b = 15) with rfl | rfl | rfl | rfl | rfl | rfl | rfl | rfl | rfl | rfl | rfl | rfl | rfl | rfl | rfl | rfl
  · exact okM_224
  · exact okM_225
  · exact okM_226
  · exact okM_227
  · exact okM_228
  · exact okM_229
  · exact okM_230
  · exact okM_231
  · exact okM_232
  · exact okM_233
  · exact okM_234
  · exact okM_235
  · exact okM_236
  · exact okM_237
  · exact okM_238
  · exact okM_239
theorem okMc_15 : ∀ b, b < 16 → okM (240 + b) = true := by
  intro b hb
  rcases (by omega : b = 0 ∨ b = 1 ∨ b = 2 ∨ b = 3 ∨ b = 4 ∨ b = 5 ∨ b = 6 ∨ b = 7 ∨ b = 8 ∨ b = 9 ∨ b = 10 ∨ b = 11 ∨ b = 12 ∨ b = 13 ∨ b = 14 ∨ b = 15) with rfl | rfl | rfl | rfl | rfl | rfl | rfl | rfl | rfl | rfl | rfl | rfl | rfl | rfl | rfl | rfl
  · exact okM_240
  · exact okM_241
  · exact okM_242
  · exact okM_243
  · exact okM_244
  · exact okM_245
  · exact okM_246
  · exact okM_247
  · exact okM_248
  · exact okM_249
  · exact okM_250
  · exact okM_251
  · exact okM_252
  · exact okM_253
  · exact okM_254
  · exact okM_255
theorem okMc_16 : ∀ b, b < 16 → okM (256 + b) = true := by
  intro b hb
  rcases (by omega : b = 0 ∨ b = 1 ∨ b = 2 ∨ b = 3 ∨ b = 4 ∨ b = 5 ∨ b = 6 ∨ b = 7 ∨ b = 8 ∨ b = 9 ∨ b = 10 ∨ b = 11 ∨ b = 12 ∨ b = 13 ∨ b = 14 ∨ b = 15) with rfl | rfl | rfl | rfl | rfl | rfl | rfl | rfl | rfl | rfl | rfl | rfl | rfl | rfl | rfl | rfl
  · exact okM_256
  · exact okM_257
  · exact okM_258
  · exact okM_259
  · exact okM_260
  · exact okM_261
  · exact okM_262
  · exact okM_263
  · exact okM_264
  · exact okM_265
  · exact okM_266
  · exact okM_267
  · exact okM_268
  · exact okM_269
  · exact okM_270
  · exact okM_271
theorem okMc_17 : ∀ b, b < 16 → okM (272 + b) = true := by
  intro b hb
  rcases (by omega : b = 0 ∨ b = 1 ∨ b = 2 ∨ b = 3 ∨ b = 4 ∨ b = 5 ∨ b = 6 ∨ b = 7 ∨ b = 8 ∨ b = 9 ∨ b = 10 ∨ b = 11 ∨ b = 12 ∨ b = 13 ∨ b = 14 ∨ b = 15) with rfl | rfl | rfl | rfl | rfl | rfl | rfl | rfl | rfl | rfl | rfl | rfl | rfl | rfl | rfl | rfl
  · exact okM_272
  · exact okM_273
  · exact okM_274
  · exact okM_275
  · exact okM_276
  · exact okM_277
  · exact okM_278
  · exact okM_279
  · exact okM_280
  · exact okM_281
  · exact okM_282
  · exact okM_283
  · exact okM_284
  · exact okM_285
  · exact okM_286
  · exact okM_287
theorem okMc_18 : ∀ b, b < 16 → okM (288 + b) = true := by
  intro b hb
  rcases (by omega : b = 0 ∨ b = 1 ∨ b = 2 ∨ b = 3 ∨ b = 4 ∨ b = 5 ∨ b = 6 ∨ b = 7 ∨ b = 8 ∨ b = 9 ∨ b = 10 ∨ b = 11 ∨ b = 12 ∨ b = 13 ∨ b = 14 ∨ b = 15) with rfl | rfl | rfl | rfl | rfl | rfl | rfl | rfl | rfl | rfl | rfl | rfl | rfl | rfl | rfl | rfl
  · exact okM_288
  · exact okM_289
  · exact okM_290
  · exact okM_291
  · exact okM_292
  · exact okM_293
  · exact okM_294
  · exact okM_295
  · exact okM_296
  · exact okM_297
  · exact okM_298
  · exact okM_299
  · exact okM_300
  · exact okM_301
  · exact okM_302
  · exact okM_303
theorem okMc_19 : ∀ b, b < 16 → okM (304 + b) = true := by
  intro b hb
  rcases (by omega : b = 0 ∨ b = 1 ∨ b = 2 ∨ b = 3 ∨ b = 4 ∨ b = 5 ∨ b = 6 ∨ b = 7 ∨ b = 8 ∨ b = 9 ∨ b = 10 ∨ b = 11 ∨ b = 12 ∨ b = 13 ∨ b = 14 ∨ b = 15) with rfl | rfl | rfl | rfl | rfl | rfl | rfl | rfl | rfl | rfl | rfl | rfl | rfl | rfl | rfl | rfl
  · exact okM_304
  · exact okM_305
  · exact okM_306
  · exact okM_307
  · exact okM_308
  · exact okM_309
  · exact okM_310
  · exact okM_311
  · exact okM_312
  · exact okM_313
  · exact okM_314
  · exact okM_315
  · exact okM_316
  · exact okM_317
  · exact okM_318
  · exact okM_319
theorem okMc_20 : ∀ b, b < 14 → okM (320 + b) = true := by
  intro b hb
  rcases (by omega : b = 0 ∨ b = 1 ∨ b = 2 ∨ b = 3 ∨ b = 4 ∨ b = 5 ∨ b = 6 ∨ b = 7 ∨ b = 8 ∨ b = 9 ∨ b = 10 ∨ b = 11 ∨ b = 12 ∨ b = 13) with rfl | rfl | rfl | rfl | rfl | rfl | rfl | rfl | rfl | rfl | rfl | rfl | rfl | rfl
  · exact okM_320
  · exact okM_321
  · exact okM_322
  · exact okM_323
  · exact okM_324
  · exact okM_325
  · exact okM_326
  · exact okM_327
  · exact okM_328
  · exact okM_329
  · exact okM_330
  · exact okM_331
  · exact okM_332
  · exact okM_333
theorem okM_lt (a : Nat) (h : a < 334) : okM a = true := by
  rcases Nat.lt_or_ge a 16 with h0 | h0
  · have := okMc_0 (a - 0) (by omega)
    rwa [show 0 + (a - 0) = a by omega] at this
  rcases Nat.lt_or_ge a 32 with h0 | h0
  · have := okMc_1 (a - 16) (by omega)
    rwa [show 16 + (a - 16) = a by omega] at this
  rcases Nat.lt_or_ge a 48 with h0 | h0
  · have := okMc_2 (a - 32) (by omega)
    rwa [show 32 + (a - 32) = a by omega] at this
  rcases Nat.lt_or_ge a 64 with h0 | h0
  · have := okMc_3 (a - 48) (by omega)
    rwa [show 48 + (a - 48) = a by omega] at this
  rcases Nat.lt_or_ge a 80 with h0 | h0
  · have := okMc_4 (a - 64) (by omega)
    rwa [show 64 + (a - 64) = a by omega] at this
  rcases Nat.lt_or_ge a 96 with h0 | h0
  · have := okMc_5 (a - 80) (by omega)
    rwa [show 80 + (a - 80) = a by omega] at this
  rcases Nat.lt_or_ge a 112 with h0 | h0
  · have := okMc_6 (a - 96) (by omega)
    rwa [show 96 + (a - 96) = a by omega] at this
  rcases Nat.lt_or_ge a 128 with h0 | h0
  · have := okMc_7 (a - 112) (by omega)
    rwa [show 112 + (a - 112) = a by omega] at this
  rcases Nat.lt_or_ge a 144 with h0 | h0
  · have := okMc_8 (a - 128) (by omega)
    rwa [show 128 + (a - 128) = a by omega] at this
  rcases Nat.lt_or_ge a 160 with h0 | h0
  · have := okMc_9 (a - 144) (by omega)
    rwa [show 144 + (a - 144) = a by omega] at this
  rcases Nat.lt_or_ge a 176 with h0 | h0
  · have := okMc_10 (a - 160) (by omega)
    rwa [show 160 + (a - 160) = a by omega] at this
  rcases Nat.lt_or_ge a 192 with h0 | h0
  · have := okMc_11 (a - 176) (by omega)
    rwa [show 176 + (a - 176) = a by omega] at this
  rcases Nat.lt_or_ge a 208 with h0 | h0
  · have := okMc_12 (a - 192) (by omega)
    rwa [show 192 + (a - 192) = a by omega] at this
  rcases Nat.lt_or_ge a 224 with h0 | h0
  · have := okMc_13 (a - 208) (by omega)
    rwa [show 208 + (a - 208) = a by omega] at this
  rcases Nat.lt_or_ge a 240 with h0 | h0
  · have := okMc_14 (a - 224) (by omega)
    rwa [show 224 + (a - 224) = a by omega] at this
  rcases Nat.lt_or_ge a 256 with h0 | h0
  · have := okMc_15 (a - 240) (by omega)
    rwa [show 240 + (a - 240) = a by omega] at this
  rcases Nat.lt_or_ge a 272 with h0 | h0
  · have := okMc_16 (a - 256) (by omega)
    rwa [show 256 + (a - 256) = a by omega] at this
  rcases Nat.lt_or_ge a 288 with h0 | h0
  · have := okMc_17 (a - 272) (by omega)
    rwa [show 272 + (a - 272) = a by omega] at this
  rcases Nat.lt_or_ge a 304 with h0 | h0
  · have := okMc_18 (a - 288) (by omega)
    rwa [show 288 + (a - 288) = a by omega] at this
  rcases Nat.lt_or_ge a 320 with h0 | h0
  · have := okMc_19 (a - 304) (by omega)
    rwa [show 304 + (a - 304) = a by omega] at this
  have := okMc_20 (a - 320) (by omega)
  rwa [show 320 + (a - 320) = a by omega] at this
theorem mth_ge (a : Nat) (h : 334 ≤ a) : mth a = ([], 0, 0) := by
  unfold mth
  by_cases h1 : a < 336
  · rcases (by omega : a = 334 ∨ a = 335) with rfl | rfl <;> rfl
  · have hl : cMT.length = 21 := by decide +kernel
    have h2 : cMT.getD (a / 16) [] = [] := by
      rw [List.getD_eq_getElem?_getD, List.getElem?_eq_none (by omega)]
      rfl
    rw [h2]
    rfl
theorem okE_at {a pc : Nat} {e : CE} (h : fnd a pc = some e) : okE a e = true ∧ e.1 = pc ∧ a < 334 := by
  unfold fnd find at h
  rcases Nat.lt_or_ge a 334 with ha | ha
  · have h1 := okM_lt a ha
    simp only [okM, Bool.and_eq_true] at h1
    have h2 := List.find?_some h
    have h3 := List.mem_of_find?_eq_some h
    have h4 : (mth a).1.getD (pc / 16) [] ∈ (mth a).1 := by
      rw [List.getD_eq_getElem?_getD] at h3 ⊢
      cases hg : (mth a).1[pc / 16]? with
      | none => rw [hg] at h3; cases h3
      | some l => exact List.mem_of_getElem? hg
    exact ⟨List.all_eq_true.mp (List.all_eq_true.mp h1.1 _ h4) _ h3, Nat.eq_of_beq_eq_true h2, ha⟩
  · rw [mth_ge a ha] at h
    cases h
