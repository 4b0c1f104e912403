/-! Facts by places: classes, fields, arrays, constants. -/
theorem ju_0 : ∀ k, k < 9 → u_lay "CoinNode$Block" jT0 k ∈ jws := fun k hk => match k, hk with
  | 0, _ => jw_343
  | 1, _ => jw_345
  | 2, _ => jw_347
  | 3, _ => jw_349
  | 4, _ => jw_351
  | 5, _ => jw_353
  | 6, _ => jw_355
  | 7, _ => jw_357
  | 8, _ => jw_359
  | n + 9, h => absurd h (by omega)
theorem jc_0 : jcok 0 "CoinNode$Block" jT0 9 jY0 := ⟨rfl, fun w hw => by obtain ⟨k, hk, rfl⟩ := List.mem_map.mp hw; exact ju_0 k (List.mem_range.mp hk), jY0_ok, jN0_ok, by decide +kernel, by decide +kernel⟩
theorem f_0_0 : jfok 0 0 "CoinNode$Block" jT0 9 jY0 2 := ⟨jc_0, by decide, rfl⟩
theorem f_0_1 : jfok 0 1 "CoinNode$Block" jT0 9 jY0 2 := ⟨jc_0, by decide, rfl⟩
theorem f_0_2 : jfok 0 2 "CoinNode$Block" jT0 9 jY0 0 := ⟨jc_0, by decide, rfl⟩
theorem f_0_3 : jfok 0 3 "CoinNode$Block" jT0 9 jY0 1 := ⟨jc_0, by decide, rfl⟩
theorem f_0_4 : jfok 0 4 "CoinNode$Block" jT0 9 jY0 2 := ⟨jc_0, by decide, rfl⟩
theorem f_0_5 : jfok 0 5 "CoinNode$Block" jT0 9 jY0 2 := ⟨jc_0, by decide, rfl⟩
theorem f_0_6 : jfok 0 6 "CoinNode$Block" jT0 9 jY0 0 := ⟨jc_0, by decide, rfl⟩
theorem f_0_7 : jfok 0 7 "CoinNode$Block" jT0 9 jY0 0 := ⟨jc_0, by decide, rfl⟩
theorem f_0_8 : jfok 0 8 "CoinNode$Block" jT0 9 jY0 2 := ⟨jc_0, by decide, rfl⟩
theorem ju_1 : ∀ k, k < 17 → u_lay "CoinNode$Chain" jT1 k ∈ jws := fun k hk => match k, hk with
  | 0, _ => jw_403
  | 1, _ => jw_405
  | 2, _ => jw_407
  | 3, _ => jw_409
  | 4, _ => jw_411
  | 5, _ => jw_413
  | 6, _ => jw_415
  | 7, _ => jw_417
  | 8, _ => jw_419
  | 9, _ => jw_421
  | 10, _ => jw_423
  | 11, _ => jw_425
  | 12, _ => jw_427
  | 13, _ => jw_429
  | 14, _ => jw_431
  | 15, _ => jw_433
  | 16, _ => jw_435
  | n + 17, h => absurd h (by omega)
theorem jc_1 : jcok 1 "CoinNode$Chain" jT1 17 jY1 := ⟨rfl, fun w hw => by obtain ⟨k, hk, rfl⟩ := List.mem_map.mp hw; exact ju_1 k (List.mem_range.mp hk), jY1_ok, jN1_ok, by decide +kernel, by decide +kernel⟩
theorem f_1_0 : jfok 1 0 "CoinNode$Chain" jT1 17 jY1 2 := ⟨jc_1, by decide, rfl⟩
theorem f_1_1 : jfok 1 1 "CoinNode$Chain" jT1 17 jY1 2 := ⟨jc_1, by decide, rfl⟩
theorem f_1_2 : jfok 1 2 "CoinNode$Chain" jT1 17 jY1 2 := ⟨jc_1, by decide, rfl⟩
theorem f_1_3 : jfok 1 3 "CoinNode$Chain" jT1 17 jY1 2 := ⟨jc_1, by decide, rfl⟩
theorem f_1_4 : jfok 1 4 "CoinNode$Chain" jT1 17 jY1 0 := ⟨jc_1, by decide, rfl⟩
theorem f_1_5 : jfok 1 5 "CoinNode$Chain" jT1 17 jY1 0 := ⟨jc_1, by decide, rfl⟩
theorem f_1_6 : jfok 1 6 "CoinNode$Chain" jT1 17 jY1 2 := ⟨jc_1, by decide, rfl⟩
theorem f_1_7 : jfok 1 7 "CoinNode$Chain" jT1 17 jY1 2 := ⟨jc_1, by decide, rfl⟩
theorem f_1_8 : jfok 1 8 "CoinNode$Chain" jT1 17 jY1 2 := ⟨jc_1, by decide, rfl⟩
theorem f_1_9 : jfok 1 9 "CoinNode$Chain" jT1 17 jY1 2 := ⟨jc_1, by decide, rfl⟩
theorem f_1_10 : jfok 1 10 "CoinNode$Chain" jT1 17 jY1 0 := ⟨jc_1, by decide, rfl⟩
theorem f_1_11 : jfok 1 11 "CoinNode$Chain" jT1 17 jY1 2 := ⟨jc_1, by decide, rfl⟩
theorem f_1_12 : jfok 1 12 "CoinNode$Chain" jT1 17 jY1 2 := ⟨jc_1, by decide, rfl⟩
theorem f_1_13 : jfok 1 13 "CoinNode$Chain" jT1 17 jY1 2 := ⟨jc_1, by decide, rfl⟩
theorem f_1_14 : jfok 1 14 "CoinNode$Chain" jT1 17 jY1 2 := ⟨jc_1, by decide, rfl⟩
theorem f_1_15 : jfok 1 15 "CoinNode$Chain" jT1 17 jY1 2 := ⟨jc_1, by decide, rfl⟩
theorem f_1_16 : jfok 1 16 "CoinNode$Chain" jT1 17 jY1 2 := ⟨jc_1, by decide, rfl⟩
theorem ju_2 : ∀ k, k < 9 → u_lay "CoinNode$Coins" jT2 k ∈ jws := fun k hk => match k, hk with
  | 0, _ => jw_284
  | 1, _ => jw_286
  | 2, _ => jw_288
  | 3, _ => jw_290
  | 4, _ => jw_292
  | 5, _ => jw_294
  | 6, _ => jw_296
  | 7, _ => jw_298
  | 8, _ => jw_300
  | n + 9, h => absurd h (by omega)
theorem jc_2 : jcok 2 "CoinNode$Coins" jT2 9 jY2 := ⟨rfl, fun w hw => by obtain ⟨k, hk, rfl⟩ := List.mem_map.mp hw; exact ju_2 k (List.mem_range.mp hk), jY2_ok, jN2_ok, by decide +kernel, by decide +kernel⟩
theorem f_2_0 : jfok 2 0 "CoinNode$Coins" jT2 9 jY2 2 := ⟨jc_2, by decide, rfl⟩
theorem f_2_1 : jfok 2 1 "CoinNode$Coins" jT2 9 jY2 2 := ⟨jc_2, by decide, rfl⟩
theorem f_2_2 : jfok 2 2 "CoinNode$Coins" jT2 9 jY2 2 := ⟨jc_2, by decide, rfl⟩
theorem f_2_3 : jfok 2 3 "CoinNode$Coins" jT2 9 jY2 0 := ⟨jc_2, by decide, rfl⟩
theorem f_2_4 : jfok 2 4 "CoinNode$Coins" jT2 9 jY2 0 := ⟨jc_2, by decide, rfl⟩
theorem f_2_5 : jfok 2 5 "CoinNode$Coins" jT2 9 jY2 1 := ⟨jc_2, by decide, rfl⟩
theorem f_2_6 : jfok 2 6 "CoinNode$Coins" jT2 9 jY2 2 := ⟨jc_2, by decide, rfl⟩
theorem f_2_7 : jfok 2 7 "CoinNode$Coins" jT2 9 jY2 2 := ⟨jc_2, by decide, rfl⟩
theorem f_2_8 : jfok 2 8 "CoinNode$Coins" jT2 9 jY2 1 := ⟨jc_2, by decide, rfl⟩
theorem ju_3 : ∀ k, k < 6 → u_lay "CoinNode$Hash" jT3 k ∈ jws := fun k hk => match k, hk with
  | 0, _ => jw_41
  | 1, _ => jw_43
  | 2, _ => jw_45
  | 3, _ => jw_47
  | 4, _ => jw_49
  | 5, _ => jw_51
  | n + 6, h => absurd h (by omega)
theorem jc_3 : jcok 3 "CoinNode$Hash" jT3 6 jY3 := ⟨rfl, fun w hw => by obtain ⟨k, hk, rfl⟩ := List.mem_map.mp hw; exact ju_3 k (List.mem_range.mp hk), jY3_ok, jN3_ok, by decide +kernel, by decide +kernel⟩
theorem f_3_0 : jfok 3 0 "CoinNode$Hash" jT3 6 jY3 2 := ⟨jc_3, by decide, rfl⟩
theorem f_3_1 : jfok 3 1 "CoinNode$Hash" jT3 6 jY3 0 := ⟨jc_3, by decide, rfl⟩
theorem f_3_2 : jfok 3 2 "CoinNode$Hash" jT3 6 jY3 2 := ⟨jc_3, by decide, rfl⟩
theorem f_3_3 : jfok 3 3 "CoinNode$Hash" jT3 6 jY3 2 := ⟨jc_3, by decide, rfl⟩
theorem f_3_4 : jfok 3 4 "CoinNode$Hash" jT3 6 jY3 2 := ⟨jc_3, by decide, rfl⟩
theorem f_3_5 : jfok 3 5 "CoinNode$Hash" jT3 6 jY3 2 := ⟨jc_3, by decide, rfl⟩
theorem ju_4 : ∀ k, k < 20 → u_lay "CoinNode$Machine" jT4 k ∈ jws := fun k hk => match k, hk with
  | 0, _ => jw_198
  | 1, _ => jw_200
  | 2, _ => jw_202
  | 3, _ => jw_204
  | 4, _ => jw_206
  | 5, _ => jw_208
  | 6, _ => jw_210
  | 7, _ => jw_212
  | 8, _ => jw_214
  | 9, _ => jw_216
  | 10, _ => jw_218
  | 11, _ => jw_220
  | 12, _ => jw_222
  | 13, _ => jw_224
  | 14, _ => jw_226
  | 15, _ => jw_228
  | 16, _ => jw_230
  | 17, _ => jw_232
  | 18, _ => jw_234
  | 19, _ => jw_236
  | n + 20, h => absurd h (by omega)
theorem jc_4 : jcok 4 "CoinNode$Machine" jT4 20 jY4 := ⟨rfl, fun w hw => by obtain ⟨k, hk, rfl⟩ := List.mem_map.mp hw; exact ju_4 k (List.mem_range.mp hk), jY4_ok, jN4_ok, by decide +kernel, by decide +kernel⟩
theorem f_4_0 : jfok 4 0 "CoinNode$Machine" jT4 20 jY4 2 := ⟨jc_4, by decide, rfl⟩
theorem f_4_1 : jfok 4 1 "CoinNode$Machine" jT4 20 jY4 2 := ⟨jc_4, by decide, rfl⟩
theorem f_4_2 : jfok 4 2 "CoinNode$Machine" jT4 20 jY4 2 := ⟨jc_4, by decide, rfl⟩
theorem f_4_3 : jfok 4 3 "CoinNode$Machine" jT4 20 jY4 2 := ⟨jc_4, by decide, rfl⟩
theorem f_4_4 : jfok 4 4 "CoinNode$Machine" jT4 20 jY4 2 := ⟨jc_4, by decide, rfl⟩
theorem f_4_5 : jfok 4 5 "CoinNode$Machine" jT4 20 jY4 2 := ⟨jc_4, by decide, rfl⟩
theorem f_4_6 : jfok 4 6 "CoinNode$Machine" jT4 20 jY4 0 := ⟨jc_4, by decide, rfl⟩
theorem f_4_7 : jfok 4 7 "CoinNode$Machine" jT4 20 jY4 0 := ⟨jc_4, by decide, rfl⟩
theorem f_4_8 : jfok 4 8 "CoinNode$Machine" jT4 20 jY4 0 := ⟨jc_4, by decide, rfl⟩
theorem f_4_9 : jfok 4 9 "CoinNode$Machine" jT4 20 jY4 0 := ⟨jc_4, by decide, rfl⟩
theorem f_4_10 : jfok 4 10 "CoinNode$Machine" jT4 20 jY4 0 := ⟨jc_4, by decide, rfl⟩
theorem f_4_11 : jfok 4 11 "CoinNode$Machine" jT4 20 jY4 2 := ⟨jc_4, by decide, rfl⟩
theorem f_4_12 : jfok 4 12 "CoinNode$Machine" jT4 20 jY4 0 := ⟨jc_4, by decide, rfl⟩
theorem f_4_13 : jfok 4 13 "CoinNode$Machine" jT4 20 jY4 0 := ⟨jc_4, by decide, rfl⟩
theorem f_4_14 : jfok 4 14 "CoinNode$Machine" jT4 20 jY4 0 := ⟨jc_4, by decide, rfl⟩
theorem f_4_15 : jfok 4 15 "CoinNode$Machine" jT4 20 jY4 0 := ⟨jc_4, by decide, rfl⟩
theorem f_4_16 : jfok 4 16 "CoinNode$Machine" jT4 20 jY4 0 := ⟨jc_4, by decide, rfl⟩
theorem f_4_17 : jfok 4 17 "CoinNode$Machine" jT4 20 jY4 0 := ⟨jc_4, by decide, rfl⟩
theorem f_4_18 : jfok 4 18 "CoinNode$Machine" jT4 20 jY4 0 := ⟨jc_4, by decide, rfl⟩
theorem f_4_19 : jfok 4 19 "CoinNode$Machine" jT4 20 jY4 0 := ⟨jc_4, by decide, rfl⟩
theorem ju_5 : ∀ k, k < 4 → u_lay "CoinNode$Point" jT5 k ∈ jws := fun k hk => match k, hk with
  | 0, _ => jw_87
  | 1, _ => jw_89
  | 2, _ => jw_91
  | 3, _ => jw_93
  | n + 4, h => absurd h (by omega)
theorem jc_5 : jcok 5 "CoinNode$Point" jT5 4 jY5 := ⟨rfl, fun w hw => by obtain ⟨k, hk, rfl⟩ := List.mem_map.mp hw; exact ju_5 k (List.mem_range.mp hk), jY5_ok, jN5_ok, by decide +kernel, by decide +kernel⟩
theorem f_5_0 : jfok 5 0 "CoinNode$Point" jT5 4 jY5 2 := ⟨jc_5, by decide, rfl⟩
theorem f_5_1 : jfok 5 1 "CoinNode$Point" jT5 4 jY5 2 := ⟨jc_5, by decide, rfl⟩
theorem f_5_2 : jfok 5 2 "CoinNode$Point" jT5 4 jY5 2 := ⟨jc_5, by decide, rfl⟩
theorem f_5_3 : jfok 5 3 "CoinNode$Point" jT5 4 jY5 0 := ⟨jc_5, by decide, rfl⟩
theorem ju_6 : ∀ k, k < 10 → u_lay "CoinNode$Pool" jT6 k ∈ jws := fun k hk => match k, hk with
  | 0, _ => jw_456
  | 1, _ => jw_458
  | 2, _ => jw_460
  | 3, _ => jw_462
  | 4, _ => jw_464
  | 5, _ => jw_466
  | 6, _ => jw_468
  | 7, _ => jw_470
  | 8, _ => jw_472
  | 9, _ => jw_474
  | n + 10, h => absurd h (by omega)
theorem jc_6 : jcok 6 "CoinNode$Pool" jT6 10 jY6 := ⟨rfl, fun w hw => by obtain ⟨k, hk, rfl⟩ := List.mem_map.mp hw; exact ju_6 k (List.mem_range.mp hk), jY6_ok, jN6_ok, by decide +kernel, by decide +kernel⟩
theorem f_6_0 : jfok 6 0 "CoinNode$Pool" jT6 10 jY6 2 := ⟨jc_6, by decide, rfl⟩
theorem f_6_1 : jfok 6 1 "CoinNode$Pool" jT6 10 jY6 2 := ⟨jc_6, by decide, rfl⟩
theorem f_6_2 : jfok 6 2 "CoinNode$Pool" jT6 10 jY6 2 := ⟨jc_6, by decide, rfl⟩
theorem f_6_3 : jfok 6 3 "CoinNode$Pool" jT6 10 jY6 2 := ⟨jc_6, by decide, rfl⟩
theorem f_6_4 : jfok 6 4 "CoinNode$Pool" jT6 10 jY6 0 := ⟨jc_6, by decide, rfl⟩
theorem f_6_5 : jfok 6 5 "CoinNode$Pool" jT6 10 jY6 2 := ⟨jc_6, by decide, rfl⟩
theorem f_6_6 : jfok 6 6 "CoinNode$Pool" jT6 10 jY6 2 := ⟨jc_6, by decide, rfl⟩
theorem f_6_7 : jfok 6 7 "CoinNode$Pool" jT6 10 jY6 2 := ⟨jc_6, by decide, rfl⟩
theorem f_6_8 : jfok 6 8 "CoinNode$Pool" jT6 10 jY6 2 := ⟨jc_6, by decide, rfl⟩
theorem f_6_9 : jfok 6 9 "CoinNode$Pool" jT6 10 jY6 1 := ⟨jc_6, by decide, rfl⟩
theorem ju_7 : ∀ k, k < 8 → u_lay "CoinNode$Scripts" jT7 k ∈ jws := fun k hk => match k, hk with
  | 0, _ => jw_248
  | 1, _ => jw_250
  | 2, _ => jw_252
  | 3, _ => jw_254
  | 4, _ => jw_256
  | 5, _ => jw_258
  | 6, _ => jw_260
  | 7, _ => jw_262
  | n + 8, h => absurd h (by omega)
theorem jc_7 : jcok 7 "CoinNode$Scripts" jT7 8 jY7 := ⟨rfl, fun w hw => by obtain ⟨k, hk, rfl⟩ := List.mem_map.mp hw; exact ju_7 k (List.mem_range.mp hk), jY7_ok, jN7_ok, by decide +kernel, by decide +kernel⟩
theorem f_7_0 : jfok 7 0 "CoinNode$Scripts" jT7 8 jY7 2 := ⟨jc_7, by decide, rfl⟩
theorem f_7_1 : jfok 7 1 "CoinNode$Scripts" jT7 8 jY7 2 := ⟨jc_7, by decide, rfl⟩
theorem f_7_2 : jfok 7 2 "CoinNode$Scripts" jT7 8 jY7 2 := ⟨jc_7, by decide, rfl⟩
theorem f_7_3 : jfok 7 3 "CoinNode$Scripts" jT7 8 jY7 2 := ⟨jc_7, by decide, rfl⟩
theorem f_7_4 : jfok 7 4 "CoinNode$Scripts" jT7 8 jY7 0 := ⟨jc_7, by decide, rfl⟩
theorem f_7_5 : jfok 7 5 "CoinNode$Scripts" jT7 8 jY7 2 := ⟨jc_7, by decide, rfl⟩
theorem f_7_6 : jfok 7 6 "CoinNode$Scripts" jT7 8 jY7 0 := ⟨jc_7, by decide, rfl⟩
theorem f_7_7 : jfok 7 7 "CoinNode$Scripts" jT7 8 jY7 0 := ⟨jc_7, by decide, rfl⟩
theorem ju_8 : ∀ k, k < 17 → u_lay "CoinNode$Signature" jT8 k ∈ jws := fun k hk => match k, hk with
  | 0, _ => jw_115
  | 1, _ => jw_117
  | 2, _ => jw_119
  | 3, _ => jw_121
  | 4, _ => jw_123
  | 5, _ => jw_125
  | 6, _ => jw_127
  | 7, _ => jw_129
  | 8, _ => jw_131
  | 9, _ => jw_133
  | 10, _ => jw_135
  | 11, _ => jw_137
  | 12, _ => jw_139
  | 13, _ => jw_141
  | 14, _ => jw_143
  | 15, _ => jw_145
  | 16, _ => jw_147
  | n + 17, h => absurd h (by omega)
theorem jc_8 : jcok 8 "CoinNode$Signature" jT8 17 jY8 := ⟨rfl, fun w hw => by obtain ⟨k, hk, rfl⟩ := List.mem_map.mp hw; exact ju_8 k (List.mem_range.mp hk), jY8_ok, jN8_ok, by decide +kernel, by decide +kernel⟩
theorem f_8_0 : jfok 8 0 "CoinNode$Signature" jT8 17 jY8 0 := ⟨jc_8, by decide, rfl⟩
theorem f_8_1 : jfok 8 1 "CoinNode$Signature" jT8 17 jY8 2 := ⟨jc_8, by decide, rfl⟩
theorem f_8_2 : jfok 8 2 "CoinNode$Signature" jT8 17 jY8 2 := ⟨jc_8, by decide, rfl⟩
theorem f_8_3 : jfok 8 3 "CoinNode$Signature" jT8 17 jY8 2 := ⟨jc_8, by decide, rfl⟩
theorem f_8_4 : jfok 8 4 "CoinNode$Signature" jT8 17 jY8 2 := ⟨jc_8, by decide, rfl⟩
theorem f_8_5 : jfok 8 5 "CoinNode$Signature" jT8 17 jY8 2 := ⟨jc_8, by decide, rfl⟩
theorem f_8_6 : jfok 8 6 "CoinNode$Signature" jT8 17 jY8 2 := ⟨jc_8, by decide, rfl⟩
theorem f_8_7 : jfok 8 7 "CoinNode$Signature" jT8 17 jY8 2 := ⟨jc_8, by decide, rfl⟩
theorem f_8_8 : jfok 8 8 "CoinNode$Signature" jT8 17 jY8 2 := ⟨jc_8, by decide, rfl⟩
theorem f_8_9 : jfok 8 9 "CoinNode$Signature" jT8 17 jY8 2 := ⟨jc_8, by decide, rfl⟩
theorem f_8_10 : jfok 8 10 "CoinNode$Signature" jT8 17 jY8 2 := ⟨jc_8, by decide, rfl⟩
theorem f_8_11 : jfok 8 11 "CoinNode$Signature" jT8 17 jY8 2 := ⟨jc_8, by decide, rfl⟩
theorem f_8_12 : jfok 8 12 "CoinNode$Signature" jT8 17 jY8 2 := ⟨jc_8, by decide, rfl⟩
theorem f_8_13 : jfok 8 13 "CoinNode$Signature" jT8 17 jY8 2 := ⟨jc_8, by decide, rfl⟩
theorem f_8_14 : jfok 8 14 "CoinNode$Signature" jT8 17 jY8 2 := ⟨jc_8, by decide, rfl⟩
theorem f_8_15 : jfok 8 15 "CoinNode$Signature" jT8 17 jY8 2 := ⟨jc_8, by decide, rfl⟩
theorem f_8_16 : jfok 8 16 "CoinNode$Signature" jT8 17 jY8 0 := ⟨jc_8, by decide, rfl⟩
theorem ju_9 : ∀ k, k < 3 → u_lay "CoinNode$Stack" jT9 k ∈ jws := fun k hk => match k, hk with
  | 0, _ => jw_169
  | 1, _ => jw_171
  | 2, _ => jw_173
  | n + 3, h => absurd h (by omega)
theorem jc_9 : jcok 9 "CoinNode$Stack" jT9 3 jY9 := ⟨rfl, fun w hw => by obtain ⟨k, hk, rfl⟩ := List.mem_map.mp hw; exact ju_9 k (List.mem_range.mp hk), jY9_ok, jN9_ok, by decide +kernel, by decide +kernel⟩
theorem f_9_0 : jfok 9 0 "CoinNode$Stack" jT9 3 jY9 2 := ⟨jc_9, by decide, rfl⟩
theorem f_9_1 : jfok 9 1 "CoinNode$Stack" jT9 3 jY9 2 := ⟨jc_9, by decide, rfl⟩
theorem f_9_2 : jfok 9 2 "CoinNode$Stack" jT9 3 jY9 0 := ⟨jc_9, by decide, rfl⟩
theorem ju_10 : ∀ k, k < 8 → u_lay "CoinNode$Tx" jT10 k ∈ jws := fun k hk => match k, hk with
  | 0, _ => jw_741
  | 1, _ => jw_743
  | 2, _ => jw_745
  | 3, _ => jw_747
  | 4, _ => jw_749
  | 5, _ => jw_751
  | 6, _ => jw_753
  | 7, _ => jw_755
  | n + 8, h => absurd h (by omega)
theorem jc_10 : jcok 10 "CoinNode$Tx" jT10 8 jY10 := ⟨rfl, fun w hw => by obtain ⟨k, hk, rfl⟩ := List.mem_map.mp hw; exact ju_10 k (List.mem_range.mp hk), jY10_ok, jN10_ok, by decide +kernel, by decide +kernel⟩
theorem f_10_0 : jfok 10 0 "CoinNode$Tx" jT10 8 jY10 2 := ⟨jc_10, by decide, rfl⟩
theorem f_10_1 : jfok 10 1 "CoinNode$Tx" jT10 8 jY10 0 := ⟨jc_10, by decide, rfl⟩
theorem f_10_2 : jfok 10 2 "CoinNode$Tx" jT10 8 jY10 0 := ⟨jc_10, by decide, rfl⟩
theorem f_10_3 : jfok 10 3 "CoinNode$Tx" jT10 8 jY10 2 := ⟨jc_10, by decide, rfl⟩
theorem f_10_4 : jfok 10 4 "CoinNode$Tx" jT10 8 jY10 2 := ⟨jc_10, by decide, rfl⟩
theorem f_10_5 : jfok 10 5 "CoinNode$Tx" jT10 8 jY10 2 := ⟨jc_10, by decide, rfl⟩
theorem f_10_6 : jfok 10 6 "CoinNode$Tx" jT10 8 jY10 1 := ⟨jc_10, by decide, rfl⟩
theorem f_10_7 : jfok 10 7 "CoinNode$Tx" jT10 8 jY10 0 := ⟨jc_10, by decide, rfl⟩
theorem ju_11 : ∀ k, k < 14 → u_lay "CoinNode" jT11 k ∈ jws := fun k hk => match k, hk with
  | 0, _ => jw_491
  | 1, _ => jw_493
  | 2, _ => jw_495
  | 3, _ => jw_497
  | 4, _ => jw_499
  | 5, _ => jw_501
  | 6, _ => jw_503
  | 7, _ => jw_505
  | 8, _ => jw_507
  | 9, _ => jw_509
  | 10, _ => jw_511
  | 11, _ => jw_513
  | 12, _ => jw_515
  | 13, _ => jw_517
  | n + 14, h => absurd h (by omega)
theorem jc_11 : jcok 11 "CoinNode" jT11 14 jY11 := ⟨rfl, fun w hw => by obtain ⟨k, hk, rfl⟩ := List.mem_map.mp hw; exact ju_11 k (List.mem_range.mp hk), jY11_ok, jN11_ok, by decide +kernel, by decide +kernel⟩
theorem f_11_0 : jfok 11 0 "CoinNode" jT11 14 jY11 2 := ⟨jc_11, by decide, rfl⟩
theorem f_11_1 : jfok 11 1 "CoinNode" jT11 14 jY11 0 := ⟨jc_11, by decide, rfl⟩
theorem f_11_2 : jfok 11 2 "CoinNode" jT11 14 jY11 2 := ⟨jc_11, by decide, rfl⟩
theorem f_11_3 : jfok 11 3 "CoinNode" jT11 14 jY11 0 := ⟨jc_11, by decide, rfl⟩
theorem f_11_4 : jfok 11 4 "CoinNode" jT11 14 jY11 2 := ⟨jc_11, by decide, rfl⟩
theorem f_11_5 : jfok 11 5 "CoinNode" jT11 14 jY11 2 := ⟨jc_11, by decide, rfl⟩
theorem f_11_6 : jfok 11 6 "CoinNode" jT11 14 jY11 2 := ⟨jc_11, by decide, rfl⟩
theorem f_11_7 : jfok 11 7 "CoinNode" jT11 14 jY11 2 := ⟨jc_11, by decide, rfl⟩
theorem f_11_8 : jfok 11 8 "CoinNode" jT11 14 jY11 0 := ⟨jc_11, by decide, rfl⟩
theorem f_11_9 : jfok 11 9 "CoinNode" jT11 14 jY11 2 := ⟨jc_11, by decide, rfl⟩
theorem f_11_10 : jfok 11 10 "CoinNode" jT11 14 jY11 2 := ⟨jc_11, by decide, rfl⟩
theorem f_11_11 : jfok 11 11 "CoinNode" jT11 14 jY11 2 := ⟨jc_11, by decide, rfl⟩
theorem f_11_12 : jfok 11 12 "CoinNode" jT11 14 jY11 2 := ⟨jc_11, by decide, rfl⟩
theorem f_11_13 : jfok 11 13 "CoinNode" jT11 14 jY11 2 := ⟨jc_11, by decide, rfl⟩
theorem jst_1 : (1, "CoinNode$Hash", "START") ∈ jsts := List.mem_of_getElem? (i := 0) rfl
theorem jst_2 : (2, "CoinNode$Hash", "ROUNDS") ∈ jsts := List.mem_of_getElem? (i := 1) rfl
theorem jst_3 : (3, "CoinNode$Hash", "WORD") ∈ jsts := List.mem_of_getElem? (i := 2) rfl
theorem jst_4 : (4, "CoinNode$Hash", "TURN") ∈ jsts := List.mem_of_getElem? (i := 3) rfl
theorem jst_5 : (5, "CoinNode$Hash", "ADDED") ∈ jsts := List.mem_of_getElem? (i := 4) rfl
theorem jst_6 : (6, "CoinNode$Machine", "MOVES") ∈ jsts := List.mem_of_getElem? (i := 5) rfl
theorem jst_7 : (7, "CoinNode$Signature", "PRIME") ∈ jsts := List.mem_of_getElem? (i := 6) rfl
theorem jst_8 : (8, "CoinNode$Signature", "ORDER") ∈ jsts := List.mem_of_getElem? (i := 7) rfl
theorem jst_9 : (9, "CoinNode$Signature", "OVER") ∈ jsts := List.mem_of_getElem? (i := 8) rfl
theorem jst_10 : (10, "CoinNode$Signature", "BASE_X") ∈ jsts := List.mem_of_getElem? (i := 9) rfl
theorem jst_11 : (11, "CoinNode$Signature", "BASE_Y") ∈ jsts := List.mem_of_getElem? (i := 10) rfl
theorem jst_12 : (12, "CoinNode$Point", "ROOT") ∈ jsts := List.mem_of_getElem? (i := 11) rfl
theorem jnm_0 : ("CoinNode", 33, (⟨"CoinNode$Hash", "<init>", "()V"⟩ : MethodName), "CoinNode") ∈ jnM := List.mem_of_getElem? (i := 0) rfl
theorem jnm_1 : ("CoinNode$Signature", 58, (⟨"CoinNode$Point", "<init>", "()V"⟩ : MethodName), "CoinNode") ∈ jnM := List.mem_of_getElem? (i := 1) rfl
theorem jnm_2 : ("CoinNode$Machine", 13, (⟨"CoinNode$Stack", "<init>", "()V"⟩ : MethodName), "CoinNode") ∈ jnM := List.mem_of_getElem? (i := 2) rfl
theorem jnm_3 : ("CoinNode", 49, (⟨"CoinNode$Coins", "<init>", "()V"⟩ : MethodName), "CoinNode") ∈ jnM := List.mem_of_getElem? (i := 3) rfl
theorem jps_0 : Cond.selects "CoinNode" ⟨"CoinNode", "layOnTape", "(I)V"⟩ ⟨"CoinNode", "layOnTape", "(I)V"⟩ ∈ jws := jws_p (i := 0) rfl
theorem jps_1 : Cond.selects "CoinNode" ⟨"CoinNode", "takeTransaction", "(I[B)V"⟩ ⟨"CoinNode", "takeTransaction", "(I[B)V"⟩ ∈ jws := jws_p (i := 1) rfl
theorem jps_2 : Cond.selects "CoinNode$Tx" ⟨"CoinNode$Tx", "readInputs", "(I)I"⟩ ⟨"CoinNode$Tx", "readInputs", "(I)I"⟩ ∈ jws := jws_p (i := 2) rfl
theorem jps_3 : Cond.selects "CoinNode$Tx" ⟨"CoinNode$Tx", "isRootInput", "(I)Z"⟩ ⟨"CoinNode$Tx", "isRootInput", "(I)Z"⟩ ∈ jws := jws_p (i := 3) rfl
theorem jps_4 : Cond.selects "CoinNode$Tx" ⟨"CoinNode$Tx", "readOutputs", "(I)I"⟩ ⟨"CoinNode$Tx", "readOutputs", "(I)I"⟩ ∈ jws := jws_p (i := 4) rfl
theorem jps_5 : Cond.selects "CoinNode" ⟨"CoinNode", "answerVerdict", "(II[B)V"⟩ ⟨"CoinNode", "answerVerdict", "(II[B)V"⟩ ∈ jws := jws_p (i := 5) rfl
theorem jps_6 : Cond.selects "CoinNode" ⟨"CoinNode", "begin", "(I)V"⟩ ⟨"CoinNode", "begin", "(I)V"⟩ ∈ jws := jws_p (i := 6) rfl
theorem jps_7 : Cond.selects "CoinNode" ⟨"CoinNode", "put", "(I)V"⟩ ⟨"CoinNode", "put", "(I)V"⟩ ∈ jws := jws_p (i := 7) rfl
theorem jps_8 : Cond.selects "CoinNode" ⟨"CoinNode", "post", "(I)V"⟩ ⟨"CoinNode", "post", "(I)V"⟩ ∈ jws := jws_p (i := 8) rfl
theorem jps_9 : Cond.selects "CoinNode$Pool" ⟨"CoinNode$Pool", "clash", "(LCoinNode$Tx;)I"⟩ ⟨"CoinNode$Pool", "clash", "(LCoinNode$Tx;)I"⟩ ∈ jws := jws_p (i := 9) rfl
theorem jps_10 : Cond.selects "CoinNode$Pool" ⟨"CoinNode$Pool", "take", "(LCoinNode$Tx;I)I"⟩ ⟨"CoinNode$Pool", "take", "(LCoinNode$Tx;I)I"⟩ ∈ jws := jws_p (i := 10) rfl
theorem jps_11 : Cond.selects "CoinNode$Machine" ⟨"CoinNode$Machine", "push", "(I)V"⟩ ⟨"CoinNode$Machine", "push", "(I)V"⟩ ∈ jws := jws_p (i := 11) rfl
theorem jps_12 : Cond.selects "CoinNode$Machine" ⟨"CoinNode$Machine", "part", "(I)V"⟩ ⟨"CoinNode$Machine", "part", "(I)V"⟩ ∈ jws := jws_p (i := 12) rfl
theorem jps_13 : Cond.selects "CoinNode$Machine" ⟨"CoinNode$Machine", "has", "(I)Z"⟩ ⟨"CoinNode$Machine", "has", "(I)Z"⟩ ∈ jws := jws_p (i := 13) rfl
theorem jps_14 : Cond.selects "CoinNode$Machine" ⟨"CoinNode$Machine", "small", "(I)V"⟩ ⟨"CoinNode$Machine", "small", "(I)V"⟩ ∈ jws := jws_p (i := 14) rfl
theorem jps_15 : Cond.selects "CoinNode$Machine" ⟨"CoinNode$Machine", "pass", "(I)V"⟩ ⟨"CoinNode$Machine", "pass", "(I)V"⟩ ∈ jws := jws_p (i := 15) rfl
theorem jps_16 : Cond.selects "CoinNode$Machine" ⟨"CoinNode$Machine", "arrange", "(I)V"⟩ ⟨"CoinNode$Machine", "arrange", "(I)V"⟩ ∈ jws := jws_p (i := 16) rfl
theorem jps_17 : Cond.selects "CoinNode$Machine" ⟨"CoinNode$Machine", "move", "(I)V"⟩ ⟨"CoinNode$Machine", "move", "(I)V"⟩ ∈ jws := jws_p (i := 17) rfl
theorem jps_18 : Cond.selects "CoinNode$Machine" ⟨"CoinNode$Machine", "compare", "(I)V"⟩ ⟨"CoinNode$Machine", "compare", "(I)V"⟩ ∈ jws := jws_p (i := 18) rfl
theorem jps_19 : Cond.selects "CoinNode$Machine" ⟨"CoinNode$Machine", "calculate", "(I)V"⟩ ⟨"CoinNode$Machine", "calculate", "(I)V"⟩ ∈ jws := jws_p (i := 19) rfl
theorem jps_20 : Cond.selects "CoinNode$Machine" ⟨"CoinNode$Machine", "digest", "(I)V"⟩ ⟨"CoinNode$Machine", "digest", "(I)V"⟩ ∈ jws := jws_p (i := 20) rfl
theorem jps_21 : Cond.selects "CoinNode$Machine" ⟨"CoinNode$Machine", "ask", "(I)V"⟩ ⟨"CoinNode$Machine", "ask", "(I)V"⟩ ∈ jws := jws_p (i := 21) rfl
theorem jps_22 : Cond.selects "CoinNode$Machine" ⟨"CoinNode$Machine", "finish", "(Z)V"⟩ ⟨"CoinNode$Machine", "finish", "(Z)V"⟩ ∈ jws := jws_p (i := 22) rfl
theorem jps_23 : Cond.selects "CoinNode$Scripts" ⟨"CoinNode$Scripts", "write", "(LCoinNode$Tx;ILCoinNode$Tx;II)V"⟩ ⟨"CoinNode$Scripts", "write", "(LCoinNode$Tx;ILCoinNode$Tx;II)V"⟩ ∈ jws := jws_p (i := 23) rfl
theorem jps_24 : Cond.selects "CoinNode$Scripts" ⟨"CoinNode$Scripts", "put", "([BII)V"⟩ ⟨"CoinNode$Scripts", "put", "([BII)V"⟩ ∈ jws := jws_p (i := 24) rfl
theorem jps_25 : Cond.selects "CoinNode$Scripts" ⟨"CoinNode$Scripts", "fill", "(II)V"⟩ ⟨"CoinNode$Scripts", "fill", "(II)V"⟩ ∈ jws := jws_p (i := 25) rfl
theorem jps_26 : Cond.selects "CoinNode$Signature" ⟨"CoinNode$Signature", "invert", "([I)V"⟩ ⟨"CoinNode$Signature", "invert", "([I)V"⟩ ∈ jws := jws_p (i := 26) rfl
theorem jps_27 : Cond.selects "CoinNode$Signature" ⟨"CoinNode$Signature", "multiply", "([I[I[I)V"⟩ ⟨"CoinNode$Signature", "multiply", "([I[I[I)V"⟩ ∈ jws := jws_p (i := 27) rfl
theorem jps_28 : Cond.selects "CoinNode$Signature" ⟨"CoinNode$Signature", "isAtX", "()Z"⟩ ⟨"CoinNode$Signature", "isAtX", "()Z"⟩ ∈ jws := jws_p (i := 28) rfl
theorem jps_29 : Cond.selects "CoinNode$Pool" ⟨"CoinNode$Pool", "knot", "(LCoinNode$Tx;)I"⟩ ⟨"CoinNode$Pool", "knot", "(LCoinNode$Tx;)I"⟩ ∈ jws := jws_p (i := 29) rfl
theorem jps_30 : Cond.selects "CoinNode$Pool" ⟨"CoinNode$Pool", "markKin", "(LCoinNode$Tx;)V"⟩ ⟨"CoinNode$Pool", "markKin", "(LCoinNode$Tx;)V"⟩ ∈ jws := jws_p (i := 30) rfl
theorem jps_31 : Cond.selects "CoinNode$Pool" ⟨"CoinNode$Pool", "dropLeast", "(LCoinNode$Tx;)Z"⟩ ⟨"CoinNode$Pool", "dropLeast", "(LCoinNode$Tx;)Z"⟩ ∈ jws := jws_p (i := 31) rfl
theorem jps_32 : Cond.selects "CoinNode" ⟨"CoinNode", "tellOthers", "(II[B)V"⟩ ⟨"CoinNode", "tellOthers", "(II[B)V"⟩ ∈ jws := jws_p (i := 32) rfl
theorem jps_33 : Cond.selects "CoinNode" ⟨"CoinNode", "put", "([BII)V"⟩ ⟨"CoinNode", "put", "([BII)V"⟩ ∈ jws := jws_p (i := 33) rfl
theorem jps_34 : Cond.selects "CoinNode$Chain" ⟨"CoinNode$Chain", "bitsBehind", "(LCoinNode$Block;)I"⟩ ⟨"CoinNode$Chain", "bitsBehind", "(LCoinNode$Block;)I"⟩ ∈ jws := jws_p (i := 34) rfl
theorem jps_35 : Cond.selects "CoinNode$Chain" ⟨"CoinNode$Chain", "median", "(LCoinNode$Block;)J"⟩ ⟨"CoinNode$Chain", "median", "(LCoinNode$Block;)J"⟩ ∈ jws := jws_p (i := 35) rfl
theorem jps_36 : Cond.selects "CoinNode$Chain" ⟨"CoinNode$Chain", "setWork", "(LCoinNode$Block;)V"⟩ ⟨"CoinNode$Chain", "setWork", "(LCoinNode$Block;)V"⟩ ∈ jws := jws_p (i := 36) rfl
theorem jps_37 : Cond.selects "CoinNode$Chain" ⟨"CoinNode$Chain", "best", "()LCoinNode$Block;"⟩ ⟨"CoinNode$Chain", "best", "()LCoinNode$Block;"⟩ ∈ jws := jws_p (i := 37) rfl
theorem jps_38 : Cond.selects "CoinNode$Chain" ⟨"CoinNode$Chain", "layWay", "(LCoinNode$Block;)I"⟩ ⟨"CoinNode$Chain", "layWay", "(LCoinNode$Block;)I"⟩ ∈ jws := jws_p (i := 38) rfl
theorem jps_39 : Cond.selects "CoinNode$Chain" ⟨"CoinNode$Chain", "replay", "(I)V"⟩ ⟨"CoinNode$Chain", "replay", "(I)V"⟩ ∈ jws := jws_p (i := 39) rfl
theorem jps_40 : Cond.selects "CoinNode$Coins" ⟨"CoinNode$Coins", "change", "(LCoinNode$Tx;IZ)V"⟩ ⟨"CoinNode$Coins", "change", "(LCoinNode$Tx;IZ)V"⟩ ∈ jws := jws_p (i := 40) rfl
theorem jps_41 : Cond.selects "CoinNode$Coins" ⟨"CoinNode$Coins", "take", "(LCoinNode$Tx;I)I"⟩ ⟨"CoinNode$Coins", "take", "(LCoinNode$Tx;I)I"⟩ ∈ jws := jws_p (i := 41) rfl
theorem jps_42 : Cond.selects "CoinNode$Coins" ⟨"CoinNode$Coins", "faultOfMaking", "(LCoinNode$Tx;I)I"⟩ ⟨"CoinNode$Coins", "faultOfMaking", "(LCoinNode$Tx;I)I"⟩ ∈ jws := jws_p (i := 42) rfl
theorem jps_43 : Cond.selects "CoinNode$Chain" ⟨"CoinNode$Chain", "move", "(ILCoinNode$Block;)V"⟩ ⟨"CoinNode$Chain", "move", "(ILCoinNode$Block;)V"⟩ ∈ jws := jws_p (i := 43) rfl
theorem jps_44 : Cond.selects "CoinNode$Chain" ⟨"CoinNode$Chain", "condemn", "(LCoinNode$Block;)V"⟩ ⟨"CoinNode$Chain", "condemn", "(LCoinNode$Block;)V"⟩ ∈ jws := jws_p (i := 44) rfl
theorem jps_45 : Cond.selects "CoinNode" ⟨"CoinNode", "answerBlock", "(ILCoinNode$Block;IZ)V"⟩ ⟨"CoinNode", "answerBlock", "(ILCoinNode$Block;IZ)V"⟩ ∈ jws := jws_p (i := 45) rfl
theorem jps_46 : Cond.selects "CoinNode" ⟨"CoinNode", "askWhatIsBehind", "(I)V"⟩ ⟨"CoinNode", "askWhatIsBehind", "(I)V"⟩ ∈ jws := jws_p (i := 46) rfl
theorem jps_47 : Cond.selects "CoinNode" ⟨"CoinNode", "answerWhatIsBehind", "(I[B)V"⟩ ⟨"CoinNode", "answerWhatIsBehind", "(I[B)V"⟩ ∈ jws := jws_p (i := 47) rfl
theorem jps_48 : Cond.selects "CoinNode" ⟨"CoinNode", "answerGive", "(I[B)V"⟩ ⟨"CoinNode", "answerGive", "(I[B)V"⟩ ∈ jws := jws_p (i := 48) rfl
theorem jps_49 : Cond.selects "CoinNode" ⟨"CoinNode", "answerIHave", "(I[B)V"⟩ ⟨"CoinNode", "answerIHave", "(I[B)V"⟩ ∈ jws := jws_p (i := 49) rfl
theorem jm_100 : 100 ∈ jtags := by decide
theorem jm_101 : 101 ∈ jtags := by decide
theorem jm_102 : 102 ∈ jtags := by decide
theorem jm_103 : 103 ∈ jtags := by decide
theorem jm_110 : 110 ∈ jtags := by decide
theorem jm_111 : 111 ∈ jtags := by decide
theorem jm_112 : 112 ∈ jtags := by decide
theorem jm_113 : 113 ∈ jtags := by decide
theorem jm_114 : 114 ∈ jtags := by decide
theorem jm_115 : 115 ∈ jtags := by decide
theorem jt_110 : 110 ∈ jtags ∧ (jty 110).isReference = true ∧ jkd (jty 110) = 2 := ⟨by decide, rfl, rfl⟩
theorem jt_111 : 111 ∈ jtags ∧ (jty 111).isReference = true ∧ jkd (jty 111) = 2 := ⟨by decide, rfl, rfl⟩
theorem jt_112 : 112 ∈ jtags ∧ (jty 112).isReference = true ∧ jkd (jty 112) = 2 := ⟨by decide, rfl, rfl⟩
theorem jt_113 : 113 ∈ jtags ∧ (jty 113).isReference = true ∧ jkd (jty 113) = 2 := ⟨by decide, rfl, rfl⟩
theorem jt_114 : 114 ∈ jtags ∧ (jty 114).isReference = true ∧ jkd (jty 114) = 2 := ⟨by decide, rfl, rfl⟩
theorem jt_115 : 115 ∈ jtags ∧ (jty 115).isReference = true ∧ jkd (jty 115) = 2 := ⟨by decide, rfl, rfl⟩
theorem js_113 : 113 ∈ jtags ∧ 113 ≠ 100 ∧ jty 113 = .object "CoinNode$Tx" := ⟨by decide, by decide, rfl⟩
theorem js_114 : 114 ∈ jtags ∧ 114 ≠ 100 ∧ jty 114 = .object "CoinNode$Block" := ⟨by decide, by decide, rfl⟩
theorem js_115 : 115 ∈ jtags ∧ 115 ≠ 100 ∧ jty 115 = .object "CoinNode$Point" := ⟨by decide, by decide, rfl⟩
theorem jbp_6 : (Int8.ofInt (Reader.signed 8 6)).toInt32 = 6 := by decide +kernel
theorem jbp_7 : (Int8.ofInt (Reader.signed 8 7)).toInt32 = 7 := by decide +kernel
theorem jbp_8 : (Int8.ofInt (Reader.signed 8 8)).toInt32 = 8 := by decide +kernel
theorem jbp_9 : (Int8.ofInt (Reader.signed 8 9)).toInt32 = 9 := by decide +kernel
theorem jbp_10 : (Int8.ofInt (Reader.signed 8 10)).toInt32 = 10 := by decide +kernel
theorem jbp_11 : (Int8.ofInt (Reader.signed 8 11)).toInt32 = 11 := by decide +kernel
theorem jbp_12 : (Int8.ofInt (Reader.signed 8 12)).toInt32 = 12 := by decide +kernel
theorem jbp_13 : (Int8.ofInt (Reader.signed 8 13)).toInt32 = 13 := by decide +kernel
theorem jbp_14 : (Int8.ofInt (Reader.signed 8 14)).toInt32 = 14 := by decide +kernel
theorem jbp_15 : (Int8.ofInt (Reader.signed 8 15)).toInt32 = 15 := by decide +kernel
theorem jbp_16 : (Int8.ofInt (Reader.signed 8 16)).toInt32 = 16 := by decide +kernel
theorem jbp_17 : (Int8.ofInt (Reader.signed 8 17)).toInt32 = 17 := by decide +kernel
theorem jbp_18 : (Int8.ofInt (Reader.signed 8 18)).toInt32 = 18 := by decide +kernel
theorem jbp_19 : (Int8.ofInt (Reader.signed 8 19)).toInt32 = 19 := by decide +kernel
theorem jbp_20 : (Int8.ofInt (Reader.signed 8 20)).toInt32 = 20 := by decide +kernel
theorem jbp_21 : (Int8.ofInt (Reader.signed 8 21)).toInt32 = 21 := by decide +kernel
theorem jbp_22 : (Int8.ofInt (Reader.signed 8 22)).toInt32 = 22 := by decide +kernel
theorem jbp_23 : (Int8.ofInt (Reader.signed 8 23)).toInt32 = 23 := by decide +kernel
theorem jbp_24 : (Int8.ofInt (Reader.signed 8 24)).toInt32 = 24 := by decide +kernel
theorem jbp_25 : (Int8.ofInt (Reader.signed 8 25)).toInt32 = 25 := by decide +kernel
theorem jbp_26 : (Int8.ofInt (Reader.signed 8 26)).toInt32 = 26 := by decide +kernel
theorem jbp_27 : (Int8.ofInt (Reader.signed 8 27)).toInt32 = 27 := by decide +kernel
theorem jbp_28 : (Int8.ofInt (Reader.signed 8 28)).toInt32 = 28 := by decide +kernel
theorem jbp_30 : (Int8.ofInt (Reader.signed 8 30)).toInt32 = 30 := by decide +kernel
theorem jbp_31 : (Int8.ofInt (Reader.signed 8 31)).toInt32 = 31 := by decide +kernel
theorem jbp_32 : (Int8.ofInt (Reader.signed 8 32)).toInt32 = 32 := by decide +kernel
theorem jbp_33 : (Int8.ofInt (Reader.signed 8 33)).toInt32 = 33 := by decide +kernel
theorem jbp_34 : (Int8.ofInt (Reader.signed 8 34)).toInt32 = 34 := by decide +kernel
theorem jbp_35 : (Int8.ofInt (Reader.signed 8 35)).toInt32 = 35 := by decide +kernel
theorem jbp_36 : (Int8.ofInt (Reader.signed 8 36)).toInt32 = 36 := by decide +kernel
theorem jbp_37 : (Int8.ofInt (Reader.signed 8 37)).toInt32 = 37 := by decide +kernel
theorem jbp_38 : (Int8.ofInt (Reader.signed 8 38)).toInt32 = 38 := by decide +kernel
theorem jbp_39 : (Int8.ofInt (Reader.signed 8 39)).toInt32 = 39 := by decide +kernel
theorem jbp_40 : (Int8.ofInt (Reader.signed 8 40)).toInt32 = 40 := by decide +kernel
theorem jbp_41 : (Int8.ofInt (Reader.signed 8 41)).toInt32 = 41 := by decide +kernel
theorem jbp_42 : (Int8.ofInt (Reader.signed 8 42)).toInt32 = 42 := by decide +kernel
theorem jbp_44 : (Int8.ofInt (Reader.signed 8 44)).toInt32 = 44 := by decide +kernel
theorem jbp_45 : (Int8.ofInt (Reader.signed 8 45)).toInt32 = 45 := by decide +kernel
theorem jbp_46 : (Int8.ofInt (Reader.signed 8 46)).toInt32 = 46 := by decide +kernel
theorem jbp_47 : (Int8.ofInt (Reader.signed 8 47)).toInt32 = 47 := by decide +kernel
theorem jbp_48 : (Int8.ofInt (Reader.signed 8 48)).toInt32 = 48 := by decide +kernel
theorem jbp_49 : (Int8.ofInt (Reader.signed 8 49)).toInt32 = 49 := by decide +kernel
theorem jbp_50 : (Int8.ofInt (Reader.signed 8 50)).toInt32 = 50 := by decide +kernel
theorem jbp_51 : (Int8.ofInt (Reader.signed 8 51)).toInt32 = 51 := by decide +kernel
theorem jbp_52 : (Int8.ofInt (Reader.signed 8 52)).toInt32 = 52 := by decide +kernel
theorem jbp_53 : (Int8.ofInt (Reader.signed 8 53)).toInt32 = 53 := by decide +kernel
theorem jbp_54 : (Int8.ofInt (Reader.signed 8 54)).toInt32 = 54 := by decide +kernel
theorem jbp_55 : (Int8.ofInt (Reader.signed 8 55)).toInt32 = 55 := by decide +kernel
theorem jbp_56 : (Int8.ofInt (Reader.signed 8 56)).toInt32 = 56 := by decide +kernel
theorem jbp_57 : (Int8.ofInt (Reader.signed 8 57)).toInt32 = 57 := by decide +kernel
theorem jbp_58 : (Int8.ofInt (Reader.signed 8 58)).toInt32 = 58 := by decide +kernel
theorem jbp_59 : (Int8.ofInt (Reader.signed 8 59)).toInt32 = 59 := by decide +kernel
theorem jbp_60 : (Int8.ofInt (Reader.signed 8 60)).toInt32 = 60 := by decide +kernel
theorem jbp_61 : (Int8.ofInt (Reader.signed 8 61)).toInt32 = 61 := by decide +kernel
theorem jbp_62 : (Int8.ofInt (Reader.signed 8 62)).toInt32 = 62 := by decide +kernel
theorem jbp_64 : (Int8.ofInt (Reader.signed 8 64)).toInt32 = 64 := by decide +kernel
theorem jbp_65 : (Int8.ofInt (Reader.signed 8 65)).toInt32 = 65 := by decide +kernel
theorem jbp_69 : (Int8.ofInt (Reader.signed 8 69)).toInt32 = 69 := by decide +kernel
theorem jbp_70 : (Int8.ofInt (Reader.signed 8 70)).toInt32 = 70 := by decide +kernel
theorem jbp_72 : (Int8.ofInt (Reader.signed 8 72)).toInt32 = 72 := by decide +kernel
theorem jbp_73 : (Int8.ofInt (Reader.signed 8 73)).toInt32 = 73 := by decide +kernel
theorem jbp_76 : (Int8.ofInt (Reader.signed 8 76)).toInt32 = 76 := by decide +kernel
theorem jbp_77 : (Int8.ofInt (Reader.signed 8 77)).toInt32 = 77 := by decide +kernel
theorem jbp_79 : (Int8.ofInt (Reader.signed 8 79)).toInt32 = 79 := by decide +kernel
theorem jbp_80 : (Int8.ofInt (Reader.signed 8 80)).toInt32 = 80 := by decide +kernel
theorem jbp_81 : (Int8.ofInt (Reader.signed 8 81)).toInt32 = 81 := by decide +kernel
theorem jbp_82 : (Int8.ofInt (Reader.signed 8 82)).toInt32 = 82 := by decide +kernel
theorem jbp_94 : (Int8.ofInt (Reader.signed 8 94)).toInt32 = 94 := by decide +kernel
theorem jbp_96 : (Int8.ofInt (Reader.signed 8 96)).toInt32 = 96 := by decide +kernel
theorem jbp_97 : (Int8.ofInt (Reader.signed 8 97)).toInt32 = 97 := by decide +kernel
theorem jbp_99 : (Int8.ofInt (Reader.signed 8 99)).toInt32 = 99 := by decide +kernel
theorem jbp_100 : (Int8.ofInt (Reader.signed 8 100)).toInt32 = 100 := by decide +kernel
theorem jbp_103 : (Int8.ofInt (Reader.signed 8 103)).toInt32 = 103 := by decide +kernel
theorem jbp_104 : (Int8.ofInt (Reader.signed 8 104)).toInt32 = 104 := by decide +kernel
theorem jbp_105 : (Int8.ofInt (Reader.signed 8 105)).toInt32 = 105 := by decide +kernel
theorem jbp_107 : (Int8.ofInt (Reader.signed 8 107)).toInt32 = 107 := by decide +kernel
theorem jbp_108 : (Int8.ofInt (Reader.signed 8 108)).toInt32 = 108 := by decide +kernel
theorem jbp_115 : (Int8.ofInt (Reader.signed 8 115)).toInt32 = 115 := by decide +kernel
theorem jbp_116 : (Int8.ofInt (Reader.signed 8 116)).toInt32 = 116 := by decide +kernel
theorem jbp_120 : (Int8.ofInt (Reader.signed 8 120)).toInt32 = 120 := by decide +kernel
theorem jbp_121 : (Int8.ofInt (Reader.signed 8 121)).toInt32 = 121 := by decide +kernel
theorem jbp_122 : (Int8.ofInt (Reader.signed 8 122)).toInt32 = 122 := by decide +kernel
theorem jbp_127 : (Int8.ofInt (Reader.signed 8 127)).toInt32 = 127 := by decide +kernel
theorem jbp_128 : (Int8.ofInt (Reader.signed 8 128)).toInt32 = (-128) := by decide +kernel
theorem jbp_254 : (Int8.ofInt (Reader.signed 8 254)).toInt32 = (-2) := by decide +kernel
theorem jsp_0_128 : (Int16.ofInt (Reader.signed 16 (0 * 256 + 128))).toInt32 = 128 := by decide +kernel
theorem jsp_0_130 : (Int16.ofInt (Reader.signed 16 (0 * 256 + 130))).toInt32 = 130 := by decide +kernel
theorem jsp_0_135 : (Int16.ofInt (Reader.signed 16 (0 * 256 + 135))).toInt32 = 135 := by decide +kernel
theorem jsp_0_136 : (Int16.ofInt (Reader.signed 16 (0 * 256 + 136))).toInt32 = 136 := by decide +kernel
theorem jsp_0_139 : (Int16.ofInt (Reader.signed 16 (0 * 256 + 139))).toInt32 = 139 := by decide +kernel
theorem jsp_0_141 : (Int16.ofInt (Reader.signed 16 (0 * 256 + 141))).toInt32 = 141 := by decide +kernel
theorem jsp_0_142 : (Int16.ofInt (Reader.signed 16 (0 * 256 + 142))).toInt32 = 142 := by decide +kernel
theorem jsp_0_146 : (Int16.ofInt (Reader.signed 16 (0 * 256 + 146))).toInt32 = 146 := by decide +kernel
theorem jsp_0_148 : (Int16.ofInt (Reader.signed 16 (0 * 256 + 148))).toInt32 = 148 := by decide +kernel
theorem jsp_0_154 : (Int16.ofInt (Reader.signed 16 (0 * 256 + 154))).toInt32 = 154 := by decide +kernel
theorem jsp_0_157 : (Int16.ofInt (Reader.signed 16 (0 * 256 + 157))).toInt32 = 157 := by decide +kernel
theorem jsp_0_165 : (Int16.ofInt (Reader.signed 16 (0 * 256 + 165))).toInt32 = 165 := by decide +kernel
theorem jsp_0_166 : (Int16.ofInt (Reader.signed 16 (0 * 256 + 166))).toInt32 = 166 := by decide +kernel
theorem jsp_0_167 : (Int16.ofInt (Reader.signed 16 (0 * 256 + 167))).toInt32 = 167 := by decide +kernel
theorem jsp_0_169 : (Int16.ofInt (Reader.signed 16 (0 * 256 + 169))).toInt32 = 169 := by decide +kernel
theorem jsp_0_170 : (Int16.ofInt (Reader.signed 16 (0 * 256 + 170))).toInt32 = 170 := by decide +kernel
theorem jsp_0_172 : (Int16.ofInt (Reader.signed 16 (0 * 256 + 172))).toInt32 = 172 := by decide +kernel
theorem jsp_0_173 : (Int16.ofInt (Reader.signed 16 (0 * 256 + 173))).toInt32 = 173 := by decide +kernel
theorem jsp_0_175 : (Int16.ofInt (Reader.signed 16 (0 * 256 + 175))).toInt32 = 175 := by decide +kernel
theorem jsp_0_200 : (Int16.ofInt (Reader.signed 16 (0 * 256 + 200))).toInt32 = 200 := by decide +kernel
theorem jsp_0_252 : (Int16.ofInt (Reader.signed 16 (0 * 256 + 252))).toInt32 = 252 := by decide +kernel
theorem jsp_0_255 : (Int16.ofInt (Reader.signed 16 (0 * 256 + 255))).toInt32 = 255 := by decide +kernel
theorem jsp_1_0 : (Int16.ofInt (Reader.signed 16 (1 * 256 + 0))).toInt32 = 256 := by decide +kernel
theorem jsp_1_1 : (Int16.ofInt (Reader.signed 16 (1 * 256 + 1))).toInt32 = 257 := by decide +kernel
theorem jsp_1_44 : (Int16.ofInt (Reader.signed 16 (1 * 256 + 44))).toInt32 = 300 := by decide +kernel
theorem jsp_1_160 : (Int16.ofInt (Reader.signed 16 (1 * 256 + 160))).toInt32 = 416 := by decide +kernel
theorem jsp_2_178 : (Int16.ofInt (Reader.signed 16 (2 * 256 + 178))).toInt32 = 690 := by decide +kernel
theorem jsp_5_220 : (Int16.ofInt (Reader.signed 16 (5 * 256 + 220))).toInt32 = 1500 := by decide +kernel
theorem jsp_7_208 : (Int16.ofInt (Reader.signed 16 (7 * 256 + 208))).toInt32 = 2000 := by decide +kernel
theorem jsp_9_96 : (Int16.ofInt (Reader.signed 16 (9 * 256 + 96))).toInt32 = 2400 := by decide +kernel
theorem jsp_10_0 : (Int16.ofInt (Reader.signed 16 (10 * 256 + 0))).toInt32 = 2560 := by decide +kernel
theorem jsp_11_184 : (Int16.ofInt (Reader.signed 16 (11 * 256 + 184))).toInt32 = 3000 := by decide +kernel
theorem jsp_31_64 : (Int16.ofInt (Reader.signed 16 (31 * 256 + 64))).toInt32 = 8000 := by decide +kernel
theorem ji_1 : Int32.ofInt (Reader.signed 8 1) = 1 := by decide +kernel
theorem ji_2 : Int32.ofInt (Reader.signed 8 2) = 2 := by decide +kernel
theorem ji_4 : Int32.ofInt (Reader.signed 8 4) = 4 := by decide +kernel
theorem ji_5 : Int32.ofInt (Reader.signed 8 5) = 5 := by decide +kernel
theorem ji_33 : Int32.ofInt (Reader.signed 8 33) = 33 := by decide +kernel
theorem ji_248 : Int32.ofInt (Reader.signed 8 248) = (-8) := by decide +kernel
theorem ji_252 : Int32.ofInt (Reader.signed 8 252) = (-4) := by decide +kernel
theorem ji_255 : Int32.ofInt (Reader.signed 8 255) = (-1) := by decide +kernel
