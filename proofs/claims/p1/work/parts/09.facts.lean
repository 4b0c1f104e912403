/-! Facts by places: classes, fields, arrays, constants. -/
theorem ju_0 : ∀ k, k < 9 → u_lay "CoinNode$Block" jT0 k ∈ jws := fun k hk => match k, hk with
  | 0, _ => jw_347
  | 1, _ => jw_349
  | 2, _ => jw_351
  | 3, _ => jw_353
  | 4, _ => jw_355
  | 5, _ => jw_357
  | 6, _ => jw_359
  | 7, _ => jw_361
  | 8, _ => jw_363
  | n + 9, h => absurd h (by omega)
theorem jc_0 : jcok 0 "CoinNode$Block" jT0 9 jY0 := ⟨rfl, fun w hw => by obtain ⟨k, hk, rfl⟩ := List.mem_map.mp hw; exact ju_0 k (List.mem_range.mp hk), jY0_ok, jN0_ok, by decide +kernel, by decide +kernel⟩
theorem f_0_0 : jfok 0 0 "CoinNode$Block" jT0 9 jY0 2 := ⟨jc_0, by decide, rfl⟩
theorem f_0_1 : jfok 0 1 "CoinNode$Block" jT0 9 jY0 2 := ⟨jc_0, by decide, rfl⟩
theorem f_0_2 : jfok 0 2 "CoinNode$Block" jT0 9 jY0 0 := ⟨jc_0, by decide, rfl⟩
theorem f_0_3 : jfok 0 3 "CoinNode$Block" jT0 9 jY0 1 := ⟨jc_0, by decide, rfl⟩
theorem f_0_4 : jfok 0 4 "CoinNode$Block" jT0 9 jY0 2 := ⟨jc_0, by decide, rfl⟩
theorem f_0_5 : jfok 0 5 "CoinNode$Block" jT0 9 jY0 2 := ⟨jc_0, by decide, rfl⟩
theorem f_0_6 : jfok 0 6 "CoinNode$Block" jT0 9 jY0 0 := ⟨jc_0, by decide, rfl⟩
theorem f_0_7 : jfok 0 7 "CoinNode$Block" jT0 9 jY0 0 := ⟨jc_0, by decide, rfl⟩
theorem f_0_8 : jfok 0 8 "CoinNode$Block" jT0 9 jY0 2 := ⟨jc_0, by decide, rfl⟩
theorem ju_1 : ∀ k, k < 17 → u_lay "CoinNode$Chain" jT1 k ∈ jws := fun k hk => match k, hk with
  | 0, _ => jw_407
  | 1, _ => jw_409
  | 2, _ => jw_411
  | 3, _ => jw_413
  | 4, _ => jw_415
  | 5, _ => jw_417
  | 6, _ => jw_419
  | 7, _ => jw_421
  | 8, _ => jw_423
  | 9, _ => jw_425
  | 10, _ => jw_427
  | 11, _ => jw_429
  | 12, _ => jw_431
  | 13, _ => jw_433
  | 14, _ => jw_435
  | 15, _ => jw_437
  | 16, _ => jw_439
  | n + 17, h => absurd h (by omega)
theorem jc_1 : jcok 1 "CoinNode$Chain" jT1 17 jY1 := ⟨rfl, fun w hw => by obtain ⟨k, hk, rfl⟩ := List.mem_map.mp hw; exact ju_1 k (List.mem_range.mp hk), jY1_ok, jN1_ok, by decide +kernel, by decide +kernel⟩
theorem f_1_0 : jfok 1 0 "CoinNode$Chain" jT1 17 jY1 2 := ⟨jc_1, by decide, rfl⟩
theorem f_1_1 : jfok 1 1 "CoinNode$Chain" jT1 17 jY1 2 := ⟨jc_1, by decide, rfl⟩
theorem f_1_2 : jfok 1 2 "CoinNode$Chain" jT1 17 jY1 2 := ⟨jc_1, by decide, rfl⟩
theorem f_1_3 : jfok 1 3 "CoinNode$Chain" jT1 17 jY1 2 := ⟨jc_1, by decide, rfl⟩
theorem f_1_4 : jfok 1 4 "CoinNode$Chain" jT1 17 jY1 0 := ⟨jc_1, by decide, rfl⟩
theorem f_1_5 : jfok 1 5 "CoinNode$Chain" jT1 17 jY1 0 := ⟨jc_1, by decide, rfl⟩
theorem f_1_6 : jfok 1 6 "CoinNode$Chain" jT1 17 jY1 2 := ⟨jc_1, by decide, rfl⟩
theorem f_1_7 : jfok 1 7 "CoinNode$Chain" jT1 17 jY1 2 := ⟨jc_1, by decide, rfl⟩
theorem f_1_8 : jfok 1 8 "CoinNode$Chain" jT1 17 jY1 2 := ⟨jc_1, by decide, rfl⟩
theorem f_1_9 : jfok 1 9 "CoinNode$Chain" jT1 17 jY1 2 := ⟨jc_1, by decide, rfl⟩
theorem f_1_10 : jfok 1 10 "CoinNode$Chain" jT1 17 jY1 0 := ⟨jc_1, by decide, rfl⟩
theorem f_1_11 : jfok 1 11 "CoinNode$Chain" jT1 17 jY1 2 := ⟨jc_1, by decide, rfl⟩
theorem f_1_12 : jfok 1 12 "CoinNode$Chain" jT1 17 jY1 2 := ⟨jc_1, by decide, rfl⟩
theorem f_1_13 : jfok 1 13 "CoinNode$Chain" jT1 17 jY1 2 := ⟨jc_1, by decide, rfl⟩
theorem f_1_14 : jfok 1 14 "CoinNode$Chain" jT1 17 jY1 2 := ⟨jc_1, by decide, rfl⟩
theorem f_1_15 : jfok 1 15 "CoinNode$Chain" jT1 17 jY1 2 := ⟨jc_1, by decide, rfl⟩
theorem f_1_16 : jfok 1 16 "CoinNode$Chain" jT1 17 jY1 2 := ⟨jc_1, by decide, rfl⟩
theorem ju_2 : ∀ k, k < 9 → u_lay "CoinNode$Coins" jT2 k ∈ jws := fun k hk => match k, hk with
  | 0, _ => jw_288
  | 1, _ => jw_290
  | 2, _ => jw_292
  | 3, _ => jw_294
  | 4, _ => jw_296
  | 5, _ => jw_298
  | 6, _ => jw_300
  | 7, _ => jw_302
  | 8, _ => jw_304
  | n + 9, h => absurd h (by omega)
theorem jc_2 : jcok 2 "CoinNode$Coins" jT2 9 jY2 := ⟨rfl, fun w hw => by obtain ⟨k, hk, rfl⟩ := List.mem_map.mp hw; exact ju_2 k (List.mem_range.mp hk), jY2_ok, jN2_ok, by decide +kernel, by decide +kernel⟩
theorem f_2_0 : jfok 2 0 "CoinNode$Coins" jT2 9 jY2 2 := ⟨jc_2, by decide, rfl⟩
theorem f_2_1 : jfok 2 1 "CoinNode$Coins" jT2 9 jY2 2 := ⟨jc_2, by decide, rfl⟩
theorem f_2_2 : jfok 2 2 "CoinNode$Coins" jT2 9 jY2 2 := ⟨jc_2, by decide, rfl⟩
theorem f_2_3 : jfok 2 3 "CoinNode$Coins" jT2 9 jY2 0 := ⟨jc_2, by decide, rfl⟩
theorem f_2_4 : jfok 2 4 "CoinNode$Coins" jT2 9 jY2 0 := ⟨jc_2, by decide, rfl⟩
theorem f_2_5 : jfok 2 5 "CoinNode$Coins" jT2 9 jY2 1 := ⟨jc_2, by decide, rfl⟩
theorem f_2_6 : jfok 2 6 "CoinNode$Coins" jT2 9 jY2 2 := ⟨jc_2, by decide, rfl⟩
theorem f_2_7 : jfok 2 7 "CoinNode$Coins" jT2 9 jY2 2 := ⟨jc_2, by decide, rfl⟩
theorem f_2_8 : jfok 2 8 "CoinNode$Coins" jT2 9 jY2 1 := ⟨jc_2, by decide, rfl⟩
theorem ju_3 : ∀ k, k < 6 → u_lay "CoinNode$Hash" jT3 k ∈ jws := fun k hk => match k, hk with
  | 0, _ => jw_45
  | 1, _ => jw_47
  | 2, _ => jw_49
  | 3, _ => jw_51
  | 4, _ => jw_53
  | 5, _ => jw_55
  | n + 6, h => absurd h (by omega)
theorem jc_3 : jcok 3 "CoinNode$Hash" jT3 6 jY3 := ⟨rfl, fun w hw => by obtain ⟨k, hk, rfl⟩ := List.mem_map.mp hw; exact ju_3 k (List.mem_range.mp hk), jY3_ok, jN3_ok, by decide +kernel, by decide +kernel⟩
theorem f_3_0 : jfok 3 0 "CoinNode$Hash" jT3 6 jY3 2 := ⟨jc_3, by decide, rfl⟩
theorem f_3_1 : jfok 3 1 "CoinNode$Hash" jT3 6 jY3 0 := ⟨jc_3, by decide, rfl⟩
theorem f_3_2 : jfok 3 2 "CoinNode$Hash" jT3 6 jY3 2 := ⟨jc_3, by decide, rfl⟩
theorem f_3_3 : jfok 3 3 "CoinNode$Hash" jT3 6 jY3 2 := ⟨jc_3, by decide, rfl⟩
theorem f_3_4 : jfok 3 4 "CoinNode$Hash" jT3 6 jY3 2 := ⟨jc_3, by decide, rfl⟩
theorem f_3_5 : jfok 3 5 "CoinNode$Hash" jT3 6 jY3 2 := ⟨jc_3, by decide, rfl⟩
theorem ju_4 : ∀ k, k < 20 → u_lay "CoinNode$Machine" jT4 k ∈ jws := fun k hk => match k, hk with
  | 0, _ => jw_202
  | 1, _ => jw_204
  | 2, _ => jw_206
  | 3, _ => jw_208
  | 4, _ => jw_210
  | 5, _ => jw_212
  | 6, _ => jw_214
  | 7, _ => jw_216
  | 8, _ => jw_218
  | 9, _ => jw_220
  | 10, _ => jw_222
  | 11, _ => jw_224
  | 12, _ => jw_226
  | 13, _ => jw_228
  | 14, _ => jw_230
  | 15, _ => jw_232
  | 16, _ => jw_234
  | 17, _ => jw_236
  | 18, _ => jw_238
  | 19, _ => jw_240
  | n + 20, h => absurd h (by omega)
theorem jc_4 : jcok 4 "CoinNode$Machine" jT4 20 jY4 := ⟨rfl, fun w hw => by obtain ⟨k, hk, rfl⟩ := List.mem_map.mp hw; exact ju_4 k (List.mem_range.mp hk), jY4_ok, jN4_ok, by decide +kernel, by decide +kernel⟩
theorem f_4_0 : jfok 4 0 "CoinNode$Machine" jT4 20 jY4 2 := ⟨jc_4, by decide, rfl⟩
theorem f_4_1 : jfok 4 1 "CoinNode$Machine" jT4 20 jY4 2 := ⟨jc_4, by decide, rfl⟩
theorem f_4_2 : jfok 4 2 "CoinNode$Machine" jT4 20 jY4 2 := ⟨jc_4, by decide, rfl⟩
theorem f_4_3 : jfok 4 3 "CoinNode$Machine" jT4 20 jY4 2 := ⟨jc_4, by decide, rfl⟩
theorem f_4_4 : jfok 4 4 "CoinNode$Machine" jT4 20 jY4 2 := ⟨jc_4, by decide, rfl⟩
theorem f_4_5 : jfok 4 5 "CoinNode$Machine" jT4 20 jY4 2 := ⟨jc_4, by decide, rfl⟩
theorem f_4_6 : jfok 4 6 "CoinNode$Machine" jT4 20 jY4 0 := ⟨jc_4, by decide, rfl⟩
theorem f_4_7 : jfok 4 7 "CoinNode$Machine" jT4 20 jY4 0 := ⟨jc_4, by decide, rfl⟩
theorem f_4_8 : jfok 4 8 "CoinNode$Machine" jT4 20 jY4 0 := ⟨jc_4, by decide, rfl⟩
theorem f_4_9 : jfok 4 9 "CoinNode$Machine" jT4 20 jY4 0 := ⟨jc_4, by decide, rfl⟩
theorem f_4_10 : jfok 4 10 "CoinNode$Machine" jT4 20 jY4 0 := ⟨jc_4, by decide, rfl⟩
theorem f_4_11 : jfok 4 11 "CoinNode$Machine" jT4 20 jY4 2 := ⟨jc_4, by decide, rfl⟩
theorem f_4_12 : jfok 4 12 "CoinNode$Machine" jT4 20 jY4 0 := ⟨jc_4, by decide, rfl⟩
theorem f_4_13 : jfok 4 13 "CoinNode$Machine" jT4 20 jY4 0 := ⟨jc_4, by decide, rfl⟩
theorem f_4_14 : jfok 4 14 "CoinNode$Machine" jT4 20 jY4 0 := ⟨jc_4, by decide, rfl⟩
theorem f_4_15 : jfok 4 15 "CoinNode$Machine" jT4 20 jY4 0 := ⟨jc_4, by decide, rfl⟩
theorem f_4_16 : jfok 4 16 "CoinNode$Machine" jT4 20 jY4 0 := ⟨jc_4, by decide, rfl⟩
theorem f_4_17 : jfok 4 17 "CoinNode$Machine" jT4 20 jY4 0 := ⟨jc_4, by decide, rfl⟩
theorem f_4_18 : jfok 4 18 "CoinNode$Machine" jT4 20 jY4 0 := ⟨jc_4, by decide, rfl⟩
theorem f_4_19 : jfok 4 19 "CoinNode$Machine" jT4 20 jY4 0 := ⟨jc_4, by decide, rfl⟩
theorem ju_5 : ∀ k, k < 4 → u_lay "CoinNode$Point" jT5 k ∈ jws := fun k hk => match k, hk with
  | 0, _ => jw_91
  | 1, _ => jw_93
  | 2, _ => jw_95
  | 3, _ => jw_97
  | n + 4, h => absurd h (by omega)
theorem jc_5 : jcok 5 "CoinNode$Point" jT5 4 jY5 := ⟨rfl, fun w hw => by obtain ⟨k, hk, rfl⟩ := List.mem_map.mp hw; exact ju_5 k (List.mem_range.mp hk), jY5_ok, jN5_ok, by decide +kernel, by decide +kernel⟩
theorem f_5_0 : jfok 5 0 "CoinNode$Point" jT5 4 jY5 2 := ⟨jc_5, by decide, rfl⟩
theorem f_5_1 : jfok 5 1 "CoinNode$Point" jT5 4 jY5 2 := ⟨jc_5, by decide, rfl⟩
theorem f_5_2 : jfok 5 2 "CoinNode$Point" jT5 4 jY5 2 := ⟨jc_5, by decide, rfl⟩
theorem f_5_3 : jfok 5 3 "CoinNode$Point" jT5 4 jY5 0 := ⟨jc_5, by decide, rfl⟩
theorem ju_6 : ∀ k, k < 10 → u_lay "CoinNode$Pool" jT6 k ∈ jws := fun k hk => match k, hk with
  | 0, _ => jw_460
  | 1, _ => jw_462
  | 2, _ => jw_464
  | 3, _ => jw_466
  | 4, _ => jw_468
  | 5, _ => jw_470
  | 6, _ => jw_472
  | 7, _ => jw_474
  | 8, _ => jw_476
  | 9, _ => jw_478
  | n + 10, h => absurd h (by omega)
theorem jc_6 : jcok 6 "CoinNode$Pool" jT6 10 jY6 := ⟨rfl, fun w hw => by obtain ⟨k, hk, rfl⟩ := List.mem_map.mp hw; exact ju_6 k (List.mem_range.mp hk), jY6_ok, jN6_ok, by decide +kernel, by decide +kernel⟩
theorem f_6_0 : jfok 6 0 "CoinNode$Pool" jT6 10 jY6 2 := ⟨jc_6, by decide, rfl⟩
theorem f_6_1 : jfok 6 1 "CoinNode$Pool" jT6 10 jY6 2 := ⟨jc_6, by decide, rfl⟩
theorem f_6_2 : jfok 6 2 "CoinNode$Pool" jT6 10 jY6 2 := ⟨jc_6, by decide, rfl⟩
theorem f_6_3 : jfok 6 3 "CoinNode$Pool" jT6 10 jY6 2 := ⟨jc_6, by decide, rfl⟩
theorem f_6_4 : jfok 6 4 "CoinNode$Pool" jT6 10 jY6 0 := ⟨jc_6, by decide, rfl⟩
theorem f_6_5 : jfok 6 5 "CoinNode$Pool" jT6 10 jY6 2 := ⟨jc_6, by decide, rfl⟩
theorem f_6_6 : jfok 6 6 "CoinNode$Pool" jT6 10 jY6 2 := ⟨jc_6, by decide, rfl⟩
theorem f_6_7 : jfok 6 7 "CoinNode$Pool" jT6 10 jY6 2 := ⟨jc_6, by decide, rfl⟩
theorem f_6_8 : jfok 6 8 "CoinNode$Pool" jT6 10 jY6 2 := ⟨jc_6, by decide, rfl⟩
theorem f_6_9 : jfok 6 9 "CoinNode$Pool" jT6 10 jY6 1 := ⟨jc_6, by decide, rfl⟩
theorem ju_7 : ∀ k, k < 8 → u_lay "CoinNode$Scripts" jT7 k ∈ jws := fun k hk => match k, hk with
  | 0, _ => jw_252
  | 1, _ => jw_254
  | 2, _ => jw_256
  | 3, _ => jw_258
  | 4, _ => jw_260
  | 5, _ => jw_262
  | 6, _ => jw_264
  | 7, _ => jw_266
  | n + 8, h => absurd h (by omega)
theorem jc_7 : jcok 7 "CoinNode$Scripts" jT7 8 jY7 := ⟨rfl, fun w hw => by obtain ⟨k, hk, rfl⟩ := List.mem_map.mp hw; exact ju_7 k (List.mem_range.mp hk), jY7_ok, jN7_ok, by decide +kernel, by decide +kernel⟩
theorem f_7_0 : jfok 7 0 "CoinNode$Scripts" jT7 8 jY7 2 := ⟨jc_7, by decide, rfl⟩
theorem f_7_1 : jfok 7 1 "CoinNode$Scripts" jT7 8 jY7 2 := ⟨jc_7, by decide, rfl⟩
theorem f_7_2 : jfok 7 2 "CoinNode$Scripts" jT7 8 jY7 2 := ⟨jc_7, by decide, rfl⟩
theorem f_7_3 : jfok 7 3 "CoinNode$Scripts" jT7 8 jY7 2 := ⟨jc_7, by decide, rfl⟩
theorem f_7_4 : jfok 7 4 "CoinNode$Scripts" jT7 8 jY7 0 := ⟨jc_7, by decide, rfl⟩
theorem f_7_5 : jfok 7 5 "CoinNode$Scripts" jT7 8 jY7 2 := ⟨jc_7, by decide, rfl⟩
theorem f_7_6 : jfok 7 6 "CoinNode$Scripts" jT7 8 jY7 0 := ⟨jc_7, by decide, rfl⟩
theorem f_7_7 : jfok 7 7 "CoinNode$Scripts" jT7 8 jY7 0 := ⟨jc_7, by decide, rfl⟩
theorem ju_8 : ∀ k, k < 17 → u_lay "CoinNode$Signature" jT8 k ∈ jws := fun k hk => match k, hk with
  | 0, _ => jw_119
  | 1, _ => jw_121
  | 2, _ => jw_123
  | 3, _ => jw_125
  | 4, _ => jw_127
  | 5, _ => jw_129
  | 6, _ => jw_131
  | 7, _ => jw_133
  | 8, _ => jw_135
  | 9, _ => jw_137
  | 10, _ => jw_139
  | 11, _ => jw_141
  | 12, _ => jw_143
  | 13, _ => jw_145
  | 14, _ => jw_147
  | 15, _ => jw_149
  | 16, _ => jw_151
  | n + 17, h => absurd h (by omega)
theorem jc_8 : jcok 8 "CoinNode$Signature" jT8 17 jY8 := ⟨rfl, fun w hw => by obtain ⟨k, hk, rfl⟩ := List.mem_map.mp hw; exact ju_8 k (List.mem_range.mp hk), jY8_ok, jN8_ok, by decide +kernel, by decide +kernel⟩
theorem f_8_0 : jfok 8 0 "CoinNode$Signature" jT8 17 jY8 0 := ⟨jc_8, by decide, rfl⟩
theorem f_8_1 : jfok 8 1 "CoinNode$Signature" jT8 17 jY8 2 := ⟨jc_8, by decide, rfl⟩
theorem f_8_2 : jfok 8 2 "CoinNode$Signature" jT8 17 jY8 2 := ⟨jc_8, by decide, rfl⟩
theorem f_8_3 : jfok 8 3 "CoinNode$Signature" jT8 17 jY8 2 := ⟨jc_8, by decide, rfl⟩
theorem f_8_4 : jfok 8 4 "CoinNode$Signature" jT8 17 jY8 2 := ⟨jc_8, by decide, rfl⟩
theorem f_8_5 : jfok 8 5 "CoinNode$Signature" jT8 17 jY8 2 := ⟨jc_8, by decide, rfl⟩
theorem f_8_6 : jfok 8 6 "CoinNode$Signature" jT8 17 jY8 2 := ⟨jc_8, by decide, rfl⟩
theorem f_8_7 : jfok 8 7 "CoinNode$Signature" jT8 17 jY8 2 := ⟨jc_8, by decide, rfl⟩
theorem f_8_8 : jfok 8 8 "CoinNode$Signature" jT8 17 jY8 2 := ⟨jc_8, by decide, rfl⟩
theorem f_8_9 : jfok 8 9 "CoinNode$Signature" jT8 17 jY8 2 := ⟨jc_8, by decide, rfl⟩
theorem f_8_10 : jfok 8 10 "CoinNode$Signature" jT8 17 jY8 2 := ⟨jc_8, by decide, rfl⟩
theorem f_8_11 : jfok 8 11 "CoinNode$Signature" jT8 17 jY8 2 := ⟨jc_8, by decide, rfl⟩
theorem f_8_12 : jfok 8 12 "CoinNode$Signature" jT8 17 jY8 2 := ⟨jc_8, by decide, rfl⟩
theorem f_8_13 : jfok 8 13 "CoinNode$Signature" jT8 17 jY8 2 := ⟨jc_8, by decide, rfl⟩
theorem f_8_14 : jfok 8 14 "CoinNode$Signature" jT8 17 jY8 2 := ⟨jc_8, by decide, rfl⟩
theorem f_8_15 : jfok 8 15 "CoinNode$Signature" jT8 17 jY8 2 := ⟨jc_8, by decide, rfl⟩
theorem f_8_16 : jfok 8 16 "CoinNode$Signature" jT8 17 jY8 0 := ⟨jc_8, by decide, rfl⟩
theorem ju_9 : ∀ k, k < 3 → u_lay "CoinNode$Stack" jT9 k ∈ jws := fun k hk => match k, hk with
  | 0, _ => jw_173
  | 1, _ => jw_175
  | 2, _ => jw_177
  | n + 3, h => absurd h (by omega)
theorem jc_9 : jcok 9 "CoinNode$Stack" jT9 3 jY9 := ⟨rfl, fun w hw => by obtain ⟨k, hk, rfl⟩ := List.mem_map.mp hw; exact ju_9 k (List.mem_range.mp hk), jY9_ok, jN9_ok, by decide +kernel, by decide +kernel⟩
theorem f_9_0 : jfok 9 0 "CoinNode$Stack" jT9 3 jY9 2 := ⟨jc_9, by decide, rfl⟩
theorem f_9_1 : jfok 9 1 "CoinNode$Stack" jT9 3 jY9 2 := ⟨jc_9, by decide, rfl⟩
theorem f_9_2 : jfok 9 2 "CoinNode$Stack" jT9 3 jY9 0 := ⟨jc_9, by decide, rfl⟩
theorem ju_10 : ∀ k, k < 8 → u_lay "CoinNode$Tx" jT10 k ∈ jws := fun k hk => match k, hk with
  | 0, _ => jw_598
  | 1, _ => jw_600
  | 2, _ => jw_602
  | 3, _ => jw_604
  | 4, _ => jw_606
  | 5, _ => jw_608
  | 6, _ => jw_610
  | 7, _ => jw_612
  | n + 8, h => absurd h (by omega)
theorem jc_10 : jcok 10 "CoinNode$Tx" jT10 8 jY10 := ⟨rfl, fun w hw => by obtain ⟨k, hk, rfl⟩ := List.mem_map.mp hw; exact ju_10 k (List.mem_range.mp hk), jY10_ok, jN10_ok, by decide +kernel, by decide +kernel⟩
theorem f_10_0 : jfok 10 0 "CoinNode$Tx" jT10 8 jY10 2 := ⟨jc_10, by decide, rfl⟩
theorem f_10_1 : jfok 10 1 "CoinNode$Tx" jT10 8 jY10 0 := ⟨jc_10, by decide, rfl⟩
theorem f_10_2 : jfok 10 2 "CoinNode$Tx" jT10 8 jY10 0 := ⟨jc_10, by decide, rfl⟩
theorem f_10_3 : jfok 10 3 "CoinNode$Tx" jT10 8 jY10 2 := ⟨jc_10, by decide, rfl⟩
theorem f_10_4 : jfok 10 4 "CoinNode$Tx" jT10 8 jY10 2 := ⟨jc_10, by decide, rfl⟩
theorem f_10_5 : jfok 10 5 "CoinNode$Tx" jT10 8 jY10 2 := ⟨jc_10, by decide, rfl⟩
theorem f_10_6 : jfok 10 6 "CoinNode$Tx" jT10 8 jY10 1 := ⟨jc_10, by decide, rfl⟩
theorem f_10_7 : jfok 10 7 "CoinNode$Tx" jT10 8 jY10 0 := ⟨jc_10, by decide, rfl⟩
theorem ju_11 : ∀ k, k < 14 → u_lay "CoinNode" jT11 k ∈ jws := fun k hk => match k, hk with
  | 0, _ => jw_495
  | 1, _ => jw_497
  | 2, _ => jw_499
  | 3, _ => jw_501
  | 4, _ => jw_503
  | 5, _ => jw_505
  | 6, _ => jw_507
  | 7, _ => jw_509
  | 8, _ => jw_511
  | 9, _ => jw_513
  | 10, _ => jw_515
  | 11, _ => jw_517
  | 12, _ => jw_519
  | 13, _ => jw_521
  | n + 14, h => absurd h (by omega)
theorem jc_11 : jcok 11 "CoinNode" jT11 14 jY11 := ⟨rfl, fun w hw => by obtain ⟨k, hk, rfl⟩ := List.mem_map.mp hw; exact ju_11 k (List.mem_range.mp hk), jY11_ok, jN11_ok, by decide +kernel, by decide +kernel⟩
theorem f_11_0 : jfok 11 0 "CoinNode" jT11 14 jY11 2 := ⟨jc_11, by decide, rfl⟩
theorem f_11_1 : jfok 11 1 "CoinNode" jT11 14 jY11 0 := ⟨jc_11, by decide, rfl⟩
theorem f_11_2 : jfok 11 2 "CoinNode" jT11 14 jY11 2 := ⟨jc_11, by decide, rfl⟩
theorem f_11_3 : jfok 11 3 "CoinNode" jT11 14 jY11 0 := ⟨jc_11, by decide, rfl⟩
theorem f_11_4 : jfok 11 4 "CoinNode" jT11 14 jY11 2 := ⟨jc_11, by decide, rfl⟩
theorem f_11_5 : jfok 11 5 "CoinNode" jT11 14 jY11 2 := ⟨jc_11, by decide, rfl⟩
theorem f_11_6 : jfok 11 6 "CoinNode" jT11 14 jY11 2 := ⟨jc_11, by decide, rfl⟩
theorem f_11_7 : jfok 11 7 "CoinNode" jT11 14 jY11 2 := ⟨jc_11, by decide, rfl⟩
theorem f_11_8 : jfok 11 8 "CoinNode" jT11 14 jY11 0 := ⟨jc_11, by decide, rfl⟩
theorem f_11_9 : jfok 11 9 "CoinNode" jT11 14 jY11 2 := ⟨jc_11, by decide, rfl⟩
theorem f_11_10 : jfok 11 10 "CoinNode" jT11 14 jY11 2 := ⟨jc_11, by decide, rfl⟩
theorem f_11_11 : jfok 11 11 "CoinNode" jT11 14 jY11 2 := ⟨jc_11, by decide, rfl⟩
theorem f_11_12 : jfok 11 12 "CoinNode" jT11 14 jY11 2 := ⟨jc_11, by decide, rfl⟩
theorem f_11_13 : jfok 11 13 "CoinNode" jT11 14 jY11 2 := ⟨jc_11, by decide, rfl⟩
theorem ju_12 : ∀ k, k < 4 → u_lay "CoinNodeModel$Hashes" jT12 k ∈ jws := fun k hk => match k, hk with
  | 0, _ => jw_1279
  | 1, _ => jw_1281
  | 2, _ => jw_1283
  | 3, _ => jw_1285
  | n + 4, h => absurd h (by omega)
theorem jc_12 : jcok 12 "CoinNodeModel$Hashes" jT12 4 jY12 := ⟨rfl, fun w hw => by obtain ⟨k, hk, rfl⟩ := List.mem_map.mp hw; exact ju_12 k (List.mem_range.mp hk), jY12_ok, jN12_ok, by decide +kernel, by decide +kernel⟩
theorem f_12_0 : jfok 12 0 "CoinNodeModel$Hashes" jT12 4 jY12 2 := ⟨jc_12, by decide, rfl⟩
theorem f_12_1 : jfok 12 1 "CoinNodeModel$Hashes" jT12 4 jY12 2 := ⟨jc_12, by decide, rfl⟩
theorem f_12_2 : jfok 12 2 "CoinNodeModel$Hashes" jT12 4 jY12 2 := ⟨jc_12, by decide, rfl⟩
theorem f_12_3 : jfok 12 3 "CoinNodeModel$Hashes" jT12 4 jY12 2 := ⟨jc_12, by decide, rfl⟩
theorem ju_13 : ∀ k, k < 7 → u_lay "CoinNodeModel$Points" jT13 k ∈ jws := fun k hk => match k, hk with
  | 0, _ => jw_1333
  | 1, _ => jw_1335
  | 2, _ => jw_1337
  | 3, _ => jw_1339
  | 4, _ => jw_1341
  | 5, _ => jw_1343
  | 6, _ => jw_1345
  | n + 7, h => absurd h (by omega)
theorem jc_13 : jcok 13 "CoinNodeModel$Points" jT13 7 jY13 := ⟨rfl, fun w hw => by obtain ⟨k, hk, rfl⟩ := List.mem_map.mp hw; exact ju_13 k (List.mem_range.mp hk), jY13_ok, jN13_ok, by decide +kernel, by decide +kernel⟩
theorem f_13_0 : jfok 13 0 "CoinNodeModel$Points" jT13 7 jY13 2 := ⟨jc_13, by decide, rfl⟩
theorem f_13_1 : jfok 13 1 "CoinNodeModel$Points" jT13 7 jY13 2 := ⟨jc_13, by decide, rfl⟩
theorem f_13_2 : jfok 13 2 "CoinNodeModel$Points" jT13 7 jY13 2 := ⟨jc_13, by decide, rfl⟩
theorem f_13_3 : jfok 13 3 "CoinNodeModel$Points" jT13 7 jY13 2 := ⟨jc_13, by decide, rfl⟩
theorem f_13_4 : jfok 13 4 "CoinNodeModel$Points" jT13 7 jY13 2 := ⟨jc_13, by decide, rfl⟩
theorem f_13_5 : jfok 13 5 "CoinNodeModel$Points" jT13 7 jY13 2 := ⟨jc_13, by decide, rfl⟩
theorem f_13_6 : jfok 13 6 "CoinNodeModel$Points" jT13 7 jY13 0 := ⟨jc_13, by decide, rfl⟩
theorem ju_14 : ∀ k, k < 17 → u_lay "CoinNodeModel$Scripts" jT14 k ∈ jws := fun k hk => match k, hk with
  | 0, _ => jw_1408
  | 1, _ => jw_1410
  | 2, _ => jw_1412
  | 3, _ => jw_1414
  | 4, _ => jw_1416
  | 5, _ => jw_1418
  | 6, _ => jw_1420
  | 7, _ => jw_1422
  | 8, _ => jw_1424
  | 9, _ => jw_1426
  | 10, _ => jw_1428
  | 11, _ => jw_1430
  | 12, _ => jw_1432
  | 13, _ => jw_1434
  | 14, _ => jw_1436
  | 15, _ => jw_1438
  | 16, _ => jw_1440
  | n + 17, h => absurd h (by omega)
theorem jc_14 : jcok 14 "CoinNodeModel$Scripts" jT14 17 jY14 := ⟨rfl, fun w hw => by obtain ⟨k, hk, rfl⟩ := List.mem_map.mp hw; exact ju_14 k (List.mem_range.mp hk), jY14_ok, jN14_ok, by decide +kernel, by decide +kernel⟩
theorem f_14_0 : jfok 14 0 "CoinNodeModel$Scripts" jT14 17 jY14 2 := ⟨jc_14, by decide, rfl⟩
theorem f_14_1 : jfok 14 1 "CoinNodeModel$Scripts" jT14 17 jY14 2 := ⟨jc_14, by decide, rfl⟩
theorem f_14_2 : jfok 14 2 "CoinNodeModel$Scripts" jT14 17 jY14 0 := ⟨jc_14, by decide, rfl⟩
theorem f_14_3 : jfok 14 3 "CoinNodeModel$Scripts" jT14 17 jY14 0 := ⟨jc_14, by decide, rfl⟩
theorem f_14_4 : jfok 14 4 "CoinNodeModel$Scripts" jT14 17 jY14 2 := ⟨jc_14, by decide, rfl⟩
theorem f_14_5 : jfok 14 5 "CoinNodeModel$Scripts" jT14 17 jY14 0 := ⟨jc_14, by decide, rfl⟩
theorem f_14_6 : jfok 14 6 "CoinNodeModel$Scripts" jT14 17 jY14 0 := ⟨jc_14, by decide, rfl⟩
theorem f_14_7 : jfok 14 7 "CoinNodeModel$Scripts" jT14 17 jY14 0 := ⟨jc_14, by decide, rfl⟩
theorem f_14_8 : jfok 14 8 "CoinNodeModel$Scripts" jT14 17 jY14 0 := ⟨jc_14, by decide, rfl⟩
theorem f_14_9 : jfok 14 9 "CoinNodeModel$Scripts" jT14 17 jY14 0 := ⟨jc_14, by decide, rfl⟩
theorem f_14_10 : jfok 14 10 "CoinNodeModel$Scripts" jT14 17 jY14 2 := ⟨jc_14, by decide, rfl⟩
theorem f_14_11 : jfok 14 11 "CoinNodeModel$Scripts" jT14 17 jY14 1 := ⟨jc_14, by decide, rfl⟩
theorem f_14_12 : jfok 14 12 "CoinNodeModel$Scripts" jT14 17 jY14 2 := ⟨jc_14, by decide, rfl⟩
theorem f_14_13 : jfok 14 13 "CoinNodeModel$Scripts" jT14 17 jY14 2 := ⟨jc_14, by decide, rfl⟩
theorem f_14_14 : jfok 14 14 "CoinNodeModel$Scripts" jT14 17 jY14 2 := ⟨jc_14, by decide, rfl⟩
theorem f_14_15 : jfok 14 15 "CoinNodeModel$Scripts" jT14 17 jY14 2 := ⟨jc_14, by decide, rfl⟩
theorem f_14_16 : jfok 14 16 "CoinNodeModel$Scripts" jT14 17 jY14 2 := ⟨jc_14, by decide, rfl⟩
theorem ju_15 : ∀ k, k < 10 → u_lay "CoinNodeModel$Signing" jT15 k ∈ jws := fun k hk => match k, hk with
  | 0, _ => jw_1363
  | 1, _ => jw_1365
  | 2, _ => jw_1367
  | 3, _ => jw_1369
  | 4, _ => jw_1371
  | 5, _ => jw_1373
  | 6, _ => jw_1375
  | 7, _ => jw_1377
  | 8, _ => jw_1379
  | 9, _ => jw_1381
  | n + 10, h => absurd h (by omega)
theorem jc_15 : jcok 15 "CoinNodeModel$Signing" jT15 10 jY15 := ⟨rfl, fun w hw => by obtain ⟨k, hk, rfl⟩ := List.mem_map.mp hw; exact ju_15 k (List.mem_range.mp hk), jY15_ok, jN15_ok, by decide +kernel, by decide +kernel⟩
theorem f_15_0 : jfok 15 0 "CoinNodeModel$Signing" jT15 10 jY15 2 := ⟨jc_15, by decide, rfl⟩
theorem f_15_1 : jfok 15 1 "CoinNodeModel$Signing" jT15 10 jY15 2 := ⟨jc_15, by decide, rfl⟩
theorem f_15_2 : jfok 15 2 "CoinNodeModel$Signing" jT15 10 jY15 2 := ⟨jc_15, by decide, rfl⟩
theorem f_15_3 : jfok 15 3 "CoinNodeModel$Signing" jT15 10 jY15 0 := ⟨jc_15, by decide, rfl⟩
theorem f_15_4 : jfok 15 4 "CoinNodeModel$Signing" jT15 10 jY15 2 := ⟨jc_15, by decide, rfl⟩
theorem f_15_5 : jfok 15 5 "CoinNodeModel$Signing" jT15 10 jY15 0 := ⟨jc_15, by decide, rfl⟩
theorem f_15_6 : jfok 15 6 "CoinNodeModel$Signing" jT15 10 jY15 0 := ⟨jc_15, by decide, rfl⟩
theorem f_15_7 : jfok 15 7 "CoinNodeModel$Signing" jT15 10 jY15 2 := ⟨jc_15, by decide, rfl⟩
theorem f_15_8 : jfok 15 8 "CoinNodeModel$Signing" jT15 10 jY15 0 := ⟨jc_15, by decide, rfl⟩
theorem f_15_9 : jfok 15 9 "CoinNodeModel$Signing" jT15 10 jY15 2 := ⟨jc_15, by decide, rfl⟩
theorem ju_16 : ∀ k, k < 12 → u_lay "CoinNodeModel$Tree" jT16 k ∈ jws := fun k hk => match k, hk with
  | 0, _ => jw_1483
  | 1, _ => jw_1485
  | 2, _ => jw_1487
  | 3, _ => jw_1489
  | 4, _ => jw_1491
  | 5, _ => jw_1493
  | 6, _ => jw_1495
  | 7, _ => jw_1497
  | 8, _ => jw_1499
  | 9, _ => jw_1501
  | 10, _ => jw_1503
  | 11, _ => jw_1505
  | n + 12, h => absurd h (by omega)
theorem jc_16 : jcok 16 "CoinNodeModel$Tree" jT16 12 jY16 := ⟨rfl, fun w hw => by obtain ⟨k, hk, rfl⟩ := List.mem_map.mp hw; exact ju_16 k (List.mem_range.mp hk), jY16_ok, jN16_ok, by decide +kernel, by decide +kernel⟩
theorem f_16_0 : jfok 16 0 "CoinNodeModel$Tree" jT16 12 jY16 0 := ⟨jc_16, by decide, rfl⟩
theorem f_16_1 : jfok 16 1 "CoinNodeModel$Tree" jT16 12 jY16 0 := ⟨jc_16, by decide, rfl⟩
theorem f_16_2 : jfok 16 2 "CoinNodeModel$Tree" jT16 12 jY16 2 := ⟨jc_16, by decide, rfl⟩
theorem f_16_3 : jfok 16 3 "CoinNodeModel$Tree" jT16 12 jY16 2 := ⟨jc_16, by decide, rfl⟩
theorem f_16_4 : jfok 16 4 "CoinNodeModel$Tree" jT16 12 jY16 2 := ⟨jc_16, by decide, rfl⟩
theorem f_16_5 : jfok 16 5 "CoinNodeModel$Tree" jT16 12 jY16 2 := ⟨jc_16, by decide, rfl⟩
theorem f_16_6 : jfok 16 6 "CoinNodeModel$Tree" jT16 12 jY16 2 := ⟨jc_16, by decide, rfl⟩
theorem f_16_7 : jfok 16 7 "CoinNodeModel$Tree" jT16 12 jY16 2 := ⟨jc_16, by decide, rfl⟩
theorem f_16_8 : jfok 16 8 "CoinNodeModel$Tree" jT16 12 jY16 2 := ⟨jc_16, by decide, rfl⟩
theorem f_16_9 : jfok 16 9 "CoinNodeModel$Tree" jT16 12 jY16 2 := ⟨jc_16, by decide, rfl⟩
theorem f_16_10 : jfok 16 10 "CoinNodeModel$Tree" jT16 12 jY16 2 := ⟨jc_16, by decide, rfl⟩
theorem f_16_11 : jfok 16 11 "CoinNodeModel$Tree" jT16 12 jY16 2 := ⟨jc_16, by decide, rfl⟩
theorem ju_17 : ∀ k, k < 15 → u_lay "CoinNodeModel$Tx" jT17 k ∈ jws := fun k hk => match k, hk with
  | 0, _ => jw_1550
  | 1, _ => jw_1552
  | 2, _ => jw_1554
  | 3, _ => jw_1556
  | 4, _ => jw_1558
  | 5, _ => jw_1560
  | 6, _ => jw_1562
  | 7, _ => jw_1564
  | 8, _ => jw_1566
  | 9, _ => jw_1568
  | 10, _ => jw_1570
  | 11, _ => jw_1572
  | 12, _ => jw_1574
  | 13, _ => jw_1576
  | 14, _ => jw_1578
  | n + 15, h => absurd h (by omega)
theorem jc_17 : jcok 17 "CoinNodeModel$Tx" jT17 15 jY17 := ⟨rfl, fun w hw => by obtain ⟨k, hk, rfl⟩ := List.mem_map.mp hw; exact ju_17 k (List.mem_range.mp hk), jY17_ok, jN17_ok, by decide +kernel, by decide +kernel⟩
theorem f_17_0 : jfok 17 0 "CoinNodeModel$Tx" jT17 15 jY17 2 := ⟨jc_17, by decide, rfl⟩
theorem f_17_1 : jfok 17 1 "CoinNodeModel$Tx" jT17 15 jY17 0 := ⟨jc_17, by decide, rfl⟩
theorem f_17_2 : jfok 17 2 "CoinNodeModel$Tx" jT17 15 jY17 0 := ⟨jc_17, by decide, rfl⟩
theorem f_17_3 : jfok 17 3 "CoinNodeModel$Tx" jT17 15 jY17 0 := ⟨jc_17, by decide, rfl⟩
theorem f_17_4 : jfok 17 4 "CoinNodeModel$Tx" jT17 15 jY17 0 := ⟨jc_17, by decide, rfl⟩
theorem f_17_5 : jfok 17 5 "CoinNodeModel$Tx" jT17 15 jY17 0 := ⟨jc_17, by decide, rfl⟩
theorem f_17_6 : jfok 17 6 "CoinNodeModel$Tx" jT17 15 jY17 0 := ⟨jc_17, by decide, rfl⟩
theorem f_17_7 : jfok 17 7 "CoinNodeModel$Tx" jT17 15 jY17 2 := ⟨jc_17, by decide, rfl⟩
theorem f_17_8 : jfok 17 8 "CoinNodeModel$Tx" jT17 15 jY17 2 := ⟨jc_17, by decide, rfl⟩
theorem f_17_9 : jfok 17 9 "CoinNodeModel$Tx" jT17 15 jY17 2 := ⟨jc_17, by decide, rfl⟩
theorem f_17_10 : jfok 17 10 "CoinNodeModel$Tx" jT17 15 jY17 2 := ⟨jc_17, by decide, rfl⟩
theorem f_17_11 : jfok 17 11 "CoinNodeModel$Tx" jT17 15 jY17 2 := ⟨jc_17, by decide, rfl⟩
theorem f_17_12 : jfok 17 12 "CoinNodeModel$Tx" jT17 15 jY17 2 := ⟨jc_17, by decide, rfl⟩
theorem f_17_13 : jfok 17 13 "CoinNodeModel$Tx" jT17 15 jY17 2 := ⟨jc_17, by decide, rfl⟩
theorem f_17_14 : jfok 17 14 "CoinNodeModel$Tx" jT17 15 jY17 2 := ⟨jc_17, by decide, rfl⟩
theorem ju_18 : ∀ k, k < 61 → u_lay "CoinNodeModel" jT18 k ∈ jws := fun k hk => match k, hk with
  | 0, _ => jw_1671
  | 1, _ => jw_1673
  | 2, _ => jw_1675
  | 3, _ => jw_1677
  | 4, _ => jw_1679
  | 5, _ => jw_1681
  | 6, _ => jw_1683
  | 7, _ => jw_1685
  | 8, _ => jw_1687
  | 9, _ => jw_1689
  | 10, _ => jw_1691
  | 11, _ => jw_1693
  | 12, _ => jw_1695
  | 13, _ => jw_1697
  | 14, _ => jw_1699
  | 15, _ => jw_1701
  | 16, _ => jw_1703
  | 17, _ => jw_1705
  | 18, _ => jw_1707
  | 19, _ => jw_1709
  | 20, _ => jw_1711
  | 21, _ => jw_1713
  | 22, _ => jw_1715
  | 23, _ => jw_1717
  | 24, _ => jw_1719
  | 25, _ => jw_1721
  | 26, _ => jw_1723
  | 27, _ => jw_1725
  | 28, _ => jw_1727
  | 29, _ => jw_1729
  | 30, _ => jw_1731
  | 31, _ => jw_1733
  | 32, _ => jw_1735
  | 33, _ => jw_1737
  | 34, _ => jw_1739
  | 35, _ => jw_1741
  | 36, _ => jw_1743
  | 37, _ => jw_1745
  | 38, _ => jw_1747
  | 39, _ => jw_1749
  | 40, _ => jw_1751
  | 41, _ => jw_1753
  | 42, _ => jw_1755
  | 43, _ => jw_1757
  | 44, _ => jw_1759
  | 45, _ => jw_1761
  | 46, _ => jw_1763
  | 47, _ => jw_1765
  | 48, _ => jw_1767
  | 49, _ => jw_1769
  | 50, _ => jw_1771
  | 51, _ => jw_1773
  | 52, _ => jw_1775
  | 53, _ => jw_1777
  | 54, _ => jw_1779
  | 55, _ => jw_1781
  | 56, _ => jw_1783
  | 57, _ => jw_1785
  | 58, _ => jw_1787
  | 59, _ => jw_1789
  | 60, _ => jw_1791
  | n + 61, h => absurd h (by omega)
theorem jc_18 : jcok 18 "CoinNodeModel" jT18 61 jY18 := ⟨rfl, fun w hw => by obtain ⟨k, hk, rfl⟩ := List.mem_map.mp hw; exact ju_18 k (List.mem_range.mp hk), jY18_ok, jN18_ok, by decide +kernel, by decide +kernel⟩
theorem f_18_0 : jfok 18 0 "CoinNodeModel" jT18 61 jY18 2 := ⟨jc_18, by decide, rfl⟩
theorem f_18_1 : jfok 18 1 "CoinNodeModel" jT18 61 jY18 2 := ⟨jc_18, by decide, rfl⟩
theorem f_18_2 : jfok 18 2 "CoinNodeModel" jT18 61 jY18 2 := ⟨jc_18, by decide, rfl⟩
theorem f_18_3 : jfok 18 3 "CoinNodeModel" jT18 61 jY18 2 := ⟨jc_18, by decide, rfl⟩
theorem f_18_4 : jfok 18 4 "CoinNodeModel" jT18 61 jY18 2 := ⟨jc_18, by decide, rfl⟩
theorem f_18_5 : jfok 18 5 "CoinNodeModel" jT18 61 jY18 2 := ⟨jc_18, by decide, rfl⟩
theorem f_18_6 : jfok 18 6 "CoinNodeModel" jT18 61 jY18 2 := ⟨jc_18, by decide, rfl⟩
theorem f_18_7 : jfok 18 7 "CoinNodeModel" jT18 61 jY18 2 := ⟨jc_18, by decide, rfl⟩
theorem f_18_8 : jfok 18 8 "CoinNodeModel" jT18 61 jY18 2 := ⟨jc_18, by decide, rfl⟩
theorem f_18_9 : jfok 18 9 "CoinNodeModel" jT18 61 jY18 2 := ⟨jc_18, by decide, rfl⟩
theorem f_18_10 : jfok 18 10 "CoinNodeModel" jT18 61 jY18 2 := ⟨jc_18, by decide, rfl⟩
theorem f_18_11 : jfok 18 11 "CoinNodeModel" jT18 61 jY18 2 := ⟨jc_18, by decide, rfl⟩
theorem f_18_12 : jfok 18 12 "CoinNodeModel" jT18 61 jY18 2 := ⟨jc_18, by decide, rfl⟩
theorem f_18_13 : jfok 18 13 "CoinNodeModel" jT18 61 jY18 0 := ⟨jc_18, by decide, rfl⟩
theorem f_18_14 : jfok 18 14 "CoinNodeModel" jT18 61 jY18 0 := ⟨jc_18, by decide, rfl⟩
theorem f_18_15 : jfok 18 15 "CoinNodeModel" jT18 61 jY18 2 := ⟨jc_18, by decide, rfl⟩
theorem f_18_16 : jfok 18 16 "CoinNodeModel" jT18 61 jY18 0 := ⟨jc_18, by decide, rfl⟩
theorem f_18_17 : jfok 18 17 "CoinNodeModel" jT18 61 jY18 0 := ⟨jc_18, by decide, rfl⟩
theorem f_18_18 : jfok 18 18 "CoinNodeModel" jT18 61 jY18 0 := ⟨jc_18, by decide, rfl⟩
theorem f_18_19 : jfok 18 19 "CoinNodeModel" jT18 61 jY18 1 := ⟨jc_18, by decide, rfl⟩
theorem f_18_20 : jfok 18 20 "CoinNodeModel" jT18 61 jY18 2 := ⟨jc_18, by decide, rfl⟩
theorem f_18_21 : jfok 18 21 "CoinNodeModel" jT18 61 jY18 2 := ⟨jc_18, by decide, rfl⟩
theorem f_18_22 : jfok 18 22 "CoinNodeModel" jT18 61 jY18 2 := ⟨jc_18, by decide, rfl⟩
theorem f_18_23 : jfok 18 23 "CoinNodeModel" jT18 61 jY18 2 := ⟨jc_18, by decide, rfl⟩
theorem f_18_24 : jfok 18 24 "CoinNodeModel" jT18 61 jY18 2 := ⟨jc_18, by decide, rfl⟩
theorem f_18_25 : jfok 18 25 "CoinNodeModel" jT18 61 jY18 2 := ⟨jc_18, by decide, rfl⟩
theorem f_18_26 : jfok 18 26 "CoinNodeModel" jT18 61 jY18 2 := ⟨jc_18, by decide, rfl⟩
theorem f_18_27 : jfok 18 27 "CoinNodeModel" jT18 61 jY18 0 := ⟨jc_18, by decide, rfl⟩
theorem f_18_28 : jfok 18 28 "CoinNodeModel" jT18 61 jY18 0 := ⟨jc_18, by decide, rfl⟩
theorem f_18_29 : jfok 18 29 "CoinNodeModel" jT18 61 jY18 2 := ⟨jc_18, by decide, rfl⟩
theorem f_18_30 : jfok 18 30 "CoinNodeModel" jT18 61 jY18 2 := ⟨jc_18, by decide, rfl⟩
theorem f_18_31 : jfok 18 31 "CoinNodeModel" jT18 61 jY18 2 := ⟨jc_18, by decide, rfl⟩
theorem f_18_32 : jfok 18 32 "CoinNodeModel" jT18 61 jY18 2 := ⟨jc_18, by decide, rfl⟩
theorem f_18_33 : jfok 18 33 "CoinNodeModel" jT18 61 jY18 2 := ⟨jc_18, by decide, rfl⟩
theorem f_18_34 : jfok 18 34 "CoinNodeModel" jT18 61 jY18 2 := ⟨jc_18, by decide, rfl⟩
theorem f_18_35 : jfok 18 35 "CoinNodeModel" jT18 61 jY18 2 := ⟨jc_18, by decide, rfl⟩
theorem f_18_36 : jfok 18 36 "CoinNodeModel" jT18 61 jY18 0 := ⟨jc_18, by decide, rfl⟩
theorem f_18_37 : jfok 18 37 "CoinNodeModel" jT18 61 jY18 2 := ⟨jc_18, by decide, rfl⟩
theorem f_18_38 : jfok 18 38 "CoinNodeModel" jT18 61 jY18 2 := ⟨jc_18, by decide, rfl⟩
theorem f_18_39 : jfok 18 39 "CoinNodeModel" jT18 61 jY18 2 := ⟨jc_18, by decide, rfl⟩
theorem f_18_40 : jfok 18 40 "CoinNodeModel" jT18 61 jY18 2 := ⟨jc_18, by decide, rfl⟩
theorem f_18_41 : jfok 18 41 "CoinNodeModel" jT18 61 jY18 2 := ⟨jc_18, by decide, rfl⟩
theorem f_18_42 : jfok 18 42 "CoinNodeModel" jT18 61 jY18 2 := ⟨jc_18, by decide, rfl⟩
theorem f_18_43 : jfok 18 43 "CoinNodeModel" jT18 61 jY18 2 := ⟨jc_18, by decide, rfl⟩
theorem f_18_44 : jfok 18 44 "CoinNodeModel" jT18 61 jY18 2 := ⟨jc_18, by decide, rfl⟩
theorem f_18_45 : jfok 18 45 "CoinNodeModel" jT18 61 jY18 2 := ⟨jc_18, by decide, rfl⟩
theorem f_18_46 : jfok 18 46 "CoinNodeModel" jT18 61 jY18 2 := ⟨jc_18, by decide, rfl⟩
theorem f_18_47 : jfok 18 47 "CoinNodeModel" jT18 61 jY18 2 := ⟨jc_18, by decide, rfl⟩
theorem f_18_48 : jfok 18 48 "CoinNodeModel" jT18 61 jY18 0 := ⟨jc_18, by decide, rfl⟩
theorem f_18_49 : jfok 18 49 "CoinNodeModel" jT18 61 jY18 2 := ⟨jc_18, by decide, rfl⟩
theorem f_18_50 : jfok 18 50 "CoinNodeModel" jT18 61 jY18 2 := ⟨jc_18, by decide, rfl⟩
theorem f_18_51 : jfok 18 51 "CoinNodeModel" jT18 61 jY18 2 := ⟨jc_18, by decide, rfl⟩
theorem f_18_52 : jfok 18 52 "CoinNodeModel" jT18 61 jY18 0 := ⟨jc_18, by decide, rfl⟩
theorem f_18_53 : jfok 18 53 "CoinNodeModel" jT18 61 jY18 2 := ⟨jc_18, by decide, rfl⟩
theorem f_18_54 : jfok 18 54 "CoinNodeModel" jT18 61 jY18 2 := ⟨jc_18, by decide, rfl⟩
theorem f_18_55 : jfok 18 55 "CoinNodeModel" jT18 61 jY18 2 := ⟨jc_18, by decide, rfl⟩
theorem f_18_56 : jfok 18 56 "CoinNodeModel" jT18 61 jY18 0 := ⟨jc_18, by decide, rfl⟩
theorem f_18_57 : jfok 18 57 "CoinNodeModel" jT18 61 jY18 2 := ⟨jc_18, by decide, rfl⟩
theorem f_18_58 : jfok 18 58 "CoinNodeModel" jT18 61 jY18 0 := ⟨jc_18, by decide, rfl⟩
theorem f_18_59 : jfok 18 59 "CoinNodeModel" jT18 61 jY18 0 := ⟨jc_18, by decide, rfl⟩
theorem f_18_60 : jfok 18 60 "CoinNodeModel" jT18 61 jY18 0 := ⟨jc_18, by decide, rfl⟩
theorem jst_1 : (1, "CoinNode$Hash", "START") ∈ jsts := List.mem_of_getElem? (i := 0) rfl
theorem jst_2 : (2, "CoinNode$Hash", "ROUNDS") ∈ jsts := List.mem_of_getElem? (i := 1) rfl
theorem jst_3 : (3, "CoinNode$Hash", "WORD") ∈ jsts := List.mem_of_getElem? (i := 2) rfl
theorem jst_4 : (4, "CoinNode$Hash", "TURN") ∈ jsts := List.mem_of_getElem? (i := 3) rfl
theorem jst_5 : (5, "CoinNode$Hash", "ADDED") ∈ jsts := List.mem_of_getElem? (i := 4) rfl
theorem jst_6 : (6, "CoinNode$Machine", "MOVES") ∈ jsts := List.mem_of_getElem? (i := 5) rfl
theorem jst_7 : (7, "CoinNode$Signature", "PRIME") ∈ jsts := List.mem_of_getElem? (i := 6) rfl
theorem jst_8 : (8, "CoinNode$Signature", "ORDER") ∈ jsts := List.mem_of_getElem? (i := 7) rfl
theorem jst_9 : (9, "CoinNode$Signature", "OVER") ∈ jsts := List.mem_of_getElem? (i := 8) rfl
theorem jst_10 : (10, "CoinNode$Signature", "BASE_X") ∈ jsts := List.mem_of_getElem? (i := 9) rfl
theorem jst_11 : (11, "CoinNode$Signature", "BASE_Y") ∈ jsts := List.mem_of_getElem? (i := 10) rfl
theorem jst_12 : (12, "CoinNode$Point", "ROOT") ∈ jsts := List.mem_of_getElem? (i := 11) rfl
theorem jst_13 : (13, "CoinNodeModel$Hashes", "CUBES") ∈ jsts := List.mem_of_getElem? (i := 12) rfl
theorem jst_14 : (14, "CoinNodeModel$Hashes", "WORDS") ∈ jsts := List.mem_of_getElem? (i := 13) rfl
theorem jst_15 : (15, "CoinNodeModel$Hashes", "OTHERS") ∈ jsts := List.mem_of_getElem? (i := 14) rfl
theorem jst_16 : (16, "CoinNodeModel$Hashes", "TURNS") ∈ jsts := List.mem_of_getElem? (i := 15) rfl
theorem jst_17 : (17, "CoinNodeModel$Hashes", "OTHER_TURNS") ∈ jsts := List.mem_of_getElem? (i := 16) rfl
theorem jnf_0 : ("CoinNodeModel", 265, "CoinNodeModel$Signing", "tx", "LCoinNodeModel$Tx;", "CoinNodeModel") ∈ jnF := List.mem_of_getElem? (i := 0) rfl
theorem jnf_1 : ("CoinNodeModel", 266, "CoinNodeModel$Signing", "input", "I", "CoinNodeModel") ∈ jnF := List.mem_of_getElem? (i := 1) rfl
theorem jnf_2 : ("CoinNodeModel", 269, "CoinNodeModel$Signing", "lockFrom", "[B", "CoinNodeModel") ∈ jnF := List.mem_of_getElem? (i := 2) rfl
theorem jnf_3 : ("CoinNodeModel", 272, "CoinNodeModel$Signing", "lockAt", "I", "CoinNodeModel") ∈ jnF := List.mem_of_getElem? (i := 3) rfl
theorem jnf_4 : ("CoinNodeModel", 275, "CoinNodeModel$Signing", "lockSize", "I", "CoinNodeModel") ∈ jnF := List.mem_of_getElem? (i := 4) rfl
theorem jnf_5 : ("CoinNodeModel", 330, "CoinNodeModel$Scripts", "left", "I", "CoinNodeModel") ∈ jnF := List.mem_of_getElem? (i := 5) rfl
theorem jnf_6 : ("CoinNodeModel$Signing", 35, "CoinNodeModel$Tx", "from", "[B", "CoinNodeModel") ∈ jnF := List.mem_of_getElem? (i := 6) rfl
theorem jnf_7 : ("CoinNodeModel", 197, "CoinNodeModel$Tx", "from", "[B", "CoinNodeModel") ∈ jnF := List.mem_of_getElem? (i := 7) rfl
theorem jnf_8 : ("CoinNodeModel$Signing", 40, "CoinNodeModel$Tx", "at", "I", "CoinNodeModel") ∈ jnF := List.mem_of_getElem? (i := 8) rfl
theorem jnf_9 : ("CoinNodeModel", 225, "CoinNodeModel$Tx", "at", "I", "CoinNodeModel") ∈ jnF := List.mem_of_getElem? (i := 9) rfl
theorem jnf_10 : ("CoinNodeModel$Signing", 86, "CoinNodeModel$Tx", "place", "I", "CoinNodeModel") ∈ jnF := List.mem_of_getElem? (i := 10) rfl
theorem jnf_11 : ("CoinNodeModel$Signing", 47, "CoinNodeModel$Tx", "inputs", "I", "CoinNodeModel") ∈ jnF := List.mem_of_getElem? (i := 11) rfl
theorem jnf_12 : ("CoinNodeModel", 194, "CoinNodeModel$Tx", "inputs", "I", "CoinNodeModel") ∈ jnF := List.mem_of_getElem? (i := 12) rfl
theorem jnf_13 : ("CoinNodeModel$Signing", 73, "CoinNodeModel$Tx", "outputs", "I", "CoinNodeModel") ∈ jnF := List.mem_of_getElem? (i := 13) rfl
theorem jnf_14 : ("CoinNodeModel", 213, "CoinNodeModel$Tx", "outputs", "I", "CoinNodeModel") ∈ jnF := List.mem_of_getElem? (i := 14) rfl
theorem jnf_15 : ("CoinNodeModel$Signing", 57, "CoinNodeModel$Tx", "names", "[I", "CoinNodeModel") ∈ jnF := List.mem_of_getElem? (i := 15) rfl
theorem jnf_16 : ("CoinNodeModel", 200, "CoinNodeModel$Tx", "names", "[I", "CoinNodeModel") ∈ jnF := List.mem_of_getElem? (i := 16) rfl
theorem jnf_17 : ("CoinNodeModel", 202, "CoinNodeModel$Tx", "indexes", "[J", "CoinNodeModel") ∈ jnF := List.mem_of_getElem? (i := 17) rfl
theorem jnf_18 : ("CoinNodeModel", 281, "CoinNodeModel$Tx", "scripts", "[I", "CoinNodeModel") ∈ jnF := List.mem_of_getElem? (i := 18) rfl
theorem jnf_19 : ("CoinNodeModel", 283, "CoinNodeModel$Tx", "scriptSizes", "[I", "CoinNodeModel") ∈ jnF := List.mem_of_getElem? (i := 19) rfl
theorem jnf_20 : ("CoinNodeModel$Signing", 70, "CoinNodeModel$Tx", "sequences", "[I", "CoinNodeModel") ∈ jnF := List.mem_of_getElem? (i := 20) rfl
theorem jnf_21 : ("CoinNodeModel$Signing", 76, "CoinNodeModel$Tx", "values", "[J", "CoinNodeModel") ∈ jnF := List.mem_of_getElem? (i := 21) rfl
theorem jnf_22 : ("CoinNodeModel", 216, "CoinNodeModel$Tx", "values", "[J", "CoinNodeModel") ∈ jnF := List.mem_of_getElem? (i := 22) rfl
theorem jnf_23 : ("CoinNodeModel$Signing", 83, "CoinNodeModel$Tx", "locks", "[I", "CoinNodeModel") ∈ jnF := List.mem_of_getElem? (i := 23) rfl
theorem jnf_24 : ("CoinNodeModel", 219, "CoinNodeModel$Tx", "locks", "[I", "CoinNodeModel") ∈ jnF := List.mem_of_getElem? (i := 24) rfl
theorem jnf_25 : ("CoinNodeModel$Signing", 80, "CoinNodeModel$Tx", "lockSizes", "[I", "CoinNodeModel") ∈ jnF := List.mem_of_getElem? (i := 25) rfl
theorem jnf_26 : ("CoinNodeModel", 222, "CoinNodeModel$Tx", "lockSizes", "[I", "CoinNodeModel") ∈ jnF := List.mem_of_getElem? (i := 26) rfl
theorem jnm_0 : ("CoinNode", 33, (⟨"CoinNode$Hash", "<init>", "()V"⟩ : MethodName), "CoinNode") ∈ jnM := List.mem_of_getElem? (i := 0) rfl
theorem jnm_1 : ("CoinNode$Signature", 58, (⟨"CoinNode$Point", "<init>", "()V"⟩ : MethodName), "CoinNode") ∈ jnM := List.mem_of_getElem? (i := 1) rfl
theorem jnm_2 : ("CoinNode$Machine", 13, (⟨"CoinNode$Stack", "<init>", "()V"⟩ : MethodName), "CoinNode") ∈ jnM := List.mem_of_getElem? (i := 2) rfl
theorem jnm_3 : ("CoinNode", 49, (⟨"CoinNode$Coins", "<init>", "()V"⟩ : MethodName), "CoinNode") ∈ jnM := List.mem_of_getElem? (i := 3) rfl
theorem jnm_4 : ("CoinNodeModel", 9, (⟨"CoinNodeModel$Hashes", "<init>", "()V"⟩ : MethodName), "CoinNodeModel") ∈ jnM := List.mem_of_getElem? (i := 4) rfl
theorem jnm_5 : ("CoinNodeModel", 46, (⟨"CoinNodeModel$Tx", "<init>", "()V"⟩ : MethodName), "CoinNodeModel") ∈ jnM := List.mem_of_getElem? (i := 5) rfl
theorem jnm_6 : ("CoinNodeModel$Tx", 91, (⟨"CoinNodeModel", "like", "([BI[BII)Z"⟩ : MethodName), "CoinNodeModel") ∈ jnM := List.mem_of_getElem? (i := 6) rfl
theorem jps_0 : Cond.selects "CoinNode" ⟨"CoinNode", "layOnTape", "(I)V"⟩ ⟨"CoinNode", "layOnTape", "(I)V"⟩ ∈ jws := jws_p (i := 0) rfl
theorem jps_1 : Cond.selects "CoinNode" ⟨"CoinNode", "takeTransaction", "(I[B)V"⟩ ⟨"CoinNode", "takeTransaction", "(I[B)V"⟩ ∈ jws := jws_p (i := 1) rfl
theorem jps_2 : Cond.selects "CoinNode$Tx" ⟨"CoinNode$Tx", "readInputs", "(I)I"⟩ ⟨"CoinNode$Tx", "readInputs", "(I)I"⟩ ∈ jws := jws_p (i := 2) rfl
theorem jps_3 : Cond.selects "CoinNode$Tx" ⟨"CoinNode$Tx", "isRootInput", "(I)Z"⟩ ⟨"CoinNode$Tx", "isRootInput", "(I)Z"⟩ ∈ jws := jws_p (i := 3) rfl
theorem jps_4 : Cond.selects "CoinNode$Tx" ⟨"CoinNode$Tx", "readOutputs", "(I)I"⟩ ⟨"CoinNode$Tx", "readOutputs", "(I)I"⟩ ∈ jws := jws_p (i := 4) rfl
theorem jps_5 : Cond.selects "CoinNode" ⟨"CoinNode", "answerVerdict", "(II[B)V"⟩ ⟨"CoinNode", "answerVerdict", "(II[B)V"⟩ ∈ jws := jws_p (i := 5) rfl
theorem jps_6 : Cond.selects "CoinNode" ⟨"CoinNode", "begin", "(I)V"⟩ ⟨"CoinNode", "begin", "(I)V"⟩ ∈ jws := jws_p (i := 6) rfl
theorem jps_7 : Cond.selects "CoinNode" ⟨"CoinNode", "put", "(I)V"⟩ ⟨"CoinNode", "put", "(I)V"⟩ ∈ jws := jws_p (i := 7) rfl
theorem jps_8 : Cond.selects "CoinNode" ⟨"CoinNode", "post", "(I)V"⟩ ⟨"CoinNode", "post", "(I)V"⟩ ∈ jws := jws_p (i := 8) rfl
theorem jps_9 : Cond.selects "CoinNode$Pool" ⟨"CoinNode$Pool", "clash", "(LCoinNode$Tx;)I"⟩ ⟨"CoinNode$Pool", "clash", "(LCoinNode$Tx;)I"⟩ ∈ jws := jws_p (i := 9) rfl
theorem jps_10 : Cond.selects "CoinNode$Pool" ⟨"CoinNode$Pool", "take", "(LCoinNode$Tx;I)I"⟩ ⟨"CoinNode$Pool", "take", "(LCoinNode$Tx;I)I"⟩ ∈ jws := jws_p (i := 10) rfl
theorem jps_11 : Cond.selects "CoinNode$Machine" ⟨"CoinNode$Machine", "push", "(I)V"⟩ ⟨"CoinNode$Machine", "push", "(I)V"⟩ ∈ jws := jws_p (i := 11) rfl
theorem jps_12 : Cond.selects "CoinNode$Machine" ⟨"CoinNode$Machine", "part", "(I)V"⟩ ⟨"CoinNode$Machine", "part", "(I)V"⟩ ∈ jws := jws_p (i := 12) rfl
theorem jps_13 : Cond.selects "CoinNode$Machine" ⟨"CoinNode$Machine", "has", "(I)Z"⟩ ⟨"CoinNode$Machine", "has", "(I)Z"⟩ ∈ jws := jws_p (i := 13) rfl
theorem jps_14 : Cond.selects "CoinNode$Machine" ⟨"CoinNode$Machine", "small", "(I)V"⟩ ⟨"CoinNode$Machine", "small", "(I)V"⟩ ∈ jws := jws_p (i := 14) rfl
theorem jps_15 : Cond.selects "CoinNode$Machine" ⟨"CoinNode$Machine", "pass", "(I)V"⟩ ⟨"CoinNode$Machine", "pass", "(I)V"⟩ ∈ jws := jws_p (i := 15) rfl
theorem jps_16 : Cond.selects "CoinNode$Machine" ⟨"CoinNode$Machine", "arrange", "(I)V"⟩ ⟨"CoinNode$Machine", "arrange", "(I)V"⟩ ∈ jws := jws_p (i := 16) rfl
theorem jps_17 : Cond.selects "CoinNode$Machine" ⟨"CoinNode$Machine", "move", "(I)V"⟩ ⟨"CoinNode$Machine", "move", "(I)V"⟩ ∈ jws := jws_p (i := 17) rfl
theorem jps_18 : Cond.selects "CoinNode$Machine" ⟨"CoinNode$Machine", "compare", "(I)V"⟩ ⟨"CoinNode$Machine", "compare", "(I)V"⟩ ∈ jws := jws_p (i := 18) rfl
theorem jps_19 : Cond.selects "CoinNode$Machine" ⟨"CoinNode$Machine", "calculate", "(I)V"⟩ ⟨"CoinNode$Machine", "calculate", "(I)V"⟩ ∈ jws := jws_p (i := 19) rfl
theorem jps_20 : Cond.selects "CoinNode$Machine" ⟨"CoinNode$Machine", "digest", "(I)V"⟩ ⟨"CoinNode$Machine", "digest", "(I)V"⟩ ∈ jws := jws_p (i := 20) rfl
theorem jps_21 : Cond.selects "CoinNode$Machine" ⟨"CoinNode$Machine", "ask", "(I)V"⟩ ⟨"CoinNode$Machine", "ask", "(I)V"⟩ ∈ jws := jws_p (i := 21) rfl
theorem jps_22 : Cond.selects "CoinNode$Machine" ⟨"CoinNode$Machine", "finish", "(Z)V"⟩ ⟨"CoinNode$Machine", "finish", "(Z)V"⟩ ∈ jws := jws_p (i := 22) rfl
theorem jps_23 : Cond.selects "CoinNode$Scripts" ⟨"CoinNode$Scripts", "write", "(LCoinNode$Tx;ILCoinNode$Tx;II)V"⟩ ⟨"CoinNode$Scripts", "write", "(LCoinNode$Tx;ILCoinNode$Tx;II)V"⟩ ∈ jws := jws_p (i := 23) rfl
theorem jps_24 : Cond.selects "CoinNode$Scripts" ⟨"CoinNode$Scripts", "put", "([BII)V"⟩ ⟨"CoinNode$Scripts", "put", "([BII)V"⟩ ∈ jws := jws_p (i := 24) rfl
theorem jps_25 : Cond.selects "CoinNode$Scripts" ⟨"CoinNode$Scripts", "fill", "(II)V"⟩ ⟨"CoinNode$Scripts", "fill", "(II)V"⟩ ∈ jws := jws_p (i := 25) rfl
theorem jps_26 : Cond.selects "CoinNode$Signature" ⟨"CoinNode$Signature", "invert", "([I)V"⟩ ⟨"CoinNode$Signature", "invert", "([I)V"⟩ ∈ jws := jws_p (i := 26) rfl
theorem jps_27 : Cond.selects "CoinNode$Signature" ⟨"CoinNode$Signature", "multiply", "([I[I[I)V"⟩ ⟨"CoinNode$Signature", "multiply", "([I[I[I)V"⟩ ∈ jws := jws_p (i := 27) rfl
theorem jps_28 : Cond.selects "CoinNode$Signature" ⟨"CoinNode$Signature", "isAtX", "()Z"⟩ ⟨"CoinNode$Signature", "isAtX", "()Z"⟩ ∈ jws := jws_p (i := 28) rfl
theorem jps_29 : Cond.selects "CoinNode$Pool" ⟨"CoinNode$Pool", "knot", "(LCoinNode$Tx;)I"⟩ ⟨"CoinNode$Pool", "knot", "(LCoinNode$Tx;)I"⟩ ∈ jws := jws_p (i := 29) rfl
theorem jps_30 : Cond.selects "CoinNode$Pool" ⟨"CoinNode$Pool", "markKin", "(LCoinNode$Tx;)V"⟩ ⟨"CoinNode$Pool", "markKin", "(LCoinNode$Tx;)V"⟩ ∈ jws := jws_p (i := 30) rfl
theorem jps_31 : Cond.selects "CoinNode$Pool" ⟨"CoinNode$Pool", "dropLeast", "(LCoinNode$Tx;)Z"⟩ ⟨"CoinNode$Pool", "dropLeast", "(LCoinNode$Tx;)Z"⟩ ∈ jws := jws_p (i := 31) rfl
theorem jps_32 : Cond.selects "CoinNode" ⟨"CoinNode", "tellOthers", "(II[B)V"⟩ ⟨"CoinNode", "tellOthers", "(II[B)V"⟩ ∈ jws := jws_p (i := 32) rfl
theorem jps_33 : Cond.selects "CoinNode" ⟨"CoinNode", "put", "([BII)V"⟩ ⟨"CoinNode", "put", "([BII)V"⟩ ∈ jws := jws_p (i := 33) rfl
theorem jps_34 : Cond.selects "CoinNode$Chain" ⟨"CoinNode$Chain", "bitsBehind", "(LCoinNode$Block;)I"⟩ ⟨"CoinNode$Chain", "bitsBehind", "(LCoinNode$Block;)I"⟩ ∈ jws := jws_p (i := 34) rfl
theorem jps_35 : Cond.selects "CoinNode$Chain" ⟨"CoinNode$Chain", "median", "(LCoinNode$Block;)J"⟩ ⟨"CoinNode$Chain", "median", "(LCoinNode$Block;)J"⟩ ∈ jws := jws_p (i := 35) rfl
theorem jps_36 : Cond.selects "CoinNode$Chain" ⟨"CoinNode$Chain", "setWork", "(LCoinNode$Block;)V"⟩ ⟨"CoinNode$Chain", "setWork", "(LCoinNode$Block;)V"⟩ ∈ jws := jws_p (i := 36) rfl
theorem jps_37 : Cond.selects "CoinNode$Chain" ⟨"CoinNode$Chain", "best", "()LCoinNode$Block;"⟩ ⟨"CoinNode$Chain", "best", "()LCoinNode$Block;"⟩ ∈ jws := jws_p (i := 37) rfl
theorem jps_38 : Cond.selects "CoinNode$Chain" ⟨"CoinNode$Chain", "layWay", "(LCoinNode$Block;)I"⟩ ⟨"CoinNode$Chain", "layWay", "(LCoinNode$Block;)I"⟩ ∈ jws := jws_p (i := 38) rfl
theorem jps_39 : Cond.selects "CoinNode$Chain" ⟨"CoinNode$Chain", "replay", "(I)V"⟩ ⟨"CoinNode$Chain", "replay", "(I)V"⟩ ∈ jws := jws_p (i := 39) rfl
theorem jps_40 : Cond.selects "CoinNode$Coins" ⟨"CoinNode$Coins", "change", "(LCoinNode$Tx;IZ)V"⟩ ⟨"CoinNode$Coins", "change", "(LCoinNode$Tx;IZ)V"⟩ ∈ jws := jws_p (i := 40) rfl
theorem jps_41 : Cond.selects "CoinNode$Coins" ⟨"CoinNode$Coins", "take", "(LCoinNode$Tx;I)I"⟩ ⟨"CoinNode$Coins", "take", "(LCoinNode$Tx;I)I"⟩ ∈ jws := jws_p (i := 41) rfl
theorem jps_42 : Cond.selects "CoinNode$Coins" ⟨"CoinNode$Coins", "faultOfMaking", "(LCoinNode$Tx;I)I"⟩ ⟨"CoinNode$Coins", "faultOfMaking", "(LCoinNode$Tx;I)I"⟩ ∈ jws := jws_p (i := 42) rfl
theorem jps_43 : Cond.selects "CoinNode$Chain" ⟨"CoinNode$Chain", "move", "(ILCoinNode$Block;)V"⟩ ⟨"CoinNode$Chain", "move", "(ILCoinNode$Block;)V"⟩ ∈ jws := jws_p (i := 43) rfl
theorem jps_44 : Cond.selects "CoinNode$Chain" ⟨"CoinNode$Chain", "condemn", "(LCoinNode$Block;)V"⟩ ⟨"CoinNode$Chain", "condemn", "(LCoinNode$Block;)V"⟩ ∈ jws := jws_p (i := 44) rfl
theorem jps_45 : Cond.selects "CoinNode" ⟨"CoinNode", "answerBlock", "(ILCoinNode$Block;IZ)V"⟩ ⟨"CoinNode", "answerBlock", "(ILCoinNode$Block;IZ)V"⟩ ∈ jws := jws_p (i := 45) rfl
theorem jps_46 : Cond.selects "CoinNode" ⟨"CoinNode", "askWhatIsBehind", "(I)V"⟩ ⟨"CoinNode", "askWhatIsBehind", "(I)V"⟩ ∈ jws := jws_p (i := 46) rfl
theorem jps_47 : Cond.selects "CoinNode" ⟨"CoinNode", "answerWhatIsBehind", "(I[B)V"⟩ ⟨"CoinNode", "answerWhatIsBehind", "(I[B)V"⟩ ∈ jws := jws_p (i := 47) rfl
theorem jps_48 : Cond.selects "CoinNode" ⟨"CoinNode", "answerGive", "(I[B)V"⟩ ⟨"CoinNode", "answerGive", "(I[B)V"⟩ ∈ jws := jws_p (i := 48) rfl
theorem jps_49 : Cond.selects "CoinNode" ⟨"CoinNode", "answerIHave", "(I[B)V"⟩ ⟨"CoinNode", "answerIHave", "(I[B)V"⟩ ∈ jws := jws_p (i := 49) rfl
theorem jps_50 : Cond.selects "CoinNodeModel$Points" ⟨"CoinNodeModel$Points", "write", "(IJJJJ)V"⟩ ⟨"CoinNodeModel$Points", "write", "(IJJJJ)V"⟩ ∈ jws := jws_p (i := 50) rfl
theorem jps_51 : Cond.selects "CoinNodeModel$Points" ⟨"CoinNodeModel$Points", "nothing", "(I)V"⟩ ⟨"CoinNodeModel$Points", "nothing", "(I)V"⟩ ∈ jws := jws_p (i := 51) rfl
theorem jps_52 : Cond.selects "CoinNodeModel$Tree" ⟨"CoinNodeModel$Tree", "join", "(IJJ)V"⟩ ⟨"CoinNodeModel$Tree", "join", "(IJJ)V"⟩ ∈ jws := jws_p (i := 52) rfl
theorem jps_53 : Cond.selects "CoinNodeModel$Tree" ⟨"CoinNodeModel$Tree", "quotient", "()V"⟩ ⟨"CoinNodeModel$Tree", "quotient", "()V"⟩ ∈ jws := jws_p (i := 53) rfl
theorem jps_54 : Cond.selects "CoinNodeModel" ⟨"CoinNodeModel", "write", "(I)V"⟩ ⟨"CoinNodeModel", "write", "(I)V"⟩ ∈ jws := jws_p (i := 54) rfl
theorem jps_55 : Cond.selects "CoinNodeModel" ⟨"CoinNodeModel", "message", "(II)V"⟩ ⟨"CoinNodeModel", "message", "(II)V"⟩ ∈ jws := jws_p (i := 55) rfl
theorem jps_56 : Cond.selects "CoinNodeModel" ⟨"CoinNodeModel", "comes", "([BIIZ)I"⟩ ⟨"CoinNodeModel", "comes", "([BIIZ)I"⟩ ∈ jws := jws_p (i := 56) rfl
theorem jps_57 : Cond.selects "CoinNodeModel" ⟨"CoinNodeModel", "need", "(I)V"⟩ ⟨"CoinNodeModel", "need", "(I)V"⟩ ∈ jws := jws_p (i := 57) rfl
theorem jps_58 : Cond.selects "CoinNodeModel" ⟨"CoinNodeModel", "height", "(I)I"⟩ ⟨"CoinNodeModel", "height", "(I)I"⟩ ∈ jws := jws_p (i := 58) rfl
theorem jps_59 : Cond.selects "CoinNodeModel$Tree" ⟨"CoinNodeModel$Tree", "isBlock", "(I)Z"⟩ ⟨"CoinNodeModel$Tree", "isBlock", "(I)Z"⟩ ∈ jws := jws_p (i := 59) rfl
theorem jps_60 : Cond.selects "CoinNodeModel" ⟨"CoinNodeModel", "openBlock", "(I)V"⟩ ⟨"CoinNodeModel", "openBlock", "(I)V"⟩ ∈ jws := jws_p (i := 60) rfl
theorem jps_61 : Cond.selects "CoinNodeModel" ⟨"CoinNodeModel", "open", "([BII)Z"⟩ ⟨"CoinNodeModel", "open", "([BII)Z"⟩ ∈ jws := jws_p (i := 61) rfl
theorem jps_62 : Cond.selects "CoinNodeModel$Tx" ⟨"CoinNodeModel$Tx", "pass", "(I)V"⟩ ⟨"CoinNodeModel$Tx", "pass", "(I)V"⟩ ∈ jws := jws_p (i := 62) rfl
theorem jps_63 : Cond.selects "CoinNodeModel$Tx" ⟨"CoinNodeModel$Tx", "size", "(I)I"⟩ ⟨"CoinNodeModel$Tx", "size", "(I)I"⟩ ∈ jws := jws_p (i := 63) rfl
theorem jps_64 : Cond.selects "CoinNodeModel$Tx" ⟨"CoinNodeModel$Tx", "low", "(I)J"⟩ ⟨"CoinNodeModel$Tx", "low", "(I)J"⟩ ∈ jws := jws_p (i := 64) rfl
theorem jps_65 : Cond.selects "CoinNodeModel" ⟨"CoinNodeModel", "apply", "(IZ)V"⟩ ⟨"CoinNodeModel", "apply", "(IZ)V"⟩ ∈ jws := jws_p (i := 65) rfl
theorem jps_66 : Cond.selects "CoinNodeModel" ⟨"CoinNodeModel", "coin", "([BIJ)I"⟩ ⟨"CoinNodeModel", "coin", "([BIJ)I"⟩ ∈ jws := jws_p (i := 66) rfl
theorem jps_67 : Cond.selects "CoinNodeModel" ⟨"CoinNodeModel", "dropCoin", "(I)V"⟩ ⟨"CoinNodeModel", "dropCoin", "(I)V"⟩ ∈ jws := jws_p (i := 67) rfl
theorem jps_68 : Cond.selects "CoinNodeModel" ⟨"CoinNodeModel", "nameOf", "(LCoinNodeModel$Tx;[BI)V"⟩ ⟨"CoinNodeModel", "nameOf", "(LCoinNodeModel$Tx;[BI)V"⟩ ∈ jws := jws_p (i := 68) rfl
theorem jps_69 : Cond.selects "CoinNodeModel" ⟨"CoinNodeModel", "inPool", "([BI)I"⟩ ⟨"CoinNodeModel", "inPool", "([BI)I"⟩ ∈ jws := jws_p (i := 69) rfl
theorem jps_70 : Cond.selects "CoinNodeModel" ⟨"CoinNodeModel", "spends", "(I[BIJ)Z"⟩ ⟨"CoinNodeModel", "spends", "(I[BIJ)Z"⟩ ∈ jws := jws_p (i := 70) rfl
theorem jps_71 : Cond.selects "CoinNodeModel" ⟨"CoinNodeModel", "find", "([BIJ)J"⟩ ⟨"CoinNodeModel", "find", "([BIJ)J"⟩ ∈ jws := jws_p (i := 71) rfl
theorem jps_72 : Cond.selects "CoinNodeModel" ⟨"CoinNodeModel", "openPool", "(I)V"⟩ ⟨"CoinNodeModel", "openPool", "(I)V"⟩ ∈ jws := jws_p (i := 72) rfl
theorem jps_73 : Cond.selects "CoinNodeModel" ⟨"CoinNodeModel", "fails", "(LCoinNodeModel$Tx;I[BII)Z"⟩ ⟨"CoinNodeModel", "fails", "(LCoinNodeModel$Tx;I[BII)Z"⟩ ∈ jws := jws_p (i := 73) rfl
theorem jps_74 : Cond.selects "CoinNodeModel$Scripts" ⟨"CoinNodeModel$Scripts", "next", "(I)I"⟩ ⟨"CoinNodeModel$Scripts", "next", "(I)I"⟩ ∈ jws := jws_p (i := 74) rfl
theorem jps_75 : Cond.selects "CoinNodeModel$Scripts" ⟨"CoinNodeModel$Scripts", "isDone", "()Z"⟩ ⟨"CoinNodeModel$Scripts", "isDone", "()Z"⟩ ∈ jws := jws_p (i := 75) rfl
theorem jps_76 : Cond.selects "CoinNodeModel$Scripts" ⟨"CoinNodeModel$Scripts", "fails", "(I)V"⟩ ⟨"CoinNodeModel$Scripts", "fails", "(I)V"⟩ ∈ jws := jws_p (i := 76) rfl
theorem jps_77 : Cond.selects "CoinNodeModel$Scripts" ⟨"CoinNodeModel$Scripts", "pushes", "(IIZ)I"⟩ ⟨"CoinNodeModel$Scripts", "pushes", "(IIZ)I"⟩ ∈ jws := jws_p (i := 77) rfl
theorem jps_78 : Cond.selects "CoinNodeModel$Scripts" ⟨"CoinNodeModel$Scripts", "flow", "(I)V"⟩ ⟨"CoinNodeModel$Scripts", "flow", "(I)V"⟩ ∈ jws := jws_p (i := 78) rfl
theorem jps_79 : Cond.selects "CoinNodeModel$Scripts" ⟨"CoinNodeModel$Scripts", "has", "(I)Z"⟩ ⟨"CoinNodeModel$Scripts", "has", "(I)Z"⟩ ∈ jws := jws_p (i := 79) rfl
theorem jps_80 : Cond.selects "CoinNodeModel$Scripts" ⟨"CoinNodeModel$Scripts", "isTrueRow", "(I)Z"⟩ ⟨"CoinNodeModel$Scripts", "isTrueRow", "(I)Z"⟩ ∈ jws := jws_p (i := 80) rfl
theorem jps_81 : Cond.selects "CoinNodeModel$Scripts" ⟨"CoinNodeModel$Scripts", "pushNumber", "(J)V"⟩ ⟨"CoinNodeModel$Scripts", "pushNumber", "(J)V"⟩ ∈ jws := jws_p (i := 81) rfl
theorem jps_82 : Cond.selects "CoinNodeModel$Scripts" ⟨"CoinNodeModel$Scripts", "operation", "(I)V"⟩ ⟨"CoinNodeModel$Scripts", "operation", "(I)V"⟩ ∈ jws := jws_p (i := 82) rfl
theorem jps_83 : Cond.selects "CoinNodeModel$Scripts" ⟨"CoinNodeModel$Scripts", "moves", "(I)V"⟩ ⟨"CoinNodeModel$Scripts", "moves", "(I)V"⟩ ∈ jws := jws_p (i := 83) rfl
theorem jps_84 : Cond.selects "CoinNodeModel$Scripts" ⟨"CoinNodeModel$Scripts", "copy", "(II)V"⟩ ⟨"CoinNodeModel$Scripts", "copy", "(II)V"⟩ ∈ jws := jws_p (i := 84) rfl
theorem jps_85 : Cond.selects "CoinNodeModel$Scripts" ⟨"CoinNodeModel$Scripts", "push", "(I)V"⟩ ⟨"CoinNodeModel$Scripts", "push", "(I)V"⟩ ∈ jws := jws_p (i := 85) rfl
theorem jps_86 : Cond.selects "CoinNodeModel$Scripts" ⟨"CoinNodeModel$Scripts", "again", "(III)V"⟩ ⟨"CoinNodeModel$Scripts", "again", "(III)V"⟩ ∈ jws := jws_p (i := 86) rfl
theorem jps_87 : Cond.selects "CoinNodeModel$Scripts" ⟨"CoinNodeModel$Scripts", "turn", "(II)V"⟩ ⟨"CoinNodeModel$Scripts", "turn", "(II)V"⟩ ∈ jws := jws_p (i := 87) rfl
theorem jps_88 : Cond.selects "CoinNodeModel$Scripts" ⟨"CoinNodeModel$Scripts", "top", "(I)I"⟩ ⟨"CoinNodeModel$Scripts", "top", "(I)I"⟩ ∈ jws := jws_p (i := 88) rfl
theorem jps_89 : Cond.selects "CoinNodeModel$Scripts" ⟨"CoinNodeModel$Scripts", "takeOut", "(I)V"⟩ ⟨"CoinNodeModel$Scripts", "takeOut", "(I)V"⟩ ∈ jws := jws_p (i := 89) rfl
theorem jps_90 : Cond.selects "CoinNodeModel$Scripts" ⟨"CoinNodeModel$Scripts", "pick", "(Z)V"⟩ ⟨"CoinNodeModel$Scripts", "pick", "(Z)V"⟩ ∈ jws := jws_p (i := 90) rfl
theorem jps_91 : Cond.selects "CoinNodeModel$Scripts" ⟨"CoinNodeModel$Scripts", "reads", "(I)Z"⟩ ⟨"CoinNodeModel$Scripts", "reads", "(I)Z"⟩ ∈ jws := jws_p (i := 91) rfl
theorem jps_92 : Cond.selects "CoinNodeModel$Scripts" ⟨"CoinNodeModel$Scripts", "equal", "(Z)V"⟩ ⟨"CoinNodeModel$Scripts", "equal", "(Z)V"⟩ ∈ jws := jws_p (i := 92) rfl
theorem jps_93 : Cond.selects "CoinNodeModel$Scripts" ⟨"CoinNodeModel$Scripts", "isSame", "(II)Z"⟩ ⟨"CoinNodeModel$Scripts", "isSame", "(II)Z"⟩ ∈ jws := jws_p (i := 93) rfl
theorem jps_94 : Cond.selects "CoinNodeModel$Scripts" ⟨"CoinNodeModel$Scripts", "pushTruth", "(Z)V"⟩ ⟨"CoinNodeModel$Scripts", "pushTruth", "(Z)V"⟩ ∈ jws := jws_p (i := 94) rfl
theorem jps_95 : Cond.selects "CoinNodeModel$Scripts" ⟨"CoinNodeModel$Scripts", "mustBeTrue", "()V"⟩ ⟨"CoinNodeModel$Scripts", "mustBeTrue", "()V"⟩ ∈ jws := jws_p (i := 95) rfl
theorem jps_96 : Cond.selects "CoinNodeModel$Scripts" ⟨"CoinNodeModel$Scripts", "numberOfOne", "(I)V"⟩ ⟨"CoinNodeModel$Scripts", "numberOfOne", "(I)V"⟩ ∈ jws := jws_p (i := 96) rfl
theorem jps_97 : Cond.selects "CoinNodeModel$Scripts" ⟨"CoinNodeModel$Scripts", "numberOfTwo", "(I)V"⟩ ⟨"CoinNodeModel$Scripts", "numberOfTwo", "(I)V"⟩ ∈ jws := jws_p (i := 97) rfl
theorem jps_98 : Cond.selects "CoinNodeModel$Scripts" ⟨"CoinNodeModel$Scripts", "digest", "(I)V"⟩ ⟨"CoinNodeModel$Scripts", "digest", "(I)V"⟩ ∈ jws := jws_p (i := 98) rfl
theorem jps_99 : Cond.selects "CoinNodeModel$Scripts" ⟨"CoinNodeModel$Scripts", "digested", "(IZ)V"⟩ ⟨"CoinNodeModel$Scripts", "digested", "(IZ)V"⟩ ∈ jws := jws_p (i := 99) rfl
theorem jps_100 : Cond.selects "CoinNodeModel$Hashes" ⟨"CoinNodeModel$Hashes", "step", "(III)V"⟩ ⟨"CoinNodeModel$Hashes", "step", "(III)V"⟩ ∈ jws := jws_p (i := 100) rfl
theorem jps_101 : Cond.selects "CoinNodeModel$Scripts" ⟨"CoinNodeModel$Scripts", "one", "(Z)V"⟩ ⟨"CoinNodeModel$Scripts", "one", "(Z)V"⟩ ∈ jws := jws_p (i := 101) rfl
theorem jps_102 : Cond.selects "CoinNodeModel$Scripts" ⟨"CoinNodeModel$Scripts", "fit", "(II)Z"⟩ ⟨"CoinNodeModel$Scripts", "fit", "(II)Z"⟩ ∈ jws := jws_p (i := 102) rfl
theorem jps_103 : Cond.selects "CoinNodeModel$Points" ⟨"CoinNodeModel$Points", "read", "(III)V"⟩ ⟨"CoinNodeModel$Points", "read", "(III)V"⟩ ∈ jws := jws_p (i := 103) rfl
theorem jps_104 : Cond.selects "CoinNodeModel$Points" ⟨"CoinNodeModel$Points", "compare", "(II)I"⟩ ⟨"CoinNodeModel$Points", "compare", "(II)I"⟩ ∈ jws := jws_p (i := 104) rfl
theorem jps_105 : Cond.selects "CoinNodeModel$Points" ⟨"CoinNodeModel$Points", "curve", "(II)V"⟩ ⟨"CoinNodeModel$Points", "curve", "(II)V"⟩ ∈ jws := jws_p (i := 105) rfl
theorem jps_106 : Cond.selects "CoinNodeModel$Points" ⟨"CoinNodeModel$Points", "multiply", "(IIII)V"⟩ ⟨"CoinNodeModel$Points", "multiply", "(IIII)V"⟩ ∈ jws := jws_p (i := 106) rfl
theorem jps_107 : Cond.selects "CoinNodeModel$Points" ⟨"CoinNodeModel$Points", "carry", "()V"⟩ ⟨"CoinNodeModel$Points", "carry", "()V"⟩ ∈ jws := jws_p (i := 107) rfl
theorem jps_108 : Cond.selects "CoinNodeModel$Points" ⟨"CoinNodeModel$Points", "isWide", "()Z"⟩ ⟨"CoinNodeModel$Points", "isWide", "()Z"⟩ ∈ jws := jws_p (i := 108) rfl
theorem jps_109 : Cond.selects "CoinNodeModel$Points" ⟨"CoinNodeModel$Points", "fold", "(I)V"⟩ ⟨"CoinNodeModel$Points", "fold", "(I)V"⟩ ∈ jws := jws_p (i := 109) rfl
theorem jps_110 : Cond.selects "CoinNodeModel$Points" ⟨"CoinNodeModel$Points", "add", "(III)V"⟩ ⟨"CoinNodeModel$Points", "add", "(III)V"⟩ ∈ jws := jws_p (i := 110) rfl
theorem jps_111 : Cond.selects "CoinNodeModel$Points" ⟨"CoinNodeModel$Points", "plus", "(IIII)V"⟩ ⟨"CoinNodeModel$Points", "plus", "(IIII)V"⟩ ∈ jws := jws_p (i := 111) rfl
theorem jps_112 : Cond.selects "CoinNodeModel$Points" ⟨"CoinNodeModel$Points", "copy", "(II)V"⟩ ⟨"CoinNodeModel$Points", "copy", "(II)V"⟩ ∈ jws := jws_p (i := 112) rfl
theorem jps_113 : Cond.selects "CoinNodeModel$Points" ⟨"CoinNodeModel$Points", "roots", "(II)Z"⟩ ⟨"CoinNodeModel$Points", "roots", "(II)Z"⟩ ∈ jws := jws_p (i := 113) rfl
theorem jps_114 : Cond.selects "CoinNodeModel$Points" ⟨"CoinNodeModel$Points", "power", "(III)V"⟩ ⟨"CoinNodeModel$Points", "power", "(III)V"⟩ ∈ jws := jws_p (i := 114) rfl
theorem jps_115 : Cond.selects "CoinNodeModel$Points" ⟨"CoinNodeModel$Points", "bit", "(II)Z"⟩ ⟨"CoinNodeModel$Points", "bit", "(II)Z"⟩ ∈ jws := jws_p (i := 115) rfl
theorem jps_116 : Cond.selects "CoinNodeModel$Points" ⟨"CoinNodeModel$Points", "isOdd", "(I)Z"⟩ ⟨"CoinNodeModel$Points", "isOdd", "(I)Z"⟩ ∈ jws := jws_p (i := 116) rfl
theorem jps_117 : Cond.selects "CoinNodeModel$Points" ⟨"CoinNodeModel$Points", "minus", "(IIII)V"⟩ ⟨"CoinNodeModel$Points", "minus", "(IIII)V"⟩ ∈ jws := jws_p (i := 117) rfl
theorem jps_118 : Cond.selects "CoinNodeModel$Points" ⟨"CoinNodeModel$Points", "isPoint", "(II)Z"⟩ ⟨"CoinNodeModel$Points", "isPoint", "(II)Z"⟩ ∈ jws := jws_p (i := 118) rfl
theorem jps_119 : Cond.selects "CoinNodeModel$Points" ⟨"CoinNodeModel$Points", "numberEnd", "(II)I"⟩ ⟨"CoinNodeModel$Points", "numberEnd", "(II)I"⟩ ∈ jws := jws_p (i := 119) rfl
theorem jps_120 : Cond.selects "CoinNodeModel$Signing" ⟨"CoinNodeModel$Signing", "write", "(I)V"⟩ ⟨"CoinNodeModel$Signing", "write", "(I)V"⟩ ∈ jws := jws_p (i := 120) rfl
theorem jps_121 : Cond.selects "CoinNodeModel$Signing" ⟨"CoinNodeModel$Signing", "copy", "([BII)V"⟩ ⟨"CoinNodeModel$Signing", "copy", "([BII)V"⟩ ∈ jws := jws_p (i := 121) rfl
theorem jps_122 : Cond.selects "CoinNodeModel$Signing" ⟨"CoinNodeModel$Signing", "fill", "(II)V"⟩ ⟨"CoinNodeModel$Signing", "fill", "(II)V"⟩ ∈ jws := jws_p (i := 122) rfl
theorem jps_123 : Cond.selects "CoinNodeModel$Signing" ⟨"CoinNodeModel$Signing", "word", "(I)J"⟩ ⟨"CoinNodeModel$Signing", "word", "(I)J"⟩ ∈ jws := jws_p (i := 123) rfl
theorem jps_124 : Cond.selects "CoinNodeModel$Points" ⟨"CoinNodeModel$Points", "isNothing", "(I)Z"⟩ ⟨"CoinNodeModel$Points", "isNothing", "(I)Z"⟩ ∈ jws := jws_p (i := 124) rfl
theorem jps_125 : Cond.selects "CoinNodeModel$Points" ⟨"CoinNodeModel$Points", "divide", "(IIII)V"⟩ ⟨"CoinNodeModel$Points", "divide", "(IIII)V"⟩ ∈ jws := jws_p (i := 125) rfl
theorem jps_126 : Cond.selects "CoinNodeModel$Points" ⟨"CoinNodeModel$Points", "multiple", "(I)V"⟩ ⟨"CoinNodeModel$Points", "multiple", "(I)V"⟩ ∈ jws := jws_p (i := 126) rfl
theorem jps_127 : Cond.selects "CoinNodeModel$Points" ⟨"CoinNodeModel$Points", "isNone", "(I)Z"⟩ ⟨"CoinNodeModel$Points", "isNone", "(I)Z"⟩ ∈ jws := jws_p (i := 127) rfl
theorem jps_128 : Cond.selects "CoinNodeModel$Points" ⟨"CoinNodeModel$Points", "twice", "(I)V"⟩ ⟨"CoinNodeModel$Points", "twice", "(I)V"⟩ ∈ jws := jws_p (i := 128) rfl
theorem jps_129 : Cond.selects "CoinNodeModel$Points" ⟨"CoinNodeModel$Points", "copyPoint", "(II)V"⟩ ⟨"CoinNodeModel$Points", "copyPoint", "(II)V"⟩ ∈ jws := jws_p (i := 129) rfl
theorem jps_130 : Cond.selects "CoinNodeModel$Points" ⟨"CoinNodeModel$Points", "join", "(II)V"⟩ ⟨"CoinNodeModel$Points", "join", "(II)V"⟩ ∈ jws := jws_p (i := 130) rfl
theorem jps_131 : Cond.selects "CoinNodeModel$Points" ⟨"CoinNodeModel$Points", "load", "(II)V"⟩ ⟨"CoinNodeModel$Points", "load", "(II)V"⟩ ∈ jws := jws_p (i := 131) rfl
theorem jps_132 : Cond.selects "CoinNodeModel$Scripts" ⟨"CoinNodeModel$Scripts", "several", "(Z)V"⟩ ⟨"CoinNodeModel$Scripts", "several", "(Z)V"⟩ ∈ jws := jws_p (i := 132) rfl
theorem jps_133 : Cond.selects "CoinNodeModel" ⟨"CoinNodeModel", "lacks", "()Z"⟩ ⟨"CoinNodeModel", "lacks", "()Z"⟩ ∈ jws := jws_p (i := 133) rfl
theorem jps_134 : Cond.selects "CoinNodeModel" ⟨"CoinNodeModel", "hangsOnItself", "()Z"⟩ ⟨"CoinNodeModel", "hangsOnItself", "()Z"⟩ ∈ jws := jws_p (i := 134) rfl
theorem jps_135 : Cond.selects "CoinNodeModel" ⟨"CoinNodeModel", "family", "([BI)V"⟩ ⟨"CoinNodeModel", "family", "([BI)V"⟩ ∈ jws := jws_p (i := 135) rfl
theorem jps_136 : Cond.selects "CoinNodeModel" ⟨"CoinNodeModel", "hangs", "(I[BI)Z"⟩ ⟨"CoinNodeModel", "hangs", "(I[BI)Z"⟩ ∈ jws := jws_p (i := 136) rfl
theorem jps_137 : Cond.selects "CoinNodeModel" ⟨"CoinNodeModel", "evict", "()V"⟩ ⟨"CoinNodeModel", "evict", "()V"⟩ ∈ jws := jws_p (i := 137) rfl
theorem jps_138 : Cond.selects "CoinNodeModel" ⟨"CoinNodeModel", "verdict", "(II[BI)V"⟩ ⟨"CoinNodeModel", "verdict", "(II[BI)V"⟩ ∈ jws := jws_p (i := 138) rfl
theorem jps_139 : Cond.selects "CoinNodeModel" ⟨"CoinNodeModel", "begin", "(I)V"⟩ ⟨"CoinNodeModel", "begin", "(I)V"⟩ ∈ jws := jws_p (i := 139) rfl
theorem jps_140 : Cond.selects "CoinNodeModel" ⟨"CoinNodeModel", "put", "(I)V"⟩ ⟨"CoinNodeModel", "put", "(I)V"⟩ ∈ jws := jws_p (i := 140) rfl
theorem jps_141 : Cond.selects "CoinNodeModel" ⟨"CoinNodeModel", "tell", "(I)V"⟩ ⟨"CoinNodeModel", "tell", "(I)V"⟩ ∈ jws := jws_p (i := 141) rfl
theorem jps_142 : Cond.selects "CoinNodeModel" ⟨"CoinNodeModel", "tellOthers", "(II[BI)V"⟩ ⟨"CoinNodeModel", "tellOthers", "(II[BI)V"⟩ ∈ jws := jws_p (i := 142) rfl
theorem jps_143 : Cond.selects "CoinNodeModel" ⟨"CoinNodeModel", "copy", "([BII)V"⟩ ⟨"CoinNodeModel", "copy", "([BII)V"⟩ ∈ jws := jws_p (i := 143) rfl
theorem jps_144 : Cond.selects "CoinNodeModel" ⟨"CoinNodeModel", "arrives", "(I)I"⟩ ⟨"CoinNodeModel", "arrives", "(I)I"⟩ ∈ jws := jws_p (i := 144) rfl
theorem jps_145 : Cond.selects "CoinNodeModel" ⟨"CoinNodeModel", "known", "([BI)I"⟩ ⟨"CoinNodeModel", "known", "([BI)I"⟩ ∈ jws := jws_p (i := 145) rfl
theorem jps_146 : Cond.selects "CoinNodeModel" ⟨"CoinNodeModel", "head", "(II)J"⟩ ⟨"CoinNodeModel", "head", "(II)J"⟩ ∈ jws := jws_p (i := 146) rfl
theorem jps_147 : Cond.selects "CoinNodeModel$Tree" ⟨"CoinNodeModel$Tree", "scale", "(JJ)V"⟩ ⟨"CoinNodeModel$Tree", "scale", "(JJ)V"⟩ ∈ jws := jws_p (i := 147) rfl
theorem jps_148 : Cond.selects "CoinNodeModel" ⟨"CoinNodeModel", "isAbove", "(J)Z"⟩ ⟨"CoinNodeModel", "isAbove", "(J)Z"⟩ ∈ jws := jws_p (i := 148) rfl
theorem jps_149 : Cond.selects "CoinNodeModel" ⟨"CoinNodeModel", "isFramed", "()Z"⟩ ⟨"CoinNodeModel", "isFramed", "()Z"⟩ ∈ jws := jws_p (i := 149) rfl
theorem jps_150 : Cond.selects "CoinNodeModel" ⟨"CoinNodeModel", "isRooted", "()Z"⟩ ⟨"CoinNodeModel", "isRooted", "()Z"⟩ ∈ jws := jws_p (i := 150) rfl
theorem jps_151 : Cond.selects "CoinNodeModel" ⟨"CoinNodeModel", "isFaulty", "()Z"⟩ ⟨"CoinNodeModel", "isFaulty", "()Z"⟩ ∈ jws := jws_p (i := 151) rfl
theorem jps_152 : Cond.selects "CoinNodeModel" ⟨"CoinNodeModel", "choose", "()V"⟩ ⟨"CoinNodeModel", "choose", "()V"⟩ ∈ jws := jws_p (i := 152) rfl
theorem jps_153 : Cond.selects "CoinNodeModel" ⟨"CoinNodeModel", "look", "(I)I"⟩ ⟨"CoinNodeModel", "look", "(I)I"⟩ ∈ jws := jws_p (i := 153) rfl
theorem jps_154 : Cond.selects "CoinNodeModel" ⟨"CoinNodeModel", "parent", "(I)I"⟩ ⟨"CoinNodeModel", "parent", "(I)I"⟩ ∈ jws := jws_p (i := 154) rfl
theorem jps_155 : Cond.selects "CoinNodeModel" ⟨"CoinNodeModel", "keep", "()V"⟩ ⟨"CoinNodeModel", "keep", "()V"⟩ ∈ jws := jws_p (i := 155) rfl
theorem jps_156 : Cond.selects "CoinNodeModel" ⟨"CoinNodeModel", "faultOf", "(I)I"⟩ ⟨"CoinNodeModel", "faultOf", "(I)I"⟩ ∈ jws := jws_p (i := 156) rfl
theorem jps_157 : Cond.selects "CoinNodeModel" ⟨"CoinNodeModel", "wrong", "(I)I"⟩ ⟨"CoinNodeModel", "wrong", "(I)I"⟩ ∈ jws := jws_p (i := 157) rfl
theorem jps_158 : Cond.selects "CoinNodeModel" ⟨"CoinNodeModel", "back", "()V"⟩ ⟨"CoinNodeModel", "back", "()V"⟩ ∈ jws := jws_p (i := 158) rfl
theorem jps_159 : Cond.selects "CoinNodeModel" ⟨"CoinNodeModel", "renew", "(I)V"⟩ ⟨"CoinNodeModel", "renew", "(I)V"⟩ ∈ jws := jws_p (i := 159) rfl
theorem jps_160 : Cond.selects "CoinNodeModel" ⟨"CoinNodeModel", "askBehind", "(I)V"⟩ ⟨"CoinNodeModel", "askBehind", "(I)V"⟩ ∈ jws := jws_p (i := 160) rfl
theorem jps_161 : Cond.selects "CoinNodeModel" ⟨"CoinNodeModel", "isList", "(IIII)Z"⟩ ⟨"CoinNodeModel", "isList", "(IIII)Z"⟩ ∈ jws := jws_p (i := 161) rfl
theorem jps_162 : Cond.selects "CoinNodeModel" ⟨"CoinNodeModel", "heads", "(II)V"⟩ ⟨"CoinNodeModel", "heads", "(II)V"⟩ ∈ jws := jws_p (i := 162) rfl
theorem jps_163 : Cond.selects "CoinNodeModel" ⟨"CoinNodeModel", "give", "(II)V"⟩ ⟨"CoinNodeModel", "give", "(II)V"⟩ ∈ jws := jws_p (i := 163) rfl
theorem jps_164 : Cond.selects "CoinNodeModel" ⟨"CoinNodeModel", "want", "(II)V"⟩ ⟨"CoinNodeModel", "want", "(II)V"⟩ ∈ jws := jws_p (i := 164) rfl
theorem jm_100 : 100 ∈ jtags := by decide
theorem jm_101 : 101 ∈ jtags := by decide
theorem jm_102 : 102 ∈ jtags := by decide
theorem jm_103 : 103 ∈ jtags := by decide
theorem jm_110 : 110 ∈ jtags := by decide
theorem jm_111 : 111 ∈ jtags := by decide
theorem jm_112 : 112 ∈ jtags := by decide
theorem jm_113 : 113 ∈ jtags := by decide
theorem jm_114 : 114 ∈ jtags := by decide
theorem jm_115 : 115 ∈ jtags := by decide
theorem jt_110 : 110 ∈ jtags ∧ (jty 110).isReference = true ∧ jkd (jty 110) = 2 := ⟨by decide, rfl, rfl⟩
theorem jt_111 : 111 ∈ jtags ∧ (jty 111).isReference = true ∧ jkd (jty 111) = 2 := ⟨by decide, rfl, rfl⟩
theorem jt_112 : 112 ∈ jtags ∧ (jty 112).isReference = true ∧ jkd (jty 112) = 2 := ⟨by decide, rfl, rfl⟩
theorem jt_113 : 113 ∈ jtags ∧ (jty 113).isReference = true ∧ jkd (jty 113) = 2 := ⟨by decide, rfl, rfl⟩
theorem jt_114 : 114 ∈ jtags ∧ (jty 114).isReference = true ∧ jkd (jty 114) = 2 := ⟨by decide, rfl, rfl⟩
theorem jt_115 : 115 ∈ jtags ∧ (jty 115).isReference = true ∧ jkd (jty 115) = 2 := ⟨by decide, rfl, rfl⟩
theorem js_113 : 113 ∈ jtags ∧ 113 ≠ 100 ∧ jty 113 = .object "CoinNode$Tx" := ⟨by decide, by decide, rfl⟩
theorem js_114 : 114 ∈ jtags ∧ 114 ≠ 100 ∧ jty 114 = .object "CoinNode$Block" := ⟨by decide, by decide, rfl⟩
theorem js_115 : 115 ∈ jtags ∧ 115 ≠ 100 ∧ jty 115 = .object "CoinNode$Point" := ⟨by decide, by decide, rfl⟩
theorem jbp_6 : (Int8.ofInt (Reader.signed 8 6)).toInt32 = 6 := by decide +kernel
theorem jbp_7 : (Int8.ofInt (Reader.signed 8 7)).toInt32 = 7 := by decide +kernel
theorem jbp_8 : (Int8.ofInt (Reader.signed 8 8)).toInt32 = 8 := by decide +kernel
theorem jbp_9 : (Int8.ofInt (Reader.signed 8 9)).toInt32 = 9 := by decide +kernel
theorem jbp_10 : (Int8.ofInt (Reader.signed 8 10)).toInt32 = 10 := by decide +kernel
theorem jbp_11 : (Int8.ofInt (Reader.signed 8 11)).toInt32 = 11 := by decide +kernel
theorem jbp_12 : (Int8.ofInt (Reader.signed 8 12)).toInt32 = 12 := by decide +kernel
theorem jbp_13 : (Int8.ofInt (Reader.signed 8 13)).toInt32 = 13 := by decide +kernel
theorem jbp_14 : (Int8.ofInt (Reader.signed 8 14)).toInt32 = 14 := by decide +kernel
theorem jbp_15 : (Int8.ofInt (Reader.signed 8 15)).toInt32 = 15 := by decide +kernel
theorem jbp_16 : (Int8.ofInt (Reader.signed 8 16)).toInt32 = 16 := by decide +kernel
theorem jbp_17 : (Int8.ofInt (Reader.signed 8 17)).toInt32 = 17 := by decide +kernel
theorem jbp_18 : (Int8.ofInt (Reader.signed 8 18)).toInt32 = 18 := by decide +kernel
theorem jbp_19 : (Int8.ofInt (Reader.signed 8 19)).toInt32 = 19 := by decide +kernel
theorem jbp_20 : (Int8.ofInt (Reader.signed 8 20)).toInt32 = 20 := by decide +kernel
theorem jbp_21 : (Int8.ofInt (Reader.signed 8 21)).toInt32 = 21 := by decide +kernel
theorem jbp_22 : (Int8.ofInt (Reader.signed 8 22)).toInt32 = 22 := by decide +kernel
theorem jbp_23 : (Int8.ofInt (Reader.signed 8 23)).toInt32 = 23 := by decide +kernel
theorem jbp_24 : (Int8.ofInt (Reader.signed 8 24)).toInt32 = 24 := by decide +kernel
theorem jbp_25 : (Int8.ofInt (Reader.signed 8 25)).toInt32 = 25 := by decide +kernel
theorem jbp_26 : (Int8.ofInt (Reader.signed 8 26)).toInt32 = 26 := by decide +kernel
theorem jbp_27 : (Int8.ofInt (Reader.signed 8 27)).toInt32 = 27 := by decide +kernel
theorem jbp_28 : (Int8.ofInt (Reader.signed 8 28)).toInt32 = 28 := by decide +kernel
theorem jbp_30 : (Int8.ofInt (Reader.signed 8 30)).toInt32 = 30 := by decide +kernel
theorem jbp_31 : (Int8.ofInt (Reader.signed 8 31)).toInt32 = 31 := by decide +kernel
theorem jbp_32 : (Int8.ofInt (Reader.signed 8 32)).toInt32 = 32 := by decide +kernel
theorem jbp_33 : (Int8.ofInt (Reader.signed 8 33)).toInt32 = 33 := by decide +kernel
theorem jbp_34 : (Int8.ofInt (Reader.signed 8 34)).toInt32 = 34 := by decide +kernel
theorem jbp_35 : (Int8.ofInt (Reader.signed 8 35)).toInt32 = 35 := by decide +kernel
theorem jbp_36 : (Int8.ofInt (Reader.signed 8 36)).toInt32 = 36 := by decide +kernel
theorem jbp_37 : (Int8.ofInt (Reader.signed 8 37)).toInt32 = 37 := by decide +kernel
theorem jbp_38 : (Int8.ofInt (Reader.signed 8 38)).toInt32 = 38 := by decide +kernel
theorem jbp_39 : (Int8.ofInt (Reader.signed 8 39)).toInt32 = 39 := by decide +kernel
theorem jbp_40 : (Int8.ofInt (Reader.signed 8 40)).toInt32 = 40 := by decide +kernel
theorem jbp_41 : (Int8.ofInt (Reader.signed 8 41)).toInt32 = 41 := by decide +kernel
theorem jbp_42 : (Int8.ofInt (Reader.signed 8 42)).toInt32 = 42 := by decide +kernel
theorem jbp_43 : (Int8.ofInt (Reader.signed 8 43)).toInt32 = 43 := by decide +kernel
theorem jbp_44 : (Int8.ofInt (Reader.signed 8 44)).toInt32 = 44 := by decide +kernel
theorem jbp_45 : (Int8.ofInt (Reader.signed 8 45)).toInt32 = 45 := by decide +kernel
theorem jbp_46 : (Int8.ofInt (Reader.signed 8 46)).toInt32 = 46 := by decide +kernel
theorem jbp_47 : (Int8.ofInt (Reader.signed 8 47)).toInt32 = 47 := by decide +kernel
theorem jbp_48 : (Int8.ofInt (Reader.signed 8 48)).toInt32 = 48 := by decide +kernel
theorem jbp_56 : (Int8.ofInt (Reader.signed 8 56)).toInt32 = 56 := by decide +kernel
theorem jbp_60 : (Int8.ofInt (Reader.signed 8 60)).toInt32 = 60 := by decide +kernel
theorem jbp_62 : (Int8.ofInt (Reader.signed 8 62)).toInt32 = 62 := by decide +kernel
theorem jbp_64 : (Int8.ofInt (Reader.signed 8 64)).toInt32 = 64 := by decide +kernel
theorem jbp_65 : (Int8.ofInt (Reader.signed 8 65)).toInt32 = 65 := by decide +kernel
theorem jbp_68 : (Int8.ofInt (Reader.signed 8 68)).toInt32 = 68 := by decide +kernel
theorem jbp_69 : (Int8.ofInt (Reader.signed 8 69)).toInt32 = 69 := by decide +kernel
theorem jbp_70 : (Int8.ofInt (Reader.signed 8 70)).toInt32 = 70 := by decide +kernel
theorem jbp_72 : (Int8.ofInt (Reader.signed 8 72)).toInt32 = 72 := by decide +kernel
theorem jbp_73 : (Int8.ofInt (Reader.signed 8 73)).toInt32 = 73 := by decide +kernel
theorem jbp_75 : (Int8.ofInt (Reader.signed 8 75)).toInt32 = 75 := by decide +kernel
theorem jbp_76 : (Int8.ofInt (Reader.signed 8 76)).toInt32 = 76 := by decide +kernel
theorem jbp_77 : (Int8.ofInt (Reader.signed 8 77)).toInt32 = 77 := by decide +kernel
theorem jbp_78 : (Int8.ofInt (Reader.signed 8 78)).toInt32 = 78 := by decide +kernel
theorem jbp_79 : (Int8.ofInt (Reader.signed 8 79)).toInt32 = 79 := by decide +kernel
theorem jbp_80 : (Int8.ofInt (Reader.signed 8 80)).toInt32 = 80 := by decide +kernel
theorem jbp_81 : (Int8.ofInt (Reader.signed 8 81)).toInt32 = 81 := by decide +kernel
theorem jbp_82 : (Int8.ofInt (Reader.signed 8 82)).toInt32 = 82 := by decide +kernel
theorem jbp_96 : (Int8.ofInt (Reader.signed 8 96)).toInt32 = 96 := by decide +kernel
theorem jbp_97 : (Int8.ofInt (Reader.signed 8 97)).toInt32 = 97 := by decide +kernel
theorem jbp_99 : (Int8.ofInt (Reader.signed 8 99)).toInt32 = 99 := by decide +kernel
theorem jbp_100 : (Int8.ofInt (Reader.signed 8 100)).toInt32 = 100 := by decide +kernel
theorem jbp_103 : (Int8.ofInt (Reader.signed 8 103)).toInt32 = 103 := by decide +kernel
theorem jbp_104 : (Int8.ofInt (Reader.signed 8 104)).toInt32 = 104 := by decide +kernel
theorem jbp_105 : (Int8.ofInt (Reader.signed 8 105)).toInt32 = 105 := by decide +kernel
theorem jbp_106 : (Int8.ofInt (Reader.signed 8 106)).toInt32 = 106 := by decide +kernel
theorem jbp_107 : (Int8.ofInt (Reader.signed 8 107)).toInt32 = 107 := by decide +kernel
theorem jbp_108 : (Int8.ofInt (Reader.signed 8 108)).toInt32 = 108 := by decide +kernel
theorem jbp_115 : (Int8.ofInt (Reader.signed 8 115)).toInt32 = 115 := by decide +kernel
theorem jbp_116 : (Int8.ofInt (Reader.signed 8 116)).toInt32 = 116 := by decide +kernel
theorem jbp_120 : (Int8.ofInt (Reader.signed 8 120)).toInt32 = 120 := by decide +kernel
theorem jbp_121 : (Int8.ofInt (Reader.signed 8 121)).toInt32 = 121 := by decide +kernel
theorem jbp_122 : (Int8.ofInt (Reader.signed 8 122)).toInt32 = 122 := by decide +kernel
theorem jbp_125 : (Int8.ofInt (Reader.signed 8 125)).toInt32 = 125 := by decide +kernel
theorem jbp_127 : (Int8.ofInt (Reader.signed 8 127)).toInt32 = 127 := by decide +kernel
theorem jbp_128 : (Int8.ofInt (Reader.signed 8 128)).toInt32 = (-128) := by decide +kernel
theorem jbp_251 : (Int8.ofInt (Reader.signed 8 251)).toInt32 = (-5) := by decide +kernel
theorem jbp_252 : (Int8.ofInt (Reader.signed 8 252)).toInt32 = (-4) := by decide +kernel
theorem jbp_253 : (Int8.ofInt (Reader.signed 8 253)).toInt32 = (-3) := by decide +kernel
theorem jbp_254 : (Int8.ofInt (Reader.signed 8 254)).toInt32 = (-2) := by decide +kernel
theorem jsp_0_128 : (Int16.ofInt (Reader.signed 16 (0 * 256 + 128))).toInt32 = 128 := by decide +kernel
theorem jsp_0_130 : (Int16.ofInt (Reader.signed 16 (0 * 256 + 130))).toInt32 = 130 := by decide +kernel
theorem jsp_0_134 : (Int16.ofInt (Reader.signed 16 (0 * 256 + 134))).toInt32 = 134 := by decide +kernel
theorem jsp_0_135 : (Int16.ofInt (Reader.signed 16 (0 * 256 + 135))).toInt32 = 135 := by decide +kernel
theorem jsp_0_136 : (Int16.ofInt (Reader.signed 16 (0 * 256 + 136))).toInt32 = 136 := by decide +kernel
theorem jsp_0_139 : (Int16.ofInt (Reader.signed 16 (0 * 256 + 139))).toInt32 = 139 := by decide +kernel
theorem jsp_0_140 : (Int16.ofInt (Reader.signed 16 (0 * 256 + 140))).toInt32 = 140 := by decide +kernel
theorem jsp_0_141 : (Int16.ofInt (Reader.signed 16 (0 * 256 + 141))).toInt32 = 141 := by decide +kernel
theorem jsp_0_142 : (Int16.ofInt (Reader.signed 16 (0 * 256 + 142))).toInt32 = 142 := by decide +kernel
theorem jsp_0_143 : (Int16.ofInt (Reader.signed 16 (0 * 256 + 143))).toInt32 = 143 := by decide +kernel
theorem jsp_0_144 : (Int16.ofInt (Reader.signed 16 (0 * 256 + 144))).toInt32 = 144 := by decide +kernel
theorem jsp_0_145 : (Int16.ofInt (Reader.signed 16 (0 * 256 + 145))).toInt32 = 145 := by decide +kernel
theorem jsp_0_146 : (Int16.ofInt (Reader.signed 16 (0 * 256 + 146))).toInt32 = 146 := by decide +kernel
theorem jsp_0_147 : (Int16.ofInt (Reader.signed 16 (0 * 256 + 147))).toInt32 = 147 := by decide +kernel
theorem jsp_0_148 : (Int16.ofInt (Reader.signed 16 (0 * 256 + 148))).toInt32 = 148 := by decide +kernel
theorem jsp_0_154 : (Int16.ofInt (Reader.signed 16 (0 * 256 + 154))).toInt32 = 154 := by decide +kernel
theorem jsp_0_157 : (Int16.ofInt (Reader.signed 16 (0 * 256 + 157))).toInt32 = 157 := by decide +kernel
theorem jsp_0_165 : (Int16.ofInt (Reader.signed 16 (0 * 256 + 165))).toInt32 = 165 := by decide +kernel
theorem jsp_0_166 : (Int16.ofInt (Reader.signed 16 (0 * 256 + 166))).toInt32 = 166 := by decide +kernel
theorem jsp_0_167 : (Int16.ofInt (Reader.signed 16 (0 * 256 + 167))).toInt32 = 167 := by decide +kernel
theorem jsp_0_168 : (Int16.ofInt (Reader.signed 16 (0 * 256 + 168))).toInt32 = 168 := by decide +kernel
theorem jsp_0_169 : (Int16.ofInt (Reader.signed 16 (0 * 256 + 169))).toInt32 = 169 := by decide +kernel
theorem jsp_0_170 : (Int16.ofInt (Reader.signed 16 (0 * 256 + 170))).toInt32 = 170 := by decide +kernel
theorem jsp_0_172 : (Int16.ofInt (Reader.signed 16 (0 * 256 + 172))).toInt32 = 172 := by decide +kernel
theorem jsp_0_173 : (Int16.ofInt (Reader.signed 16 (0 * 256 + 173))).toInt32 = 173 := by decide +kernel
theorem jsp_0_174 : (Int16.ofInt (Reader.signed 16 (0 * 256 + 174))).toInt32 = 174 := by decide +kernel
theorem jsp_0_175 : (Int16.ofInt (Reader.signed 16 (0 * 256 + 175))).toInt32 = 175 := by decide +kernel
theorem jsp_0_200 : (Int16.ofInt (Reader.signed 16 (0 * 256 + 200))).toInt32 = 200 := by decide +kernel
theorem jsp_0_201 : (Int16.ofInt (Reader.signed 16 (0 * 256 + 201))).toInt32 = 201 := by decide +kernel
theorem jsp_0_210 : (Int16.ofInt (Reader.signed 16 (0 * 256 + 210))).toInt32 = 210 := by decide +kernel
theorem jsp_0_252 : (Int16.ofInt (Reader.signed 16 (0 * 256 + 252))).toInt32 = 252 := by decide +kernel
theorem jsp_0_255 : (Int16.ofInt (Reader.signed 16 (0 * 256 + 255))).toInt32 = 255 := by decide +kernel
theorem jsp_1_0 : (Int16.ofInt (Reader.signed 16 (1 * 256 + 0))).toInt32 = 256 := by decide +kernel
theorem jsp_1_1 : (Int16.ofInt (Reader.signed 16 (1 * 256 + 1))).toInt32 = 257 := by decide +kernel
theorem jsp_1_44 : (Int16.ofInt (Reader.signed 16 (1 * 256 + 44))).toInt32 = 300 := by decide +kernel
theorem jsp_1_80 : (Int16.ofInt (Reader.signed 16 (1 * 256 + 80))).toInt32 = 336 := by decide +kernel
theorem jsp_1_128 : (Int16.ofInt (Reader.signed 16 (1 * 256 + 128))).toInt32 = 384 := by decide +kernel
theorem jsp_1_134 : (Int16.ofInt (Reader.signed 16 (1 * 256 + 134))).toInt32 = 390 := by decide +kernel
theorem jsp_1_160 : (Int16.ofInt (Reader.signed 16 (1 * 256 + 160))).toInt32 = 416 := by decide +kernel
theorem jsp_1_192 : (Int16.ofInt (Reader.signed 16 (1 * 256 + 192))).toInt32 = 448 := by decide +kernel
theorem jsp_1_224 : (Int16.ofInt (Reader.signed 16 (1 * 256 + 224))).toInt32 = 480 := by decide +kernel
theorem jsp_5_64 : (Int16.ofInt (Reader.signed 16 (5 * 256 + 64))).toInt32 = 1344 := by decide +kernel
theorem jsp_5_220 : (Int16.ofInt (Reader.signed 16 (5 * 256 + 220))).toInt32 = 1500 := by decide +kernel
theorem jsp_6_164 : (Int16.ofInt (Reader.signed 16 (6 * 256 + 164))).toInt32 = 1700 := by decide +kernel
theorem jsp_7_208 : (Int16.ofInt (Reader.signed 16 (7 * 256 + 208))).toInt32 = 2000 := by decide +kernel
theorem jsp_8_152 : (Int16.ofInt (Reader.signed 16 (8 * 256 + 152))).toInt32 = 2200 := by decide +kernel
theorem jsp_9_96 : (Int16.ofInt (Reader.signed 16 (9 * 256 + 96))).toInt32 = 2400 := by decide +kernel
theorem jsp_10_0 : (Int16.ofInt (Reader.signed 16 (10 * 256 + 0))).toInt32 = 2560 := by decide +kernel
theorem jsp_11_184 : (Int16.ofInt (Reader.signed 16 (11 * 256 + 184))).toInt32 = 3000 := by decide +kernel
theorem jsp_15_160 : (Int16.ofInt (Reader.signed 16 (15 * 256 + 160))).toInt32 = 4000 := by decide +kernel
theorem jsp_31_64 : (Int16.ofInt (Reader.signed 16 (31 * 256 + 64))).toInt32 = 8000 := by decide +kernel
theorem jsp_37_128 : (Int16.ofInt (Reader.signed 16 (37 * 256 + 128))).toInt32 = 9600 := by decide +kernel
theorem jsp_46_224 : (Int16.ofInt (Reader.signed 16 (46 * 256 + 224))).toInt32 = 12000 := by decide +kernel
theorem jsp_65_160 : (Int16.ofInt (Reader.signed 16 (65 * 256 + 160))).toInt32 = 16800 := by decide +kernel
theorem jsp_125_0 : (Int16.ofInt (Reader.signed 16 (125 * 256 + 0))).toInt32 = 32000 := by decide +kernel
theorem ji_1 : Int32.ofInt (Reader.signed 8 1) = 1 := by decide +kernel
theorem ji_2 : Int32.ofInt (Reader.signed 8 2) = 2 := by decide +kernel
theorem ji_4 : Int32.ofInt (Reader.signed 8 4) = 4 := by decide +kernel
theorem ji_5 : Int32.ofInt (Reader.signed 8 5) = 5 := by decide +kernel
theorem ji_10 : Int32.ofInt (Reader.signed 8 10) = 10 := by decide +kernel
theorem ji_33 : Int32.ofInt (Reader.signed 8 33) = 33 := by decide +kernel
theorem ji_248 : Int32.ofInt (Reader.signed 8 248) = (-8) := by decide +kernel
theorem ji_252 : Int32.ofInt (Reader.signed 8 252) = (-4) := by decide +kernel
theorem ji_255 : Int32.ofInt (Reader.signed 8 255) = (-1) := by decide +kernel
