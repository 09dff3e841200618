theorem flX0_28 : am_fl RX0 28 0 3 := ⟨RX0, TX0, 4, rfl, by decide, Or.inl (am_in 293 (by decide +kernel) rfl)⟩
theorem flX0_15 : am_fl RX0 15 0 0 := ⟨RX0, TX0, 4, rfl, by decide, Or.inl (am_in 288 (by decide +kernel) rfl)⟩
theorem flX0_21 : am_fl RX0 21 0 1 := ⟨RX0, TX0, 4, rfl, by decide, Or.inl (am_in 289 (by decide +kernel) rfl)⟩
theorem flX0_25 : am_fl RX0 25 0 2 := ⟨RX0, TX0, 4, rfl, by decide, Or.inl (am_in 291 (by decide +kernel) rfl)⟩
theorem fp_0_3 : am_fp 0 3 0 := fun C T N h => by cases h; exact ⟨rfl, fun _ => by decide +kernel, fun h => absurd h (by decide)⟩
theorem flX1_24 : am_fl RX1 24 3 7 := ⟨RX3, TX3, 11, rfl, by decide, Or.inr ⟨RX6, am_inN 172 (by decide +kernel) rfl⟩⟩
theorem flX1_9 : am_fl RX1 9 1 0 := ⟨RX1, TX1, 7, rfl, by decide, Or.inl (am_in 212 (by decide +kernel) rfl)⟩
theorem flX1_35 : am_fl RX1 35 3 8 := ⟨RX3, TX3, 11, rfl, by decide, Or.inr ⟨RX6, am_inN 175 (by decide +kernel) rfl⟩⟩
theorem flX1_18 : am_fl RX1 18 1 2 := ⟨RX1, TX1, 7, rfl, by decide, Or.inl (am_in 218 (by decide +kernel) rfl)⟩
theorem flX1_15 : am_fl RX1 15 1 1 := ⟨RX1, TX1, 7, rfl, by decide, Or.inl (am_in 215 (by decide +kernel) rfl)⟩
set_option maxRecDepth 100000 in
theorem lnX1_38 : am_lnS RX1 38 yJ7_fill_53178 cJ7_fill_53178 4 none 2 := ⟨am_in 417 rfl rfl, am_in 105 (by decide +kernel) rfl, am_in 416 (by decide +kernel) rfl, am_in 415 (by decide +kernel) rfl, ⟨by decide +kernel, by decide +kernel, by decide +kernel⟩, by decide⟩
theorem flX1_44 : am_fl RX1 44 1 4 := ⟨RX1, TX1, 7, rfl, by decide, Or.inl (am_in 222 (by decide +kernel) rfl)⟩
theorem fp_1_4 : am_fp 1 4 0 := fun C T N h => by cases h; exact ⟨rfl, fun _ => by decide +kernel, fun h => absurd h (by decide)⟩
theorem flX1_48 : am_fl RX1 48 1 5 := ⟨RX1, TX1, 7, rfl, by decide, Or.inl (am_in 225 (by decide +kernel) rfl)⟩
theorem fp_1_5 : am_fp 1 5 0 := fun C T N h => by cases h; exact ⟨rfl, fun _ => by decide +kernel, fun h => absurd h (by decide)⟩
theorem flX1_51 : am_fl RX1 51 1 6 := ⟨RX1, TX1, 7, rfl, by decide, Or.inl (am_in 228 (by decide +kernel) rfl)⟩
theorem fp_1_6 : am_fp 1 6 0 := fun C T N h => by cases h; exact ⟨rfl, fun _ => by decide +kernel, fun h => absurd h (by decide)⟩
theorem flX1_21 : am_fl RX1 21 1 3 := ⟨RX1, TX1, 7, rfl, by decide, Or.inl (am_in 221 (by decide +kernel) rfl)⟩
theorem flX1_63 : am_fl RX1 63 3 3 := ⟨RX3, TX3, 11, rfl, by decide, Or.inr ⟨RX6, am_inN 160 (by decide +kernel) rfl⟩⟩
theorem flX1_66 : am_fl RX1 66 3 9 := ⟨RX3, TX3, 11, rfl, by decide, Or.inr ⟨RX6, am_inN 180 (by decide +kernel) rfl⟩⟩
set_option maxRecDepth 100000 in
theorem lnX1_69 : am_lnV RX1 69 yX1_takeByCat cX1_takeByCat 3 none 1 1 := ⟨am_in 486 rfl rfl, am_in 98 (by decide +kernel) rfl, am_in 485 (by decide +kernel) rfl, am_in 23 (by decide +kernel) rfl, Or.inl (am_in 483 (by decide +kernel) rfl), ⟨by decide +kernel, by decide +kernel, by decide +kernel⟩, ⟨TX1, 7, rfl⟩, by decide⟩
set_option maxRecDepth 100000 in
theorem lnX1_73 : am_lnV RX1 73 yX1_isShut cX1_isShut 2 (some .boolean) 1 1 := ⟨am_in 457 rfl rfl, am_in 98 (by decide +kernel) rfl, am_in 456 (by decide +kernel) rfl, am_in 18 (by decide +kernel) rfl, Or.inl (am_in 487 (by decide +kernel) rfl), ⟨by decide +kernel, by decide +kernel, by decide +kernel⟩, ⟨TX1, 7, rfl⟩, by decide⟩
theorem flX1_77 : am_fl RX1 77 3 5 := ⟨RX3, TX3, 11, rfl, by decide, Or.inr ⟨RX6, am_inN 166 (by decide +kernel) rfl⟩⟩
set_option maxRecDepth 100000 in
theorem lnX1_80 : am_lnV RX1 80 yX1_turnOut cX1_turnOut 5 none 3 1 := ⟨am_in 491 rfl rfl, am_in 98 (by decide +kernel) rfl, am_in 490 (by decide +kernel) rfl, am_in 24 (by decide +kernel) rfl, Or.inl (am_in 488 (by decide +kernel) rfl), ⟨by decide +kernel, by decide +kernel, by decide +kernel⟩, ⟨TX1, 7, rfl⟩, by decide⟩
set_option maxRecDepth 100000 in
theorem lnX1_84 : am_lnV RX1 84 yX1_youngOf cX1_youngOf 5 (some .int) 3 1 := ⟨am_in 496 rfl rfl, am_in 98 (by decide +kernel) rfl, am_in 495 (by decide +kernel) rfl, am_in 25 (by decide +kernel) rfl, Or.inl (am_in 493 (by decide +kernel) rfl), ⟨by decide +kernel, by decide +kernel, by decide +kernel⟩, ⟨TX1, 7, rfl⟩, by decide⟩
theorem flX1_88 : am_fl RX1 88 3 6 := ⟨RX3, TX3, 11, rfl, by decide, Or.inr ⟨RX6, am_inN 170 (by decide +kernel) rfl⟩⟩
set_option maxRecDepth 100000 in
theorem lnX1_91 : am_lnV RX1 91 yX1_takeIn cX1_takeIn 5 none 3 1 := ⟨am_in 500 rfl rfl, am_in 98 (by decide +kernel) rfl, am_in 499 (by decide +kernel) rfl, am_in 26 (by decide +kernel) rfl, Or.inl (am_in 497 (by decide +kernel) rfl), ⟨by decide +kernel, by decide +kernel, by decide +kernel⟩, ⟨TX1, 7, rfl⟩, by decide⟩
theorem flX1_94 : am_fl RX1 94 3 0 := ⟨RX3, TX3, 11, rfl, by decide, Or.inr ⟨RX6, am_inN 150 (by decide +kernel) rfl⟩⟩
theorem flX2_20 : am_fl RX2 20 2 1 := ⟨RX2, TX2, 3, rfl, by decide, Or.inl (am_in 269 (by decide +kernel) rfl)⟩
theorem fp_2_1 : am_fp 2 1 0 := fun C T N h => by cases h; exact ⟨rfl, fun _ => by decide +kernel, fun h => absurd h (by decide)⟩
theorem flX2_14 : am_fl RX2 14 2 0 := ⟨RX2, TX2, 3, rfl, by decide, Or.inl (am_in 268 (by decide +kernel) rfl)⟩
theorem flX2_24 : am_fl RX2 24 2 2 := ⟨RX2, TX2, 3, rfl, by decide, Or.inl (am_in 271 (by decide +kernel) rfl)⟩
set_option maxRecDepth 100000 in
theorem lnX2_27 : am_lnV RX2 27 yX4_put cX4_put 4 none 2 4 := ⟨am_in 474 rfl rfl, am_in 100 (by decide +kernel) rfl, am_in 473 (by decide +kernel) rfl, am_in 21 (by decide +kernel) rfl, Or.inr ⟨RX6, am_inN 471 (by decide +kernel) rfl⟩, ⟨by decide +kernel, by decide +kernel, by decide +kernel⟩, ⟨TX4, 2, rfl⟩, by decide⟩
theorem fp_2_2 : am_fp 2 2 0 := fun C T N h => by cases h; exact ⟨rfl, fun _ => by decide +kernel, fun h => absurd h (by decide)⟩
set_option maxRecDepth 100000 in
theorem lnX2_37 : am_lnV RX2 37 yX4_take cX4_take 4 none 2 4 := ⟨am_in 552 rfl rfl, am_in 100 (by decide +kernel) rfl, am_in 551 (by decide +kernel) rfl, am_in 32 (by decide +kernel) rfl, Or.inr ⟨RX6, am_inN 549 (by decide +kernel) rfl⟩, ⟨by decide +kernel, by decide +kernel, by decide +kernel⟩, ⟨TX4, 2, rfl⟩, by decide⟩
theorem flX3_30 : am_fl RX3 30 3 0 := ⟨RX3, TX3, 11, rfl, by decide, Or.inl (am_in 147 (by decide +kernel) rfl)⟩
theorem fp_3_0 : am_fp 3 0 0 := fun C T N h => by cases h; exact ⟨rfl, fun _ => by decide +kernel, fun h => absurd h (by decide)⟩
theorem flX3_34 : am_fl RX3 34 3 1 := ⟨RX3, TX3, 11, rfl, by decide, Or.inl (am_in 151 (by decide +kernel) rfl)⟩
theorem fp_3_1 : am_fp 3 1 0 := fun C T N h => by cases h; exact ⟨rfl, fun _ => by decide +kernel, fun h => absurd h (by decide)⟩
theorem flX3_37 : am_fl RX3 37 3 2 := ⟨RX3, TX3, 11, rfl, by decide, Or.inl (am_in 154 (by decide +kernel) rfl)⟩
theorem fp_3_2 : am_fp 3 2 0 := fun C T N h => by cases h; exact ⟨rfl, fun _ => by decide +kernel, fun h => absurd h (by decide)⟩
theorem flX3_40 : am_fl RX3 40 3 3 := ⟨RX3, TX3, 11, rfl, by decide, Or.inl (am_in 157 (by decide +kernel) rfl)⟩
theorem fp_3_3 : am_fp 3 3 0 := fun C T N h => by cases h; exact ⟨rfl, fun _ => by decide +kernel, fun h => absurd h (by decide)⟩
theorem flX3_43 : am_fl RX3 43 3 4 := ⟨RX3, TX3, 11, rfl, by decide, Or.inl (am_in 161 (by decide +kernel) rfl)⟩
theorem fp_3_4 : am_fp 3 4 0 := fun C T N h => by cases h; exact ⟨rfl, fun _ => by decide +kernel, fun h => absurd h (by decide)⟩
theorem flX3_9 : am_fl RX3 9 3 5 := ⟨RX3, TX3, 11, rfl, by decide, Or.inl (am_in 163 (by decide +kernel) rfl)⟩
theorem flX3_27 : am_fl RX3 27 3 10 := ⟨RX3, TX3, 11, rfl, by decide, Or.inl (am_in 181 (by decide +kernel) rfl)⟩
theorem flX4_17 : am_fl RX4 17 4 0 := ⟨RX4, TX4, 2, rfl, by decide, Or.inl (am_in 261 (by decide +kernel) rfl)⟩
theorem flX4_25 : am_fl RX4 25 1 0 := ⟨RX1, TX1, 7, rfl, by decide, Or.inr ⟨RX6, am_inN 213 (by decide +kernel) rfl⟩⟩
theorem flX4_21 : am_fl RX4 21 4 1 := ⟨RX4, TX4, 2, rfl, by decide, Or.inl (am_in 262 (by decide +kernel) rfl)⟩
theorem flX4_36 : am_fl RX4 36 1 1 := ⟨RX1, TX1, 7, rfl, by decide, Or.inr ⟨RX6, am_inN 216 (by decide +kernel) rfl⟩⟩
theorem flX4_39 : am_fl RX4 39 1 2 := ⟨RX1, TX1, 7, rfl, by decide, Or.inr ⟨RX6, am_inN 219 (by decide +kernel) rfl⟩⟩
theorem flX4_42 : am_fl RX4 42 1 4 := ⟨RX1, TX1, 7, rfl, by decide, Or.inr ⟨RX6, am_inN 223 (by decide +kernel) rfl⟩⟩
theorem flX4_45 : am_fl RX4 45 1 5 := ⟨RX1, TX1, 7, rfl, by decide, Or.inr ⟨RX6, am_inN 226 (by decide +kernel) rfl⟩⟩
theorem flX4_48 : am_fl RX4 48 1 6 := ⟨RX1, TX1, 7, rfl, by decide, Or.inr ⟨RX6, am_inN 229 (by decide +kernel) rfl⟩⟩
theorem flX5_19 : am_fl RX5 19 5 1 := ⟨RX5, TX5, 5, rfl, by decide, Or.inl (am_in 122 (by decide +kernel) rfl)⟩
theorem flX5_9 : am_fl RX5 9 5 0 := ⟨RX5, TX5, 5, rfl, by decide, Or.inl (am_in 121 (by decide +kernel) rfl)⟩
theorem fp_5_1 : am_fp 5 1 0 := fun C T N h => by cases h; exact ⟨rfl, fun _ => by decide +kernel, fun h => absurd h (by decide)⟩
set_option maxRecDepth 100000 in
theorem lnX5_22 : am_lnV RX5 22 yX3_clear cX3_clear 1 none 0 3 := ⟨am_in 371 rfl rfl, am_in 97 (by decide +kernel) rfl, am_in 370 (by decide +kernel) rfl, am_in 2 (by decide +kernel) rfl, Or.inr ⟨RX6, am_inN 368 (by decide +kernel) rfl⟩, ⟨by decide +kernel, by decide +kernel, by decide +kernel⟩, ⟨TX3, 11, rfl⟩, by decide⟩
theorem flX5_27 : am_fl RX5 27 5 2 := ⟨RX5, TX5, 5, rfl, by decide, Or.inl (am_in 124 (by decide +kernel) rfl)⟩
theorem fp_5_2 : am_fp 5 2 0 := fun C T N h => by cases h; exact ⟨rfl, fun _ => by decide +kernel, fun h => absurd h (by decide)⟩
theorem flX5_15 : am_fl RX5 15 5 3 := ⟨RX5, TX5, 5, rfl, by decide, Or.inl (am_in 125 (by decide +kernel) rfl)⟩
theorem fp_5_3 : am_fp 5 3 0 := fun C T N h => by cases h; exact ⟨rfl, fun _ => by decide +kernel, fun h => absurd h (by decide)⟩
theorem flX5_30 : am_fl RX5 30 5 4 := ⟨RX5, TX5, 5, rfl, by decide, Or.inl (am_in 127 (by decide +kernel) rfl)⟩
theorem fp_5_4 : am_fp 5 4 0 := fun C T N h => by cases h; exact ⟨rfl, fun _ => by decide +kernel, fun h => absurd h (by decide)⟩
set_option maxRecDepth 100000 in
theorem lnX5_33 : am_lnV RX5 33 yX5_nextLetter cX5_nextLetter 1 (some .int) 0 5 := ⟨am_in 375 rfl rfl, am_in 96 (by decide +kernel) rfl, am_in 374 (by decide +kernel) rfl, am_in 3 (by decide +kernel) rfl, Or.inl (am_in 372 (by decide +kernel) rfl), ⟨by decide +kernel, by decide +kernel, by decide +kernel⟩, ⟨TX5, 5, rfl⟩, by decide⟩
set_option maxRecDepth 100000 in
theorem lnX5_37 : am_lnV RX5 37 yX5_readClause cX5_readClause 3 (some .boolean) 1 5 := ⟨am_in 379 rfl rfl, am_in 96 (by decide +kernel) rfl, am_in 378 (by decide +kernel) rfl, am_in 4 (by decide +kernel) rfl, Or.inl (am_in 376 (by decide +kernel) rfl), ⟨by decide +kernel, by decide +kernel, by decide +kernel⟩, ⟨TX5, 5, rfl⟩, by decide⟩
theorem flX5_41 : am_fl RX5 41 3 0 := ⟨RX3, TX3, 11, rfl, by decide, Or.inr ⟨RX6, am_inN 148 (by decide +kernel) rfl⟩⟩
set_option maxRecDepth 100000 in
theorem lnX5_44 : am_lnV RX5 44 yX5_faulty cX5_faulty 3 (some .boolean) 2 5 := ⟨am_in 383 rfl rfl, am_in 96 (by decide +kernel) rfl, am_in 382 (by decide +kernel) rfl, am_in 5 (by decide +kernel) rfl, Or.inl (am_in 380 (by decide +kernel) rfl), ⟨by decide +kernel, by decide +kernel, by decide +kernel⟩, ⟨TX5, 5, rfl⟩, by decide⟩
set_option maxRecDepth 100000 in
theorem lnX5_48 : am_lnV RX5 48 yX5_readTreaty cX5_readTreaty 5 (some .boolean) 1 5 := ⟨am_in 387 rfl rfl, am_in 96 (by decide +kernel) rfl, am_in 386 (by decide +kernel) rfl, am_in 6 (by decide +kernel) rfl, Or.inl (am_in 384 (by decide +kernel) rfl), ⟨by decide +kernel, by decide +kernel, by decide +kernel⟩, ⟨TX5, 5, rfl⟩, by decide⟩
theorem flX5_51 : am_fl RX5 51 3 3 := ⟨RX3, TX3, 11, rfl, by decide, Or.inr ⟨RX6, am_inN 159 (by decide +kernel) rfl⟩⟩
set_option maxRecDepth 100000 in
theorem lnX5_54 : am_lnV RX5 54 yX5_readBarn cX5_readBarn 8 (some .boolean) 1 5 := ⟨am_in 399 rfl rfl, am_in 96 (by decide +kernel) rfl, am_in 398 (by decide +kernel) rfl, am_in 9 (by decide +kernel) rfl, Or.inl (am_in 396 (by decide +kernel) rfl), ⟨by decide +kernel, by decide +kernel, by decide +kernel⟩, ⟨TX5, 5, rfl⟩, by decide⟩
theorem flX5_57 : am_fl RX5 57 3 4 := ⟨RX3, TX3, 11, rfl, by decide, Or.inr ⟨RX6, am_inN 162 (by decide +kernel) rfl⟩⟩
set_option maxRecDepth 100000 in
theorem lnX5_60 : am_lnV RX5 60 yX5_readRains cX5_readRains 3 (some .boolean) 1 5 := ⟨am_in 407 rfl rfl, am_in 96 (by decide +kernel) rfl, am_in 406 (by decide +kernel) rfl, am_in 11 (by decide +kernel) rfl, Or.inl (am_in 404 (by decide +kernel) rfl), ⟨by decide +kernel, by decide +kernel, by decide +kernel⟩, ⟨TX5, 5, rfl⟩, by decide⟩
set_option maxRecDepth 100000 in
theorem lnX5_63 : am_lnV RX5 63 yX5_readNumber cX5_readNumber 6 (some .int) 2 5 := ⟨am_in 391 rfl rfl, am_in 96 (by decide +kernel) rfl, am_in 390 (by decide +kernel) rfl, am_in 7 (by decide +kernel) rfl, Or.inl (am_in 388 (by decide +kernel) rfl), ⟨by decide +kernel, by decide +kernel, by decide +kernel⟩, ⟨TX5, 5, rfl⟩, by decide⟩
theorem flX5_67 : am_fl RX5 67 3 1 := ⟨RX3, TX3, 11, rfl, by decide, Or.inr ⟨RX6, am_inN 152 (by decide +kernel) rfl⟩⟩
theorem flX5_70 : am_fl RX5 70 3 2 := ⟨RX3, TX3, 11, rfl, by decide, Or.inr ⟨RX6, am_inN 155 (by decide +kernel) rfl⟩⟩
set_option maxRecDepth 100000 in
theorem lnX5_73 : am_lnV RX5 73 yX5_readEndOfClause cX5_readEndOfClause 1 (some .boolean) 0 5 := ⟨am_in 395 rfl rfl, am_in 96 (by decide +kernel) rfl, am_in 394 (by decide +kernel) rfl, am_in 8 (by decide +kernel) rfl, Or.inl (am_in 392 (by decide +kernel) rfl), ⟨by decide +kernel, by decide +kernel, by decide +kernel⟩, ⟨TX5, 5, rfl⟩, by decide⟩
set_option maxRecDepth 100000 in
theorem lnX5_77 : am_lnV RX5 77 yX5_readNests cX5_readNests 4 (some .int) 1 5 := ⟨am_in 403 rfl rfl, am_in 96 (by decide +kernel) rfl, am_in 402 (by decide +kernel) rfl, am_in 10 (by decide +kernel) rfl, Or.inl (am_in 400 (by decide +kernel) rfl), ⟨by decide +kernel, by decide +kernel, by decide +kernel⟩, ⟨TX5, 5, rfl⟩, by decide⟩
theorem flX5_81 : am_fl RX5 81 3 5 := ⟨RX3, TX3, 11, rfl, by decide, Or.inr ⟨RX6, am_inN 165 (by decide +kernel) rfl⟩⟩
theorem flX5_84 : am_fl RX5 84 3 6 := ⟨RX3, TX3, 11, rfl, by decide, Or.inr ⟨RX6, am_inN 169 (by decide +kernel) rfl⟩⟩
theorem flX5_87 : am_fl RX5 87 3 7 := ⟨RX3, TX3, 11, rfl, by decide, Or.inr ⟨RX6, am_inN 173 (by decide +kernel) rfl⟩⟩
theorem flX5_90 : am_fl RX5 90 3 8 := ⟨RX3, TX3, 11, rfl, by decide, Or.inr ⟨RX6, am_inN 176 (by decide +kernel) rfl⟩⟩
theorem flX5_93 : am_fl RX5 93 3 9 := ⟨RX3, TX3, 11, rfl, by decide, Or.inr ⟨RX6, am_inN 179 (by decide +kernel) rfl⟩⟩
theorem flX5_96 : am_fl RX5 96 3 10 := ⟨RX3, TX3, 11, rfl, by decide, Or.inr ⟨RX6, am_inN 182 (by decide +kernel) rfl⟩⟩
theorem flX6_12 : am_fl RX6 12 6 0 := ⟨RX6, TX6, 15, rfl, by decide, Or.inl (am_in 304 (by decide +kernel) rfl)⟩
set_option maxRecDepth 100000 in
theorem lnX6_76 : am_lnV RX6 76 yX5_append cX5_append 2 (some .boolean) 1 5 := ⟨am_in 358 rfl rfl, am_in 96 (by decide +kernel) rfl, am_in 357 (by decide +kernel) rfl, am_in 0 (by decide +kernel) rfl, Or.inr ⟨RX6, am_inN 355 (by decide +kernel) rfl⟩, ⟨by decide +kernel, by decide +kernel, by decide +kernel⟩, ⟨TX5, 5, rfl⟩, by decide⟩
theorem flX6_80 : am_fl RX6 80 5 1 := ⟨RX5, TX5, 5, rfl, by decide, Or.inr ⟨RX6, am_inN 123 (by decide +kernel) rfl⟩⟩
theorem flX6_23 : am_fl RX6 23 6 2 := ⟨RX6, TX6, 15, rfl, by decide, Or.inl (am_in 306 (by decide +kernel) rfl)⟩
set_option maxRecDepth 100000 in
theorem lnX6_85 : am_lnV RX6 85 yX5_readInto cX5_readInto 3 (some .boolean) 1 5 := ⟨am_in 367 rfl rfl, am_in 96 (by decide +kernel) rfl, am_in 366 (by decide +kernel) rfl, am_in 1 (by decide +kernel) rfl, Or.inr ⟨RX6, am_inN 364 (by decide +kernel) rfl⟩, ⟨by decide +kernel, by decide +kernel, by decide +kernel⟩, ⟨TX5, 5, rfl⟩, by decide⟩
theorem flX6_89 : am_fl RX6 89 5 4 := ⟨RX5, TX5, 5, rfl, by decide, Or.inr ⟨RX6, am_inN 128 (by decide +kernel) rfl⟩⟩
theorem flX6_19 : am_fl RX6 19 6 1 := ⟨RX6, TX6, 15, rfl, by decide, Or.inl (am_in 305 (by decide +kernel) rfl)⟩
theorem fp_6_1 : am_fp 6 1 1 := fun C T N h => by cases h; exact ⟨rfl, fun h => absurd h (by decide), fun _ => ⟨"SwallowCount$Land", by decide +kernel⟩⟩
theorem fp_6_2 : am_fp 6 2 1 := fun C T N h => by cases h; exact ⟨rfl, fun h => absurd h (by decide), fun _ => ⟨"SwallowCount$Land", by decide +kernel⟩⟩
theorem flX6_29 : am_fl RX6 29 6 3 := ⟨RX6, TX6, 15, rfl, by decide, Or.inl (am_in 307 (by decide +kernel) rfl)⟩
set_option maxRecDepth 100000 in
theorem lnX6_92 : am_lnV RX6 92 yX1_settle cX1_settle 2 none 1 1 := ⟨am_in 411 rfl rfl, am_in 98 (by decide +kernel) rfl, am_in 410 (by decide +kernel) rfl, am_in 12 (by decide +kernel) rfl, Or.inr ⟨RX6, am_inN 408 (by decide +kernel) rfl⟩, ⟨by decide +kernel, by decide +kernel, by decide +kernel⟩, ⟨TX1, 7, rfl⟩, by decide⟩
theorem flX6_39 : am_fl RX6 39 6 5 := ⟨RX6, TX6, 15, rfl, by decide, Or.inl (am_in 309 (by decide +kernel) rfl)⟩
set_option maxRecDepth 100000 in
theorem lnX6_96 : am_lnV RX6 96 yX2_clear cX2_clear 1 none 0 2 := ⟨am_in 421 rfl rfl, am_in 99 (by decide +kernel) rfl, am_in 420 (by decide +kernel) rfl, am_in 13 (by decide +kernel) rfl, Or.inr ⟨RX6, am_inN 418 (by decide +kernel) rfl⟩, ⟨by decide +kernel, by decide +kernel, by decide +kernel⟩, ⟨TX2, 3, rfl⟩, by decide⟩
theorem flX6_99 : am_fl RX6 99 6 8 := ⟨RX6, TX6, 15, rfl, by decide, Or.inl (am_in 312 (by decide +kernel) rfl)⟩
theorem fp_6_8 : am_fp 6 8 0 := fun C T N h => by cases h; exact ⟨rfl, fun _ => by decide +kernel, fun h => absurd h (by decide)⟩
set_option maxRecDepth 100000 in
theorem lnX6_102 : am_lnV RX6 102 yX6_forgetEntries cX6_forgetEntries 1 none 0 6 := ⟨am_in 425 rfl rfl, am_in 95 (by decide +kernel) rfl, am_in 424 (by decide +kernel) rfl, am_in 14 (by decide +kernel) rfl, Or.inl (am_in 422 (by decide +kernel) rfl), ⟨by decide +kernel, by decide +kernel, by decide +kernel⟩, ⟨TX6, 15, rfl⟩, by decide⟩
theorem flX6_105 : am_fl RX6 105 3 3 := ⟨RX3, TX3, 11, rfl, by decide, Or.inr ⟨RX6, am_inN 158 (by decide +kernel) rfl⟩⟩
theorem flX6_108 : am_fl RX6 108 5 3 := ⟨RX5, TX5, 5, rfl, by decide, Or.inr ⟨RX6, am_inN 126 (by decide +kernel) rfl⟩⟩
theorem flX6_111 : am_fl RX6 111 3 0 := ⟨RX3, TX3, 11, rfl, by decide, Or.inr ⟨RX6, am_inN 149 (by decide +kernel) rfl⟩⟩
theorem flX6_114 : am_fl RX6 114 3 1 := ⟨RX3, TX3, 11, rfl, by decide, Or.inr ⟨RX6, am_inN 153 (by decide +kernel) rfl⟩⟩
theorem flX6_117 : am_fl RX6 117 3 2 := ⟨RX3, TX3, 11, rfl, by decide, Or.inr ⟨RX6, am_inN 156 (by decide +kernel) rfl⟩⟩
theorem flX6_120 : am_fl RX6 120 1 6 := ⟨RX1, TX1, 7, rfl, by decide, Or.inr ⟨RX6, am_inN 230 (by decide +kernel) rfl⟩⟩
set_option maxRecDepth 100000 in
theorem lnX6_123 : am_lnV RX6 123 yX3_rainOf cX3_rainOf 2 (some .int) 1 3 := ⟨am_in 437 rfl rfl, am_in 97 (by decide +kernel) rfl, am_in 436 (by decide +kernel) rfl, am_in 15 (by decide +kernel) rfl, Or.inr ⟨RX6, am_inN 434 (by decide +kernel) rfl⟩, ⟨by decide +kernel, by decide +kernel, by decide +kernel⟩, ⟨TX3, 11, rfl⟩, by decide⟩
theorem flX6_127 : am_fl RX6 127 1 4 := ⟨RX1, TX1, 7, rfl, by decide, Or.inr ⟨RX6, am_inN 224 (by decide +kernel) rfl⟩⟩
theorem flX6_130 : am_fl RX6 130 1 0 := ⟨RX1, TX1, 7, rfl, by decide, Or.inr ⟨RX6, am_inN 214 (by decide +kernel) rfl⟩⟩
set_option maxRecDepth 100000 in
theorem lnX6_133 : am_lnV RX6 133 yX3_allBarns cX3_allBarns 1 (some .int) 0 3 := ⟨am_in 441 rfl rfl, am_in 97 (by decide +kernel) rfl, am_in 440 (by decide +kernel) rfl, am_in 16 (by decide +kernel) rfl, Or.inr ⟨RX6, am_inN 438 (by decide +kernel) rfl⟩, ⟨by decide +kernel, by decide +kernel, by decide +kernel⟩, ⟨TX3, 11, rfl⟩, by decide⟩
set_option maxRecDepth 100000 in
theorem lnX6_137 : am_lnS RX6 137 yX6_sumOver cX6_sumOver 4 (some .int) 2 := ⟨am_in 444 rfl rfl, am_in 95 (by decide +kernel) rfl, am_in 443 (by decide +kernel) rfl, am_in 442 (by decide +kernel) rfl, ⟨by decide +kernel, by decide +kernel, by decide +kernel⟩, by decide⟩
theorem flX6_141 : am_fl RX6 141 1 5 := ⟨RX1, TX1, 7, rfl, by decide, Or.inr ⟨RX6, am_inN 227 (by decide +kernel) rfl⟩⟩
theorem flX6_144 : am_fl RX6 144 1 1 := ⟨RX1, TX1, 7, rfl, by decide, Or.inr ⟨RX6, am_inN 217 (by decide +kernel) rfl⟩⟩
theorem flX6_59 : am_fl RX6 59 6 9 := ⟨RX6, TX6, 15, rfl, by decide, Or.inl (am_in 313 (by decide +kernel) rfl)⟩
theorem flX6_147 : am_fl RX6 147 0 3 := ⟨RX0, TX0, 4, rfl, by decide, Or.inr ⟨RX6, am_inN 294 (by decide +kernel) rfl⟩⟩
theorem flX6_63 : am_fl RX6 63 6 10 := ⟨RX6, TX6, 15, rfl, by decide, Or.inl (am_in 314 (by decide +kernel) rfl)⟩
theorem flX6_66 : am_fl RX6 66 6 11 := ⟨RX6, TX6, 15, rfl, by decide, Or.inl (am_in 315 (by decide +kernel) rfl)⟩
theorem flX6_150 : am_fl RX6 150 2 1 := ⟨RX2, TX2, 3, rfl, by decide, Or.inr ⟨RX6, am_inN 270 (by decide +kernel) rfl⟩⟩
set_option maxRecDepth 100000 in
theorem lnX6_151 : am_lnV RX6 151 yX3_hasBarn cX3_hasBarn 2 (some .boolean) 1 3 := ⟨am_in 452 rfl rfl, am_in 97 (by decide +kernel) rfl, am_in 451 (by decide +kernel) rfl, am_in 17 (by decide +kernel) rfl, Or.inr ⟨RX6, am_inN 449 (by decide +kernel) rfl⟩, ⟨by decide +kernel, by decide +kernel, by decide +kernel⟩, ⟨TX3, 11, rfl⟩, by decide⟩
theorem flX6_155 : am_fl RX6 155 3 5 := ⟨RX3, TX3, 11, rfl, by decide, Or.inr ⟨RX6, am_inN 164 (by decide +kernel) rfl⟩⟩
theorem flX6_158 : am_fl RX6 158 3 6 := ⟨RX3, TX3, 11, rfl, by decide, Or.inr ⟨RX6, am_inN 168 (by decide +kernel) rfl⟩⟩
theorem flX6_161 : am_fl RX6 161 1 2 := ⟨RX1, TX1, 7, rfl, by decide, Or.inr ⟨RX6, am_inN 220 (by decide +kernel) rfl⟩⟩
theorem flX6_164 : am_fl RX6 164 3 9 := ⟨RX3, TX3, 11, rfl, by decide, Or.inr ⟨RX6, am_inN 178 (by decide +kernel) rfl⟩⟩
set_option maxRecDepth 100000 in
theorem lnX6_167 : am_lnV RX6 167 yX1_isShut cX1_isShut 2 (some .boolean) 1 1 := ⟨am_in 457 rfl rfl, am_in 98 (by decide +kernel) rfl, am_in 456 (by decide +kernel) rfl, am_in 18 (by decide +kernel) rfl, Or.inr ⟨RX6, am_inN 454 (by decide +kernel) rfl⟩, ⟨by decide +kernel, by decide +kernel, by decide +kernel⟩, ⟨TX1, 7, rfl⟩, by decide⟩
set_option maxRecDepth 100000 in
theorem lnX6_170 : am_lnV RX6 170 yX6_refusalOfYears cX6_refusalOfYears 2 (some .int) 1 6 := ⟨am_in 465 rfl rfl, am_in 95 (by decide +kernel) rfl, am_in 464 (by decide +kernel) rfl, am_in 19 (by decide +kernel) rfl, Or.inl (am_in 462 (by decide +kernel) rfl), ⟨by decide +kernel, by decide +kernel, by decide +kernel⟩, ⟨TX6, 15, rfl⟩, by decide⟩
set_option maxRecDepth 100000 in
theorem lnX6_173 : am_lnV RX6 173 yX2_remember cX2_remember 2 none 1 2 := ⟨am_in 470 rfl rfl, am_in 99 (by decide +kernel) rfl, am_in 469 (by decide +kernel) rfl, am_in 20 (by decide +kernel) rfl, Or.inr ⟨RX6, am_inN 467 (by decide +kernel) rfl⟩, ⟨by decide +kernel, by decide +kernel, by decide +kernel⟩, ⟨TX2, 3, rfl⟩, by decide⟩
set_option maxRecDepth 100000 in
theorem lnX6_177 : am_lnV RX6 177 yX1_passYear cX1_passYear 5 none 2 1 := ⟨am_in 482 rfl rfl, am_in 98 (by decide +kernel) rfl, am_in 481 (by decide +kernel) rfl, am_in 22 (by decide +kernel) rfl, Or.inr ⟨RX6, am_inN 479 (by decide +kernel) rfl⟩, ⟨by decide +kernel, by decide +kernel, by decide +kernel⟩, ⟨TX1, 7, rfl⟩, by decide⟩
set_option maxRecDepth 100000 in
theorem lnX6_181 : am_lnV RX6 181 yX6_canCarry cX6_canCarry 4 (some .boolean) 3 6 := ⟨am_in 513 rfl rfl, am_in 95 (by decide +kernel) rfl, am_in 512 (by decide +kernel) rfl, am_in 27 (by decide +kernel) rfl, Or.inl (am_in 510 (by decide +kernel) rfl), ⟨by decide +kernel, by decide +kernel, by decide +kernel⟩, ⟨TX6, 15, rfl⟩, by decide⟩
set_option maxRecDepth 100000 in
theorem lnX6_186 : am_lnV RX6 186 yX1_carry cX1_carry 4 none 3 1 := ⟨am_in 517 rfl rfl, am_in 98 (by decide +kernel) rfl, am_in 516 (by decide +kernel) rfl, am_in 28 (by decide +kernel) rfl, Or.inr ⟨RX6, am_inN 514 (by decide +kernel) rfl⟩, ⟨by decide +kernel, by decide +kernel, by decide +kernel⟩, ⟨TX1, 7, rfl⟩, by decide⟩
set_option maxRecDepth 100000 in
theorem lnX6_190 : am_lnV RX6 190 yX1_bringNearer cX1_bringNearer 3 none 2 1 := ⟨am_in 525 rfl rfl, am_in 98 (by decide +kernel) rfl, am_in 524 (by decide +kernel) rfl, am_in 29 (by decide +kernel) rfl, Or.inr ⟨RX6, am_inN 522 (by decide +kernel) rfl⟩, ⟨by decide +kernel, by decide +kernel, by decide +kernel⟩, ⟨TX1, 7, rfl⟩, by decide⟩
set_option maxRecDepth 100000 in
theorem lnX6_194 : am_lnV RX6 194 yX6_drawRain cX6_drawRain 1 (some .int) 0 6 := ⟨am_in 537 rfl rfl, am_in 95 (by decide +kernel) rfl, am_in 536 (by decide +kernel) rfl, am_in 30 (by decide +kernel) rfl, Or.inl (am_in 534 (by decide +kernel) rfl), ⟨by decide +kernel, by decide +kernel, by decide +kernel⟩, ⟨TX6, 15, rfl⟩, by decide⟩
set_option maxRecDepth 100000 in
theorem lnX6_197 : am_lnV RX6 197 yX2_bringBack cX2_bringBack 2 (some .boolean) 1 2 := ⟨am_in 548 rfl rfl, am_in 99 (by decide +kernel) rfl, am_in 547 (by decide +kernel) rfl, am_in 31 (by decide +kernel) rfl, Or.inr ⟨RX6, am_inN 545 (by decide +kernel) rfl⟩, ⟨by decide +kernel, by decide +kernel, by decide +kernel⟩, ⟨TX2, 3, rfl⟩, by decide⟩
set_option maxRecDepth 100000 in
theorem lnX6_201 : am_lnV RX6 201 yX3_hasCounty cX3_hasCounty 2 (some .boolean) 1 3 := ⟨am_in 560 rfl rfl, am_in 97 (by decide +kernel) rfl, am_in 559 (by decide +kernel) rfl, am_in 33 (by decide +kernel) rfl, Or.inr ⟨RX6, am_inN 557 (by decide +kernel) rfl⟩, ⟨by decide +kernel, by decide +kernel, by decide +kernel⟩, ⟨TX3, 11, rfl⟩, by decide⟩
theorem flX6_33 : am_fl RX6 33 6 4 := ⟨RX6, TX6, 15, rfl, by decide, Or.inl (am_in 308 (by decide +kernel) rfl)⟩
set_option maxRecDepth 100000 in
theorem lnX6_204 : am_lnV RX6 204 yX1_copyFrom cX1_copyFrom 2 none 1 1 := ⟨am_in 564 rfl rfl, am_in 98 (by decide +kernel) rfl, am_in 563 (by decide +kernel) rfl, am_in 34 (by decide +kernel) rfl, Or.inr ⟨RX6, am_inN 561 (by decide +kernel) rfl⟩, ⟨by decide +kernel, by decide +kernel, by decide +kernel⟩, ⟨TX1, 7, rfl⟩, by decide⟩
set_option maxRecDepth 100000 in
theorem lnX6_207 : am_lnV RX6 207 yX6_passTrialYear cX6_passTrialYear 1 none 0 6 := ⟨am_in 568 rfl rfl, am_in 95 (by decide +kernel) rfl, am_in 567 (by decide +kernel) rfl, am_in 35 (by decide +kernel) rfl, Or.inl (am_in 565 (by decide +kernel) rfl), ⟨by decide +kernel, by decide +kernel, by decide +kernel⟩, ⟨TX6, 15, rfl⟩, by decide⟩
set_option maxRecDepth 100000 in
theorem lnX6_210 : am_lnV RX6 210 yX6_soulsOf cX6_soulsOf 3 (some .int) 2 6 := ⟨am_in 572 rfl rfl, am_in 95 (by decide +kernel) rfl, am_in 571 (by decide +kernel) rfl, am_in 36 (by decide +kernel) rfl, Or.inl (am_in 569 (by decide +kernel) rfl), ⟨by decide +kernel, by decide +kernel, by decide +kernel⟩, ⟨TX6, 15, rfl⟩, by decide⟩
set_option maxRecDepth 100000 in
theorem lnX6_214 : am_lnV RX6 214 yX3_seatsFor cX3_seatsFor 2 (some .int) 1 3 := ⟨am_in 580 rfl rfl, am_in 97 (by decide +kernel) rfl, am_in 579 (by decide +kernel) rfl, am_in 38 (by decide +kernel) rfl, Or.inr ⟨RX6, am_inN 577 (by decide +kernel) rfl⟩, ⟨by decide +kernel, by decide +kernel, by decide +kernel⟩, ⟨TX3, 11, rfl⟩, by decide⟩
set_option maxRecDepth 100000 in
theorem lnX6_217 : am_lnV RX6 217 yX3_menFor cX3_menFor 2 (some .int) 1 3 := ⟨am_in 584 rfl rfl, am_in 97 (by decide +kernel) rfl, am_in 583 (by decide +kernel) rfl, am_in 39 (by decide +kernel) rfl, Or.inr ⟨RX6, am_inN 581 (by decide +kernel) rfl⟩, ⟨by decide +kernel, by decide +kernel, by decide +kernel⟩, ⟨TX3, 11, rfl⟩, by decide⟩
set_option maxRecDepth 100000 in
theorem lnX6_220 : am_lnV RX6 220 yX3_barnsOf cX3_barnsOf 4 (some .int) 1 3 := ⟨am_in 576 rfl rfl, am_in 97 (by decide +kernel) rfl, am_in 575 (by decide +kernel) rfl, am_in 37 (by decide +kernel) rfl, Or.inr ⟨RX6, am_inN 573 (by decide +kernel) rfl⟩, ⟨by decide +kernel, by decide +kernel, by decide +kernel⟩, ⟨TX3, 11, rfl⟩, by decide⟩
set_option maxRecDepth 100000 in
theorem lnX6_223 : am_lnS RX6 223 yJ6_bitCount_0f7a4 cJ6_bitCount_0f7a4 1 (some .int) 1 := ⟨am_in 591 rfl rfl, am_in 106 (by decide +kernel) rfl, am_in 590 (by decide +kernel) rfl, am_in 589 (by decide +kernel) rfl, ⟨by decide +kernel, by decide +kernel, by decide +kernel⟩, by decide⟩
set_option maxRecDepth 100000 in
theorem lnX6_228 : am_lnV RX6 228 yX6_leavingServes cX6_leavingServes 6 (some .boolean) 4 6 := ⟨am_in 598 rfl rfl, am_in 95 (by decide +kernel) rfl, am_in 597 (by decide +kernel) rfl, am_in 40 (by decide +kernel) rfl, Or.inl (am_in 595 (by decide +kernel) rfl), ⟨by decide +kernel, by decide +kernel, by decide +kernel⟩, ⟨TX6, 15, rfl⟩, by decide⟩
set_option maxRecDepth 100000 in
theorem lnX6_232 : am_lnV RX6 232 yX6_playAllPairs cX6_playAllPairs 5 none 2 6 := ⟨am_in 614 rfl rfl, am_in 95 (by decide +kernel) rfl, am_in 613 (by decide +kernel) rfl, am_in 42 (by decide +kernel) rfl, Or.inl (am_in 611 (by decide +kernel) rfl), ⟨by decide +kernel, by decide +kernel, by decide +kernel⟩, ⟨TX6, 15, rfl⟩, by decide⟩
set_option maxRecDepth 100000 in
theorem lnX6_235 : am_lnV RX6 235 yX6_nobodyWouldLeave cX6_nobodyWouldLeave 6 (some .boolean) 2 6 := ⟨am_in 626 rfl rfl, am_in 95 (by decide +kernel) rfl, am_in 625 (by decide +kernel) rfl, am_in 45 (by decide +kernel) rfl, Or.inl (am_in 623 (by decide +kernel) rfl), ⟨by decide +kernel, by decide +kernel, by decide +kernel⟩, ⟨TX6, 15, rfl⟩, by decide⟩
set_option maxRecDepth 100000 in
theorem lnX6_239 : am_lnV RX6 239 yX6_findLeastMud cX6_findLeastMud 4 (some .int) 1 6 := ⟨am_in 642 rfl rfl, am_in 95 (by decide +kernel) rfl, am_in 641 (by decide +kernel) rfl, am_in 48 (by decide +kernel) rfl, Or.inl (am_in 639 (by decide +kernel) rfl), ⟨by decide +kernel, by decide +kernel, by decide +kernel⟩, ⟨TX6, 15, rfl⟩, by decide⟩
theorem flX6_69 : am_fl RX6 69 6 12 := ⟨RX6, TX6, 15, rfl, by decide, Or.inl (am_in 316 (by decide +kernel) rfl)⟩
set_option maxRecDepth 100000 in
theorem lnX6_242 : am_lnV RX6 242 yX6_votesOf cX6_votesOf 2 (some .int) 1 6 := ⟨am_in 663 rfl rfl, am_in 95 (by decide +kernel) rfl, am_in 662 (by decide +kernel) rfl, am_in 51 (by decide +kernel) rfl, Or.inl (am_in 660 (by decide +kernel) rfl), ⟨by decide +kernel, by decide +kernel, by decide +kernel⟩, ⟨TX6, 15, rfl⟩, by decide⟩
set_option maxRecDepth 100000 in
theorem lnX6_249 : am_lnV RX6 249 yX0_add cX0_add 3 (some .int) 2 0 := ⟨am_in 681 rfl rfl, am_in 102 (by decide +kernel) rfl, am_in 680 (by decide +kernel) rfl, am_in 52 (by decide +kernel) rfl, Or.inr ⟨RX6, am_inN 678 (by decide +kernel) rfl⟩, ⟨by decide +kernel, by decide +kernel, by decide +kernel⟩, ⟨TX0, 4, rfl⟩, by decide⟩
set_option maxRecDepth 100000 in
theorem lnX6_253 : am_lnV RX6 253 yX6_wouldExplain cX6_wouldExplain 5 (some .boolean) 3 6 := ⟨am_in 690 rfl rfl, am_in 95 (by decide +kernel) rfl, am_in 689 (by decide +kernel) rfl, am_in 53 (by decide +kernel) rfl, Or.inl (am_in 687 (by decide +kernel) rfl), ⟨by decide +kernel, by decide +kernel, by decide +kernel⟩, ⟨TX6, 15, rfl⟩, by decide⟩
set_option maxRecDepth 100000 in
theorem lnX6_256 : am_lnV RX6 256 yX6_leastIn cX6_leastIn 6 (some .int) 1 6 := ⟨am_in 702 rfl rfl, am_in 95 (by decide +kernel) rfl, am_in 701 (by decide +kernel) rfl, am_in 54 (by decide +kernel) rfl, Or.inl (am_in 699 (by decide +kernel) rfl), ⟨by decide +kernel, by decide +kernel, by decide +kernel⟩, ⟨TX6, 15, rfl⟩, by decide⟩
set_option maxRecDepth 100000 in
theorem lnX6_259 : am_lnV RX6 259 yX6_mostIn cX6_mostIn 4 (some .int) 1 6 := ⟨am_in 707 rfl rfl, am_in 95 (by decide +kernel) rfl, am_in 706 (by decide +kernel) rfl, am_in 55 (by decide +kernel) rfl, Or.inl (am_in 704 (by decide +kernel) rfl), ⟨by decide +kernel, by decide +kernel, by decide +kernel⟩, ⟨TX6, 15, rfl⟩, by decide⟩
theorem flX6_262 : am_fl RX6 262 0 1 := ⟨RX0, TX0, 4, rfl, by decide, Or.inr ⟨RX6, am_inN 290 (by decide +kernel) rfl⟩⟩
theorem flX6_265 : am_fl RX6 265 0 2 := ⟨RX0, TX0, 4, rfl, by decide, Or.inr ⟨RX6, am_inN 292 (by decide +kernel) rfl⟩⟩
theorem flX6_268 : am_fl RX6 268 6 14 := ⟨RX6, TX6, 15, rfl, by decide, Or.inl (am_in 318 (by decide +kernel) rfl)⟩
theorem fp_6_14 : am_fp 6 14 0 := fun C T N h => by cases h; exact ⟨rfl, fun _ => by decide +kernel, fun h => absurd h (by decide)⟩
theorem flX6_48 : am_fl RX6 48 6 6 := ⟨RX6, TX6, 15, rfl, by decide, Or.inl (am_in 310 (by decide +kernel) rfl)⟩
set_option maxRecDepth 100000 in
theorem lnX6_271 : am_lnV RX6 271 yX4_put cX4_put 4 none 2 4 := ⟨am_in 474 rfl rfl, am_in 100 (by decide +kernel) rfl, am_in 473 (by decide +kernel) rfl, am_in 21 (by decide +kernel) rfl, Or.inr ⟨RX6, am_inN 732 (by decide +kernel) rfl⟩, ⟨by decide +kernel, by decide +kernel, by decide +kernel⟩, ⟨TX4, 2, rfl⟩, by decide⟩
theorem flX6_52 : am_fl RX6 52 6 7 := ⟨RX6, TX6, 15, rfl, by decide, Or.inl (am_in 311 (by decide +kernel) rfl)⟩
set_option maxRecDepth 100000 in
theorem lnX6_275 : am_lnV RX6 275 yX4_take cX4_take 4 none 2 4 := ⟨am_in 552 rfl rfl, am_in 100 (by decide +kernel) rfl, am_in 551 (by decide +kernel) rfl, am_in 32 (by decide +kernel) rfl, Or.inr ⟨RX6, am_inN 737 (by decide +kernel) rfl⟩, ⟨by decide +kernel, by decide +kernel, by decide +kernel⟩, ⟨TX4, 2, rfl⟩, by decide⟩
set_option maxRecDepth 100000 in
theorem lnX6_281 : am_lnV RX6 281 yX6_trialSeats cX6_trialSeats 2 (some .int) 1 6 := ⟨am_in 602 rfl rfl, am_in 95 (by decide +kernel) rfl, am_in 601 (by decide +kernel) rfl, am_in 41 (by decide +kernel) rfl, Or.inl (am_in 599 (by decide +kernel) rfl), ⟨by decide +kernel, by decide +kernel, by decide +kernel⟩, ⟨TX6, 15, rfl⟩, by decide⟩
set_option maxRecDepth 100000 in
theorem lnX6_284 : am_lnV RX6 284 yX6_digPools cX6_digPools 4 none 2 6 := ⟨am_in 618 rfl rfl, am_in 95 (by decide +kernel) rfl, am_in 617 (by decide +kernel) rfl, am_in 43 (by decide +kernel) rfl, Or.inl (am_in 615 (by decide +kernel) rfl), ⟨by decide +kernel, by decide +kernel, by decide +kernel⟩, ⟨TX6, 15, rfl⟩, by decide⟩
set_option maxRecDepth 100000 in
theorem lnX6_287 : am_lnV RX6 287 yX6_makeSmoke cX6_makeSmoke 4 none 2 6 := ⟨am_in 622 rfl rfl, am_in 95 (by decide +kernel) rfl, am_in 621 (by decide +kernel) rfl, am_in 44 (by decide +kernel) rfl, Or.inl (am_in 619 (by decide +kernel) rfl), ⟨by decide +kernel, by decide +kernel, by decide +kernel⟩, ⟨TX6, 15, rfl⟩, by decide⟩
theorem flX6_72 : am_fl RX6 72 6 13 := ⟨RX6, TX6, 15, rfl, by decide, Or.inl (am_in 317 (by decide +kernel) rfl)⟩
set_option maxRecDepth 100000 in
theorem lnX6_290 : am_lnV RX6 290 yX6_gainOfFirst cX6_gainOfFirst 3 (some .int) 2 6 := ⟨am_in 630 rfl rfl, am_in 95 (by decide +kernel) rfl, am_in 629 (by decide +kernel) rfl, am_in 46 (by decide +kernel) rfl, Or.inl (am_in 627 (by decide +kernel) rfl), ⟨by decide +kernel, by decide +kernel, by decide +kernel⟩, ⟨TX6, 15, rfl⟩, by decide⟩
set_option maxRecDepth 100000 in
theorem lnX6_293 : am_lnV RX6 293 yX6_gainOfOther cX6_gainOfOther 3 (some .int) 2 6 := ⟨am_in 634 rfl rfl, am_in 95 (by decide +kernel) rfl, am_in 633 (by decide +kernel) rfl, am_in 47 (by decide +kernel) rfl, Or.inl (am_in 631 (by decide +kernel) rfl), ⟨by decide +kernel, by decide +kernel, by decide +kernel⟩, ⟨TX6, 15, rfl⟩, by decide⟩
set_option maxRecDepth 100000 in
theorem lnX6_296 : am_lnS RX6 296 yJ7_fill_53178 cJ7_fill_53178 4 none 2 := ⟨am_in 417 rfl rfl, am_in 105 (by decide +kernel) rfl, am_in 416 (by decide +kernel) rfl, am_in 643 (by decide +kernel) rfl, ⟨by decide +kernel, by decide +kernel, by decide +kernel⟩, by decide⟩
set_option maxRecDepth 100000 in
theorem lnX6_302 : am_lnV RX6 302 yX6_seatsWithMud cX6_seatsWithMud 3 (some .int) 1 6 := ⟨am_in 647 rfl rfl, am_in 95 (by decide +kernel) rfl, am_in 646 (by decide +kernel) rfl, am_in 49 (by decide +kernel) rfl, Or.inl (am_in 644 (by decide +kernel) rfl), ⟨by decide +kernel, by decide +kernel, by decide +kernel⟩, ⟨TX6, 15, rfl⟩, by decide⟩
set_option maxRecDepth 100000 in
theorem lnX6_305 : am_lnS RX6 305 yX6_sharesServe cX6_sharesServe 7 (some .boolean) 5 := ⟨am_in 650 rfl rfl, am_in 95 (by decide +kernel) rfl, am_in 649 (by decide +kernel) rfl, am_in 648 (by decide +kernel) rfl, ⟨by decide +kernel, by decide +kernel, by decide +kernel⟩, by decide⟩
set_option maxRecDepth 100000 in
theorem lnX6_309 : am_lnV RX6 309 yX6_usefulMud cX6_usefulMud 4 (some .int) 2 6 := ⟨am_in 654 rfl rfl, am_in 95 (by decide +kernel) rfl, am_in 653 (by decide +kernel) rfl, am_in 50 (by decide +kernel) rfl, Or.inl (am_in 651 (by decide +kernel) rfl), ⟨by decide +kernel, by decide +kernel, by decide +kernel⟩, ⟨TX6, 15, rfl⟩, by decide⟩
theorem flX7_96 : am_fl RX7 96 7 3 := ⟨RX7, TX7, 46, rfl, by decide, Or.inl (am_in 747 (by decide +kernel) rfl)⟩
set_option maxRecDepth 100000 in
theorem lnX7_99 : am_lnS RX7 99 yX7_in cX7_in 6 (some .boolean) 3 := ⟨am_in 891 rfl rfl, am_in 103 (by decide +kernel) rfl, am_in 890 (by decide +kernel) rfl, am_in 889 (by decide +kernel) rfl, ⟨by decide +kernel, by decide +kernel, by decide +kernel⟩, by decide⟩
theorem flX7_103 : am_fl RX7 103 7 0 := ⟨RX7, TX7, 46, rfl, by decide, Or.inl (am_in 744 (by decide +kernel) rfl)⟩
theorem flX7_109 : am_fl RX7 109 7 12 := ⟨RX7, TX7, 46, rfl, by decide, Or.inl (am_in 756 (by decide +kernel) rfl)⟩
theorem flX7_29 : am_fl RX7 29 7 11 := ⟨RX7, TX7, 46, rfl, by decide, Or.inl (am_in 755 (by decide +kernel) rfl)⟩
theorem fp_7_12 : am_fp 7 12 0 := fun C T N h => by cases h; exact ⟨rfl, fun _ => by decide +kernel, fun h => absurd h (by decide)⟩
theorem flX7_113 : am_fl RX7 113 7 14 := ⟨RX7, TX7, 46, rfl, by decide, Or.inl (am_in 758 (by decide +kernel) rfl)⟩
theorem fp_7_14 : am_fp 7 14 0 := fun C T N h => by cases h; exact ⟨rfl, fun _ => by decide +kernel, fun h => absurd h (by decide)⟩
theorem flX7_32 : am_fl RX7 32 7 13 := ⟨RX7, TX7, 46, rfl, by decide, Or.inl (am_in 757 (by decide +kernel) rfl)⟩
theorem fp_7_13 : am_fp 7 13 0 := fun C T N h => by cases h; exact ⟨rfl, fun _ => by decide +kernel, fun h => absurd h (by decide)⟩
set_option maxRecDepth 100000 in
theorem lnX7_116 : am_lnV RX7 116 yX7_here cX7_here 1 (some .int) 0 7 := ⟨am_in 901 rfl rfl, am_in 103 (by decide +kernel) rfl, am_in 900 (by decide +kernel) rfl, am_in 56 (by decide +kernel) rfl, Or.inl (am_in 898 (by decide +kernel) rfl), ⟨by decide +kernel, by decide +kernel, by decide +kernel⟩, ⟨TX7, 46, rfl⟩, by decide⟩
set_option maxRecDepth 100000 in
theorem lnX7_124 : am_lnV RX7 124 yX7_fails cX7_fails 3 (some .int) 2 7 := ⟨am_in 909 rfl rfl, am_in 103 (by decide +kernel) rfl, am_in 908 (by decide +kernel) rfl, am_in 58 (by decide +kernel) rfl, Or.inl (am_in 906 (by decide +kernel) rfl), ⟨by decide +kernel, by decide +kernel, by decide +kernel⟩, ⟨TX7, 46, rfl⟩, by decide⟩
theorem flX7_128 : am_fl RX7 128 7 16 := ⟨RX7, TX7, 46, rfl, by decide, Or.inl (am_in 760 (by decide +kernel) rfl)⟩
theorem fp_7_16 : am_fp 7 16 0 := fun C T N h => by cases h; exact ⟨rfl, fun _ => by decide +kernel, fun h => absurd h (by decide)⟩
theorem flX7_131 : am_fl RX7 131 7 15 := ⟨RX7, TX7, 46, rfl, by decide, Or.inl (am_in 759 (by decide +kernel) rfl)⟩
theorem fp_7_15 : am_fp 7 15 0 := fun C T N h => by cases h; exact ⟨rfl, fun _ => by decide +kernel, fun h => absurd h (by decide)⟩
set_option maxRecDepth 100000 in
theorem lnX7_134 : am_lnV RX7 134 yX7_takeNumber cX7_takeNumber 4 (some .int) 2 7 := ⟨am_in 921 rfl rfl, am_in 103 (by decide +kernel) rfl, am_in 920 (by decide +kernel) rfl, am_in 61 (by decide +kernel) rfl, Or.inl (am_in 918 (by decide +kernel) rfl), ⟨by decide +kernel, by decide +kernel, by decide +kernel⟩, ⟨TX7, 46, rfl⟩, by decide⟩
theorem flX7_35 : am_fl RX7 35 7 17 := ⟨RX7, TX7, 46, rfl, by decide, Or.inl (am_in 761 (by decide +kernel) rfl)⟩
set_option maxRecDepth 100000 in
theorem lnX7_137 : am_lnV RX7 137 yX7_into cX7_into 6 (some .int) 4 7 := ⟨am_in 917 rfl rfl, am_in 103 (by decide +kernel) rfl, am_in 916 (by decide +kernel) rfl, am_in 60 (by decide +kernel) rfl, Or.inl (am_in 914 (by decide +kernel) rfl), ⟨by decide +kernel, by decide +kernel, by decide +kernel⟩, ⟨TX7, 46, rfl⟩, by decide⟩
theorem flX7_141 : am_fl RX7 141 7 18 := ⟨RX7, TX7, 46, rfl, by decide, Or.inl (am_in 762 (by decide +kernel) rfl)⟩
theorem fp_7_18 : am_fp 7 18 0 := fun C T N h => by cases h; exact ⟨rfl, fun _ => by decide +kernel, fun h => absurd h (by decide)⟩
theorem flX7_38 : am_fl RX7 38 7 19 := ⟨RX7, TX7, 46, rfl, by decide, Or.inl (am_in 763 (by decide +kernel) rfl)⟩
theorem flX7_41 : am_fl RX7 41 7 20 := ⟨RX7, TX7, 46, rfl, by decide, Or.inl (am_in 764 (by decide +kernel) rfl)⟩
theorem flX7_44 : am_fl RX7 44 7 21 := ⟨RX7, TX7, 46, rfl, by decide, Or.inl (am_in 765 (by decide +kernel) rfl)⟩
theorem flX7_47 : am_fl RX7 47 7 22 := ⟨RX7, TX7, 46, rfl, by decide, Or.inl (am_in 766 (by decide +kernel) rfl)⟩
theorem flX7_50 : am_fl RX7 50 7 23 := ⟨RX7, TX7, 46, rfl, by decide, Or.inl (am_in 767 (by decide +kernel) rfl)⟩
theorem flX7_53 : am_fl RX7 53 7 25 := ⟨RX7, TX7, 46, rfl, by decide, Or.inl (am_in 769 (by decide +kernel) rfl)⟩
theorem flX7_144 : am_fl RX7 144 7 24 := ⟨RX7, TX7, 46, rfl, by decide, Or.inl (am_in 768 (by decide +kernel) rfl)⟩
theorem fp_7_24 : am_fp 7 24 0 := fun C T N h => by cases h; exact ⟨rfl, fun _ => by decide +kernel, fun h => absurd h (by decide)⟩
set_option maxRecDepth 100000 in
theorem lnX7_147 : am_lnV RX7 147 yX7_takeTreaty cX7_takeTreaty 2 (some .int) 0 7 := ⟨am_in 913 rfl rfl, am_in 103 (by decide +kernel) rfl, am_in 912 (by decide +kernel) rfl, am_in 59 (by decide +kernel) rfl, Or.inl (am_in 910 (by decide +kernel) rfl), ⟨by decide +kernel, by decide +kernel, by decide +kernel⟩, ⟨TX7, 46, rfl⟩, by decide⟩
set_option maxRecDepth 100000 in
theorem lnX7_150 : am_lnV RX7 150 yX7_takeBarn cX7_takeBarn 3 (some .int) 0 7 := ⟨am_in 927 rfl rfl, am_in 103 (by decide +kernel) rfl, am_in 926 (by decide +kernel) rfl, am_in 62 (by decide +kernel) rfl, Or.inl (am_in 924 (by decide +kernel) rfl), ⟨by decide +kernel, by decide +kernel, by decide +kernel⟩, ⟨TX7, 46, rfl⟩, by decide⟩
set_option maxRecDepth 100000 in
theorem lnX7_153 : am_lnV RX7 153 yX7_takeRains cX7_takeRains 2 (some .int) 0 7 := ⟨am_in 931 rfl rfl, am_in 103 (by decide +kernel) rfl, am_in 930 (by decide +kernel) rfl, am_in 63 (by decide +kernel) rfl, Or.inl (am_in 928 (by decide +kernel) rfl), ⟨by decide +kernel, by decide +kernel, by decide +kernel⟩, ⟨TX7, 46, rfl⟩, by decide⟩
theorem fp_7_0 : am_fp 7 0 0 := fun C T N h => by cases h; exact ⟨rfl, fun _ => by decide +kernel, fun h => absurd h (by decide)⟩
theorem flX7_156 : am_fl RX7 156 7 1 := ⟨RX7, TX7, 46, rfl, by decide, Or.inl (am_in 745 (by decide +kernel) rfl)⟩
theorem fp_7_1 : am_fp 7 1 0 := fun C T N h => by cases h; exact ⟨rfl, fun _ => by decide +kernel, fun h => absurd h (by decide)⟩
theorem flX7_159 : am_fl RX7 159 7 2 := ⟨RX7, TX7, 46, rfl, by decide, Or.inl (am_in 746 (by decide +kernel) rfl)⟩
theorem fp_7_2 : am_fp 7 2 0 := fun C T N h => by cases h; exact ⟨rfl, fun _ => by decide +kernel, fun h => absurd h (by decide)⟩
theorem fp_7_3 : am_fp 7 3 0 := fun C T N h => by cases h; exact ⟨rfl, fun _ => by decide +kernel, fun h => absurd h (by decide)⟩
theorem flX7_19 : am_fl RX7 19 7 7 := ⟨RX7, TX7, 46, rfl, by decide, Or.inl (am_in 751 (by decide +kernel) rfl)⟩
theorem fp_7_7 : am_fp 7 7 0 := fun C T N h => by cases h; exact ⟨rfl, fun _ => by decide +kernel, fun h => absurd h (by decide)⟩
theorem flX7_23 : am_fl RX7 23 7 8 := ⟨RX7, TX7, 46, rfl, by decide, Or.inl (am_in 752 (by decide +kernel) rfl)⟩
theorem flX7_26 : am_fl RX7 26 7 9 := ⟨RX7, TX7, 46, rfl, by decide, Or.inl (am_in 753 (by decide +kernel) rfl)⟩
theorem flX7_7 : am_fl RX7 7 7 4 := ⟨RX7, TX7, 46, rfl, by decide, Or.inl (am_in 748 (by decide +kernel) rfl)⟩
theorem flX7_13 : am_fl RX7 13 7 5 := ⟨RX7, TX7, 46, rfl, by decide, Or.inl (am_in 749 (by decide +kernel) rfl)⟩
theorem flX7_16 : am_fl RX7 16 7 6 := ⟨RX7, TX7, 46, rfl, by decide, Or.inl (am_in 750 (by decide +kernel) rfl)⟩
set_option maxRecDepth 100000 in
theorem lnX7_162 : am_lnV RX7 162 yX7_takeClause cX7_takeClause 5 (some .int) 0 7 := ⟨am_in 905 rfl rfl, am_in 103 (by decide +kernel) rfl, am_in 904 (by decide +kernel) rfl, am_in 57 (by decide +kernel) rfl, Or.inl (am_in 902 (by decide +kernel) rfl), ⟨by decide +kernel, by decide +kernel, by decide +kernel⟩, ⟨TX7, 46, rfl⟩, by decide⟩
set_option maxRecDepth 100000 in
theorem lnX7_165 : am_lnV RX7 165 yX7_takeRead cX7_takeRead 2 none 0 7 := ⟨am_in 935 rfl rfl, am_in 103 (by decide +kernel) rfl, am_in 934 (by decide +kernel) rfl, am_in 64 (by decide +kernel) rfl, Or.inl (am_in 932 (by decide +kernel) rfl), ⟨by decide +kernel, by decide +kernel, by decide +kernel⟩, ⟨TX7, 46, rfl⟩, by decide⟩
theorem flX7_168 : am_fl RX7 168 7 33 := ⟨RX7, TX7, 46, rfl, by decide, Or.inl (am_in 777 (by decide +kernel) rfl)⟩
theorem fp_7_33 : am_fp 7 33 0 := fun C T N h => by cases h; exact ⟨rfl, fun _ => by decide +kernel, fun h => absurd h (by decide)⟩
theorem flX7_171 : am_fl RX7 171 7 36 := ⟨RX7, TX7, 46, rfl, by decide, Or.inl (am_in 780 (by decide +kernel) rfl)⟩
theorem fp_7_36 : am_fp 7 36 0 := fun C T N h => by cases h; exact ⟨rfl, fun _ => by decide +kernel, fun h => absurd h (by decide)⟩
theorem flX7_174 : am_fl RX7 174 7 41 := ⟨RX7, TX7, 46, rfl, by decide, Or.inl (am_in 785 (by decide +kernel) rfl)⟩
theorem fp_7_41 : am_fp 7 41 0 := fun C T N h => by cases h; exact ⟨rfl, fun _ => by decide +kernel, fun h => absurd h (by decide)⟩
theorem flX7_177 : am_fl RX7 177 7 27 := ⟨RX7, TX7, 46, rfl, by decide, Or.inl (am_in 771 (by decide +kernel) rfl)⟩
theorem fp_7_27 : am_fp 7 27 0 := fun C T N h => by cases h; exact ⟨rfl, fun _ => by decide +kernel, fun h => absurd h (by decide)⟩
theorem flX7_92 : am_fl RX7 92 7 45 := ⟨RX7, TX7, 46, rfl, by decide, Or.inl (am_in 789 (by decide +kernel) rfl)⟩
set_option maxRecDepth 100000 in
theorem lnX7_180 : am_lnV RX7 180 yX7_sumOf cX7_sumOf 4 (some .int) 1 7 := ⟨am_in 947 rfl rfl, am_in 103 (by decide +kernel) rfl, am_in 946 (by decide +kernel) rfl, am_in 65 (by decide +kernel) rfl, Or.inl (am_in 944 (by decide +kernel) rfl), ⟨by decide +kernel, by decide +kernel, by decide +kernel⟩, ⟨TX7, 46, rfl⟩, by decide⟩
set_option maxRecDepth 100000 in
theorem lnX7_184 : am_lnV RX7 184 yX7_isBarn cX7_isBarn 2 (some .boolean) 1 7 := ⟨am_in 955 rfl rfl, am_in 103 (by decide +kernel) rfl, am_in 954 (by decide +kernel) rfl, am_in 66 (by decide +kernel) rfl, Or.inl (am_in 952 (by decide +kernel) rfl), ⟨by decide +kernel, by decide +kernel, by decide +kernel⟩, ⟨TX7, 46, rfl⟩, by decide⟩
set_option maxRecDepth 100000 in
theorem lnX7_189 : am_lnS RX7 189 yX7_has cX7_has 2 (some .boolean) 2 := ⟨am_in 989 rfl rfl, am_in 103 (by decide +kernel) rfl, am_in 988 (by decide +kernel) rfl, am_in 987 (by decide +kernel) rfl, ⟨by decide +kernel, by decide +kernel, by decide +kernel⟩, by decide⟩
set_option maxRecDepth 100000 in
theorem lnX7_193 : am_lnV RX7 193 yX7_youngOf cX7_youngOf 5 (some .int) 2 7 := ⟨am_in 993 rfl rfl, am_in 103 (by decide +kernel) rfl, am_in 992 (by decide +kernel) rfl, am_in 73 (by decide +kernel) rfl, Or.inl (am_in 990 (by decide +kernel) rfl), ⟨by decide +kernel, by decide +kernel, by decide +kernel⟩, ⟨TX7, 46, rfl⟩, by decide⟩
set_option maxRecDepth 100000 in
theorem lnX7_196 : am_lnS RX7 196 yX7_atMost cX7_atMost 2 (some .int) 2 := ⟨am_in 996 rfl rfl, am_in 103 (by decide +kernel) rfl, am_in 995 (by decide +kernel) rfl, am_in 994 (by decide +kernel) rfl, ⟨by decide +kernel, by decide +kernel, by decide +kernel⟩, by decide⟩
theorem flX7_56 : am_fl RX7 56 7 26 := ⟨RX7, TX7, 46, rfl, by decide, Or.inl (am_in 770 (by decide +kernel) rfl)⟩
set_option maxRecDepth 100000 in
theorem lnX7_199 : am_lnV RX7 199 yX7_takeCat cX7_takeCat 3 none 1 7 := ⟨am_in 982 rfl rfl, am_in 103 (by decide +kernel) rfl, am_in 981 (by decide +kernel) rfl, am_in 71 (by decide +kernel) rfl, Or.inl (am_in 979 (by decide +kernel) rfl), ⟨by decide +kernel, by decide +kernel, by decide +kernel⟩, ⟨TX7, 46, rfl⟩, by decide⟩
set_option maxRecDepth 100000 in
theorem lnX7_203 : am_lnV RX7 203 yX7_breed cX7_breed 5 none 2 7 := ⟨am_in 986 rfl rfl, am_in 103 (by decide +kernel) rfl, am_in 985 (by decide +kernel) rfl, am_in 72 (by decide +kernel) rfl, Or.inl (am_in 983 (by decide +kernel) rfl), ⟨by decide +kernel, by decide +kernel, by decide +kernel⟩, ⟨TX7, 46, rfl⟩, by decide⟩
set_option maxRecDepth 100000 in
theorem lnX7_207 : am_lnV RX7 207 yX7_house cX7_house 4 none 1 7 := ⟨am_in 1000 rfl rfl, am_in 103 (by decide +kernel) rfl, am_in 999 (by decide +kernel) rfl, am_in 74 (by decide +kernel) rfl, Or.inl (am_in 997 (by decide +kernel) rfl), ⟨by decide +kernel, by decide +kernel, by decide +kernel⟩, ⟨TX7, 46, rfl⟩, by decide⟩
set_option maxRecDepth 100000 in
theorem lnX7_210 : am_lnV RX7 210 yX7_passBy cX7_passBy 4 none 1 7 := ⟨am_in 978 rfl rfl, am_in 103 (by decide +kernel) rfl, am_in 977 (by decide +kernel) rfl, am_in 70 (by decide +kernel) rfl, Or.inl (am_in 975 (by decide +kernel) rfl), ⟨by decide +kernel, by decide +kernel, by decide +kernel⟩, ⟨TX7, 46, rfl⟩, by decide⟩
theorem flX7_59 : am_fl RX7 59 7 28 := ⟨RX7, TX7, 46, rfl, by decide, Or.inl (am_in 772 (by decide +kernel) rfl)⟩
set_option maxRecDepth 100000 in
theorem lnX7_216 : am_lnV RX7 216 yX7_yearsRefused cX7_yearsRefused 2 (some .int) 1 7 := ⟨am_in 964 rfl rfl, am_in 103 (by decide +kernel) rfl, am_in 963 (by decide +kernel) rfl, am_in 67 (by decide +kernel) rfl, Or.inl (am_in 961 (by decide +kernel) rfl), ⟨by decide +kernel, by decide +kernel, by decide +kernel⟩, ⟨TX7, 46, rfl⟩, by decide⟩
set_option maxRecDepth 100000 in
theorem lnX7_219 : am_lnV RX7 219 yX7_remember cX7_remember 2 none 0 7 := ⟨am_in 970 rfl rfl, am_in 103 (by decide +kernel) rfl, am_in 969 (by decide +kernel) rfl, am_in 68 (by decide +kernel) rfl, Or.inl (am_in 967 (by decide +kernel) rfl), ⟨by decide +kernel, by decide +kernel, by decide +kernel⟩, ⟨TX7, 46, rfl⟩, by decide⟩
set_option maxRecDepth 100000 in
theorem lnX7_222 : am_lnV RX7 222 yX7_pass cX7_pass 1 none 0 7 := ⟨am_in 974 rfl rfl, am_in 103 (by decide +kernel) rfl, am_in 973 (by decide +kernel) rfl, am_in 69 (by decide +kernel) rfl, Or.inl (am_in 971 (by decide +kernel) rfl), ⟨by decide +kernel, by decide +kernel, by decide +kernel⟩, ⟨TX7, 46, rfl⟩, by decide⟩
set_option maxRecDepth 100000 in
theorem lnX7_227 : am_lnV RX7 227 yX7_canMove cX7_canMove 4 (some .boolean) 3 7 := ⟨am_in 1013 rfl rfl, am_in 103 (by decide +kernel) rfl, am_in 1012 (by decide +kernel) rfl, am_in 75 (by decide +kernel) rfl, Or.inl (am_in 1010 (by decide +kernel) rfl), ⟨by decide +kernel, by decide +kernel, by decide +kernel⟩, ⟨TX7, 46, rfl⟩, by decide⟩
set_option maxRecDepth 100000 in
theorem lnX7_231 : am_lnV RX7 231 yX7_moveNow cX7_moveNow 4 none 3 7 := ⟨am_in 1017 rfl rfl, am_in 103 (by decide +kernel) rfl, am_in 1016 (by decide +kernel) rfl, am_in 76 (by decide +kernel) rfl, Or.inl (am_in 1014 (by decide +kernel) rfl), ⟨by decide +kernel, by decide +kernel, by decide +kernel⟩, ⟨TX7, 46, rfl⟩, by decide⟩
theorem flX7_237 : am_fl RX7 237 7 10 := ⟨RX7, TX7, 46, rfl, by decide, Or.inl (am_in 754 (by decide +kernel) rfl)⟩
theorem fp_7_10 : am_fp 7 10 0 := fun C T N h => by cases h; exact ⟨rfl, fun _ => by decide +kernel, fun h => absurd h (by decide)⟩
set_option maxRecDepth 100000 in
theorem lnX7_247 : am_lnV RX7 247 yX7_draw cX7_draw 2 (some .int) 1 7 := ⟨am_in 1034 rfl rfl, am_in 103 (by decide +kernel) rfl, am_in 1033 (by decide +kernel) rfl, am_in 77 (by decide +kernel) rfl, Or.inl (am_in 1031 (by decide +kernel) rfl), ⟨by decide +kernel, by decide +kernel, by decide +kernel⟩, ⟨TX7, 46, rfl⟩, by decide⟩
theorem flX7_62 : am_fl RX7 62 7 29 := ⟨RX7, TX7, 46, rfl, by decide, Or.inl (am_in 773 (by decide +kernel) rfl)⟩
set_option maxRecDepth 100000 in
theorem lnX7_250 : am_lnV RX7 250 yX7_isCounty cX7_isCounty 2 (some .boolean) 1 7 := ⟨am_in 1050 rfl rfl, am_in 103 (by decide +kernel) rfl, am_in 1049 (by decide +kernel) rfl, am_in 78 (by decide +kernel) rfl, Or.inl (am_in 1047 (by decide +kernel) rfl), ⟨by decide +kernel, by decide +kernel, by decide +kernel⟩, ⟨TX7, 46, rfl⟩, by decide⟩
set_option maxRecDepth 100000 in
theorem lnX7_257 : am_lnV RX7 257 yX7_save cX7_save 2 none 0 7 := ⟨am_in 1056 rfl rfl, am_in 103 (by decide +kernel) rfl, am_in 1055 (by decide +kernel) rfl, am_in 79 (by decide +kernel) rfl, Or.inl (am_in 1053 (by decide +kernel) rfl), ⟨by decide +kernel, by decide +kernel, by decide +kernel⟩, ⟨TX7, 46, rfl⟩, by decide⟩
set_option maxRecDepth 100000 in
theorem lnX7_260 : am_lnV RX7 260 yX7_souls cX7_souls 4 (some .int) 1 7 := ⟨am_in 1060 rfl rfl, am_in 103 (by decide +kernel) rfl, am_in 1059 (by decide +kernel) rfl, am_in 80 (by decide +kernel) rfl, Or.inl (am_in 1057 (by decide +kernel) rfl), ⟨by decide +kernel, by decide +kernel, by decide +kernel⟩, ⟨TX7, 46, rfl⟩, by decide⟩
set_option maxRecDepth 100000 in
theorem lnX7_263 : am_lnV RX7 263 yX7_putBack cX7_putBack 2 none 0 7 := ⟨am_in 1064 rfl rfl, am_in 103 (by decide +kernel) rfl, am_in 1063 (by decide +kernel) rfl, am_in 81 (by decide +kernel) rfl, Or.inl (am_in 1061 (by decide +kernel) rfl), ⟨by decide +kernel, by decide +kernel, by decide +kernel⟩, ⟨TX7, 46, rfl⟩, by decide⟩
set_option maxRecDepth 100000 in
theorem lnX7_266 : am_lnV RX7 266 yX7_ofCounty cX7_ofCounty 4 (some .int) 1 7 := ⟨am_in 1072 rfl rfl, am_in 103 (by decide +kernel) rfl, am_in 1071 (by decide +kernel) rfl, am_in 82 (by decide +kernel) rfl, Or.inl (am_in 1069 (by decide +kernel) rfl), ⟨by decide +kernel, by decide +kernel, by decide +kernel⟩, ⟨TX7, 46, rfl⟩, by decide⟩
set_option maxRecDepth 100000 in
theorem lnX7_269 : am_lnS RX7 269 yX7_bits cX7_bits 3 (some .int) 1 := ⟨am_in 1075 rfl rfl, am_in 103 (by decide +kernel) rfl, am_in 1074 (by decide +kernel) rfl, am_in 1073 (by decide +kernel) rfl, ⟨by decide +kernel, by decide +kernel, by decide +kernel⟩, by decide⟩
set_option maxRecDepth 100000 in
theorem lnX7_272 : am_lnV RX7 272 yX7_digs cX7_digs 4 none 2 7 := ⟨am_in 1091 rfl rfl, am_in 103 (by decide +kernel) rfl, am_in 1090 (by decide +kernel) rfl, am_in 84 (by decide +kernel) rfl, Or.inl (am_in 1088 (by decide +kernel) rfl), ⟨by decide +kernel, by decide +kernel, by decide +kernel⟩, ⟨TX7, 46, rfl⟩, by decide⟩
set_option maxRecDepth 100000 in
theorem lnX7_275 : am_lnV RX7 275 yX7_smoke cX7_smoke 3 none 1 7 := ⟨am_in 1095 rfl rfl, am_in 103 (by decide +kernel) rfl, am_in 1094 (by decide +kernel) rfl, am_in 85 (by decide +kernel) rfl, Or.inl (am_in 1092 (by decide +kernel) rfl), ⟨by decide +kernel, by decide +kernel, by decide +kernel⟩, ⟨TX7, 46, rfl⟩, by decide⟩
theorem flX7_65 : am_fl RX7 65 7 30 := ⟨RX7, TX7, 46, rfl, by decide, Or.inl (am_in 774 (by decide +kernel) rfl)⟩
set_option maxRecDepth 100000 in
theorem lnX7_278 : am_lnS RX7 278 yX7_cost cX7_cost 1 (some .int) 1 := ⟨am_in 1102 rfl rfl, am_in 103 (by decide +kernel) rfl, am_in 1101 (by decide +kernel) rfl, am_in 1100 (by decide +kernel) rfl, ⟨by decide +kernel, by decide +kernel, by decide +kernel⟩, by decide⟩
set_option maxRecDepth 100000 in
theorem lnX7_281 : am_lnV RX7 281 yX7_findGains cX7_findGains 4 none 2 7 := ⟨am_in 1087 rfl rfl, am_in 103 (by decide +kernel) rfl, am_in 1086 (by decide +kernel) rfl, am_in 83 (by decide +kernel) rfl, Or.inl (am_in 1084 (by decide +kernel) rfl), ⟨by decide +kernel, by decide +kernel, by decide +kernel⟩, ⟨TX7, 46, rfl⟩, by decide⟩
set_option maxRecDepth 100000 in
theorem lnX7_284 : am_lnV RX7 284 yX7_stays cX7_stays 4 (some .boolean) 1 7 := ⟨am_in 1099 rfl rfl, am_in 103 (by decide +kernel) rfl, am_in 1098 (by decide +kernel) rfl, am_in 86 (by decide +kernel) rfl, Or.inl (am_in 1096 (by decide +kernel) rfl), ⟨by decide +kernel, by decide +kernel, by decide +kernel⟩, ⟨TX7, 46, rfl⟩, by decide⟩
set_option maxRecDepth 100000 in
theorem lnX7_287 : am_lnS RX7 287 yX7_figure cX7_figure 4 (some .int) 2 := ⟨am_in 1121 rfl rfl, am_in 103 (by decide +kernel) rfl, am_in 1120 (by decide +kernel) rfl, am_in 1119 (by decide +kernel) rfl, ⟨by decide +kernel, by decide +kernel, by decide +kernel⟩, by decide⟩
theorem flX7_68 : am_fl RX7 68 7 32 := ⟨RX7, TX7, 46, rfl, by decide, Or.inl (am_in 776 (by decide +kernel) rfl)⟩
set_option maxRecDepth 100000 in
theorem lnX7_290 : am_lnV RX7 290 yX7_codeOf cX7_codeOf 3 (some .int) 0 7 := ⟨am_in 1114 rfl rfl, am_in 103 (by decide +kernel) rfl, am_in 1113 (by decide +kernel) rfl, am_in 88 (by decide +kernel) rfl, Or.inl (am_in 1111 (by decide +kernel) rfl), ⟨by decide +kernel, by decide +kernel, by decide +kernel⟩, ⟨TX7, 46, rfl⟩, by decide⟩
theorem flX7_293 : am_fl RX7 293 7 31 := ⟨RX7, TX7, 46, rfl, by decide, Or.inl (am_in 775 (by decide +kernel) rfl)⟩
theorem fp_7_31 : am_fp 7 31 0 := fun C T N h => by cases h; exact ⟨rfl, fun _ => by decide +kernel, fun h => absurd h (by decide)⟩
set_option maxRecDepth 100000 in
theorem lnX7_296 : am_lnV RX7 296 yX7_brings cX7_brings 6 (some .boolean) 3 7 := ⟨am_in 1118 rfl rfl, am_in 103 (by decide +kernel) rfl, am_in 1117 (by decide +kernel) rfl, am_in 89 (by decide +kernel) rfl, Or.inl (am_in 1115 (by decide +kernel) rfl), ⟨by decide +kernel, by decide +kernel, by decide +kernel⟩, ⟨TX7, 46, rfl⟩, by decide⟩
set_option maxRecDepth 100000 in
theorem lnX7_299 : am_lnV RX7 299 yX7_nextRow cX7_nextRow 6 (some .boolean) 1 7 := ⟨am_in 1125 rfl rfl, am_in 103 (by decide +kernel) rfl, am_in 1124 (by decide +kernel) rfl, am_in 90 (by decide +kernel) rfl, Or.inl (am_in 1122 (by decide +kernel) rfl), ⟨by decide +kernel, by decide +kernel, by decide +kernel⟩, ⟨TX7, 46, rfl⟩, by decide⟩
set_option maxRecDepth 100000 in
theorem lnX7_302 : am_lnV RX7 302 yX7_findMud cX7_findMud 7 (some .int) 1 7 := ⟨am_in 1110 rfl rfl, am_in 103 (by decide +kernel) rfl, am_in 1109 (by decide +kernel) rfl, am_in 87 (by decide +kernel) rfl, Or.inl (am_in 1107 (by decide +kernel) rfl), ⟨by decide +kernel, by decide +kernel, by decide +kernel⟩, ⟨TX7, 46, rfl⟩, by decide⟩
set_option maxRecDepth 100000 in
theorem lnX7_305 : am_lnV RX7 305 yX7_votes cX7_votes 4 (some .int) 1 7 := ⟨am_in 1129 rfl rfl, am_in 103 (by decide +kernel) rfl, am_in 1127 (by decide +kernel) rfl, am_in 1128 (by decide +kernel) rfl, Or.inl (am_in 1134 (by decide +kernel) rfl), ⟨by decide +kernel, by decide +kernel, by decide +kernel⟩, ⟨TX7, 46, rfl⟩, by decide⟩
theorem flX7_71 : am_fl RX7 71 7 34 := ⟨RX7, TX7, 46, rfl, by decide, Or.inl (am_in 778 (by decide +kernel) rfl)⟩
theorem flX7_74 : am_fl RX7 74 7 35 := ⟨RX7, TX7, 46, rfl, by decide, Or.inl (am_in 779 (by decide +kernel) rfl)⟩
set_option maxRecDepth 100000 in
theorem lnX7_314 : am_lnV RX7 314 yX7_couldMove cX7_couldMove 6 (some .boolean) 3 7 := ⟨am_in 1153 rfl rfl, am_in 103 (by decide +kernel) rfl, am_in 1152 (by decide +kernel) rfl, am_in 91 (by decide +kernel) rfl, Or.inl (am_in 1150 (by decide +kernel) rfl), ⟨by decide +kernel, by decide +kernel, by decide +kernel⟩, ⟨TX7, 46, rfl⟩, by decide⟩
theorem flX7_77 : am_fl RX7 77 7 37 := ⟨RX7, TX7, 46, rfl, by decide, Or.inl (am_in 781 (by decide +kernel) rfl)⟩
theorem flX7_80 : am_fl RX7 80 7 38 := ⟨RX7, TX7, 46, rfl, by decide, Or.inl (am_in 782 (by decide +kernel) rfl)⟩
theorem flX7_319 : am_fl RX7 319 7 39 := ⟨RX7, TX7, 46, rfl, by decide, Or.inl (am_in 783 (by decide +kernel) rfl)⟩
theorem fp_7_39 : am_fp 7 39 0 := fun C T N h => by cases h; exact ⟨rfl, fun _ => by decide +kernel, fun h => absurd h (by decide)⟩
theorem flX7_322 : am_fl RX7 322 7 40 := ⟨RX7, TX7, 46, rfl, by decide, Or.inl (am_in 784 (by decide +kernel) rfl)⟩
theorem fp_7_40 : am_fp 7 40 0 := fun C T N h => by cases h; exact ⟨rfl, fun _ => by decide +kernel, fun h => absurd h (by decide)⟩
set_option maxRecDepth 100000 in
theorem lnX7_325 : am_lnV RX7 325 yX7_eavesOf cX7_eavesOf 4 (some .int) 1 7 := ⟨am_in 1170 rfl rfl, am_in 103 (by decide +kernel) rfl, am_in 1169 (by decide +kernel) rfl, am_in 93 (by decide +kernel) rfl, Or.inl (am_in 1167 (by decide +kernel) rfl), ⟨by decide +kernel, by decide +kernel, by decide +kernel⟩, ⟨TX7, 46, rfl⟩, by decide⟩
set_option maxRecDepth 100000 in
theorem lnX7_328 : am_lnV RX7 328 yX7_findSpan cX7_findSpan 4 none 1 7 := ⟨am_in 1166 rfl rfl, am_in 103 (by decide +kernel) rfl, am_in 1165 (by decide +kernel) rfl, am_in 92 (by decide +kernel) rfl, Or.inl (am_in 1163 (by decide +kernel) rfl), ⟨by decide +kernel, by decide +kernel, by decide +kernel⟩, ⟨TX7, 46, rfl⟩, by decide⟩
theorem flX7_83 : am_fl RX7 83 7 42 := ⟨RX7, TX7, 46, rfl, by decide, Or.inl (am_in 786 (by decide +kernel) rfl)⟩
theorem flX7_86 : am_fl RX7 86 7 43 := ⟨RX7, TX7, 46, rfl, by decide, Or.inl (am_in 787 (by decide +kernel) rfl)⟩
theorem flX7_89 : am_fl RX7 89 7 44 := ⟨RX7, TX7, 46, rfl, by decide, Or.inl (am_in 788 (by decide +kernel) rfl)⟩
