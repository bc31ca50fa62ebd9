/-! THE CHECKER: contracts with their certificates (printed by wip/gen2/p16gen.py) -/
theorem law_t_180 : ckRun es_213 law_a_180 law_cs_180_ [] 4 2048 84000 599744 7301226 ckLawF ckKs ckKc 200000 0 180 law_u_180.2.1 [(18, ckGrow law_H, 1, 1, 1, 1)] = true := by decide +kernel
theorem law_t_213 : ckRun es_213 law_a_213 law_cs_213_ [] 4 2048 84000 599744 7301226 ckLawF ckKs ckKc 200000 0 213 law_u_213.2.1 [(18, ckGrow law_H, 1, 1, 1, 1)] = true := by decide +kernel
theorem law_t_236 : ckRun es_213 law_a_236 law_cs_236_ [] 4 2048 84000 599744 7301226 ckLawF ckKs ckKc 200000 0 236 law_u_236.2.1 [(18, ckGrow law_H, 1, 1, 1, 1)] = true := by decide +kernel
theorem law_t_295_0 : ckSlice law_a_295_0 law_cs_295_0_ 200000 1 0 1 (-2147483648) (-1) 295 law_u_295.2.1 [(18, ckGrow law_H, 1, 1, 1, 1)] = true := by decide +kernel
theorem law_t_295_1 : ckSlice law_a_295_1 law_cs_295_1_ 200000 1 0 1 0 0 295 law_u_295.2.1 [(18, ckGrow law_H, 1, 1, 1, 1)] = true := by decide +kernel
theorem law_t_295_2 : ckSlice law_a_295_2 law_cs_295_2_ 200000 1 0 1 1 1 295 law_u_295.2.1 [(18, ckGrow law_H, 1, 1, 1, 1)] = true := by decide +kernel
theorem law_t_295_3 : ckSlice law_a_295_3 law_cs_295_3_ 200000 1 0 1 2 2 295 law_u_295.2.1 [(18, ckGrow law_H, 1, 1, 1, 1)] = true := by decide +kernel
theorem law_t_295_4 : ckSlice law_a_295_4 law_cs_295_4_ 200000 1 0 1 3 3 295 law_u_295.2.1 [(18, ckGrow law_H, 1, 1, 1, 1)] = true := by decide +kernel
theorem law_t_295_5 : ckSlice law_a_295_5 law_cs_295_5_ 200000 1 0 1 4 4 295 law_u_295.2.1 [(18, ckGrow law_H, 1, 1, 1, 1)] = true := by decide +kernel
theorem law_t_295_6 : ckSlice law_a_295_6 law_cs_295_6_ 200000 1 0 1 5 5 295 law_u_295.2.1 [(18, ckGrow law_H, 1, 1, 1, 1)] = true := by decide +kernel
theorem law_t_295_7 : ckSlice law_a_295_7 law_cs_295_7_ 200000 1 0 1 6 6 295 law_u_295.2.1 [(18, ckGrow law_H, 1, 1, 1, 1)] = true := by decide +kernel
theorem law_t_295_8 : ckSlice law_a_295_8 law_cs_295_8_ 200000 1 0 1 7 7 295 law_u_295.2.1 [(18, ckGrow law_H, 1, 1, 1, 1)] = true := by decide +kernel
theorem law_t_295_9 : ckSlice law_a_295_9 law_cs_295_9_ 200000 1 0 1 8 8 295 law_u_295.2.1 [(18, ckGrow law_H, 1, 1, 1, 1)] = true := by decide +kernel
theorem law_t_295_10 : ckSlice law_a_295_10 law_cs_295_10_ 200000 1 0 1 9 9 295 law_u_295.2.1 [(18, ckGrow law_H, 1, 1, 1, 1)] = true := by decide +kernel
theorem law_t_295_11 : ckSlice law_a_295_11 law_cs_295_11_ 200000 1 0 1 10 2147483647 295 law_u_295.2.1 [(18, ckGrow law_H, 1, 1, 1, 1)] = true := by decide +kernel
theorem law_t_328 : ckRun es_213 law_a_328 law_cs_328_ [] 4 2048 84000 599744 7301226 ckLawF ckKs ckKc 200000 0 328 law_u_328.2.1 [(18, ckGrow law_H, 1, 1, 1, 1)] = true := by decide +kernel
theorem law_t_351 : ckRun es_213 law_a_351 law_cs_351_ [] 4 2048 84000 599744 7301226 ckLawF ckKs ckKc 200000 0 351 law_u_351.2.1 [(18, ckGrow law_H, 1, 1, 1, 1)] = true := by decide +kernel
theorem law_t_374 : ckRun es_213 law_a_374 law_cs_374_ [] 4 2048 84000 599744 7301226 ckLawF ckKs ckKc 200000 0 374 law_u_374.2.1 [(18, ckGrow law_H, 1, 1, 1, 1)] = true := by decide +kernel
theorem law_t_397 : ckRun es_213 law_a_397 law_cs_397_ [] 4 2048 84000 599744 7301226 ckLawF ckKs ckKc 200000 0 397 law_u_397.2.1 [(18, ckGrow law_H, 1, 1, 1, 1)] = true := by decide +kernel
theorem law_t_440 : ckRun es_213 law_a_440 law_cs_440_ [] 4 2048 84000 599744 7301226 ckLawF ckKs ckKc 200000 0 440 law_u_440.2.1 [(18, ckGrow law_H, 1, 1, 1, 1)] = true := by decide +kernel
theorem law_t_453 : ckRun es_213 law_a_453 law_cs_453_ [] 4 2048 84000 599744 7301226 ckLawF ckKs ckKc 200000 0 453 law_u_453.2.1 [(18, ckGrow law_H, 1, 1, 1, 1)] = true := by decide +kernel
theorem law_t_476 : ckRun es_213 law_a_476 law_cs_476_ [] 4 2048 84000 599744 7301226 ckLawF ckKs ckKc 200000 0 476 law_u_476.2.1 [(18, ckGrow law_H, 1, 1, 1, 1)] = true := by decide +kernel
theorem law_t_489 : ckRun es_213 law_a_489 law_cs_489_ [] 4 2048 84000 599744 7301226 ckLawF ckKs ckKc 200000 0 489 law_u_489.2.1 [(18, ckGrow law_H, 1, 1, 1, 1)] = true := by decide +kernel
theorem law_t_522 : ckRun es_213 law_a_522 law_cs_522_ [] 4 2048 84000 599744 7301226 ckLawF ckKs ckKc 200000 0 522 law_u_522.2.1 [(18, ckGrow law_H, 1, 1, 1, 1)] = true := by decide +kernel
