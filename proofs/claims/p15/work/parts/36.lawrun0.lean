/-! THE CHECKER: contracts with their certificates (printed by wip/gen2/p14gen.py) -/
theorem law_t_180 : ckRun es_213 law_a_180 law_cs_180_ [] 4 2048 84000 599744 7301226 ckLawF ckKs ckKc 200000 0 180 law_u_180.2.1 [(18, ckGrow law_H, 1, 1, 1, 1)] = true := by decide +kernel
theorem law_t_213 : ckRun es_213 law_a_213 law_cs_213_ [] 4 2048 84000 599744 7301226 ckLawF ckKs ckKc 200000 0 213 law_u_213.2.1 [(18, ckGrow law_H, 1, 1, 1, 1)] = true := by decide +kernel
theorem law_t_236 : ckRun es_213 law_a_236 law_cs_236_ [] 4 2048 84000 599744 7301226 ckLawF ckKs ckKc 200000 0 236 law_u_236.2.1 [(18, ckGrow law_H, 1, 1, 1, 1)] = true := by decide +kernel
theorem law_t_295 : ckRun es_213 law_a_295 law_cs_295_ [] 4 2048 84000 599744 7301226 ckLawF ckKs ckKc 200000 0 295 law_u_295.2.1 [(18, ckGrow law_H, 1, 1, 1, 1)] = true := by decide +kernel
theorem law_t_328 : ckRun es_213 law_a_328 law_cs_328_ [] 4 2048 84000 599744 7301226 ckLawF ckKs ckKc 200000 0 328 law_u_328.2.1 [(18, ckGrow law_H, 1, 1, 1, 1)] = true := by decide +kernel
theorem law_t_351 : ckRun es_213 law_a_351 law_cs_351_ [] 4 2048 84000 599744 7301226 ckLawF ckKs ckKc 200000 0 351 law_u_351.2.1 [(18, ckGrow law_H, 1, 1, 1, 1)] = true := by decide +kernel
theorem law_t_374 : ckRun es_213 law_a_374 law_cs_374_ [] 4 2048 84000 599744 7301226 ckLawF ckKs ckKc 200000 0 374 law_u_374.2.1 [(18, ckGrow law_H, 1, 1, 1, 1)] = true := by decide +kernel
theorem law_t_397 : ckRun es_213 law_a_397 law_cs_397_ [] 4 2048 84000 599744 7301226 ckLawF ckKs ckKc 200000 0 397 law_u_397.2.1 [(18, ckGrow law_H, 1, 1, 1, 1)] = true := by decide +kernel
theorem law_t_440 : ckRun es_213 law_a_440 law_cs_440_ [] 4 2048 84000 599744 7301226 ckLawF ckKs ckKc 200000 0 440 law_u_440.2.1 [(18, ckGrow law_H, 1, 1, 1, 1)] = true := by decide +kernel
