/-! THE CHECKER: contracts with their certificates (printed by wip/gen2/p16gen.py) -/
theorem law_t_236_5 : ckSlice law_a_236_5 law_cs_236_5_ 200000 1 0 1 4 4 236 law_u_236.2.1 [(18, ckGrow law_H, 1, 1, 1, 1)] = true := by decide +kernel
theorem law_t_236_6 : ckSlice law_a_236_6 law_cs_236_6_ 200000 1 0 1 5 5 236 law_u_236.2.1 [(18, ckGrow law_H, 1, 1, 1, 1)] = true := by decide +kernel
theorem law_t_236_7 : ckSlice law_a_236_7 law_cs_236_7_ 200000 1 0 1 6 6 236 law_u_236.2.1 [(18, ckGrow law_H, 1, 1, 1, 1)] = true := by decide +kernel
theorem law_t_236_8 : ckSlice law_a_236_8 law_cs_236_8_ 200000 1 0 1 7 7 236 law_u_236.2.1 [(18, ckGrow law_H, 1, 1, 1, 1)] = true := by decide +kernel
theorem law_t_236_9 : ckSlice law_a_236_9 law_cs_236_9_ 200000 1 0 1 8 2147483647 236 law_u_236.2.1 [(18, ckGrow law_H, 1, 1, 1, 1)] = true := by decide +kernel
theorem law_t_295 : ckRun es_213 law_a_295 law_cs_295_ [] 4 2048 84000 599744 7301226 ckLawF ckKs ckKc 200000 0 295 law_u_295.2.1 [(18, ckGrow law_H, 1, 1, 1, 1)] = true := by decide +kernel
theorem law_t_328 : ckRun es_213 law_a_328 law_cs_328_ [] 4 2048 84000 599744 7301226 ckLawF ckKs ckKc 200000 0 328 law_u_328.2.1 [(18, ckGrow law_H, 1, 1, 1, 1)] = true := by decide +kernel
