/-! THE CHECKER: contracts with their certificates (printed by wip/gen2/p16gen.py) -/
theorem law_t_180 : ckRun es_213 law_a_180 law_cs_180_ [] 4 2048 84000 599744 7301226 ckLawF ckKs ckKc 200000 0 180 law_u_180.2.1 [(18, ckGrow law_H, 1, 1, 1, 1)] = true := by decide +kernel
theorem law_t_213 : ckRun es_213 law_a_213 law_cs_213_ [] 4 2048 84000 599744 7301226 ckLawF ckKs ckKc 200000 0 213 law_u_213.2.1 [(18, ckGrow law_H, 1, 1, 1, 1)] = true := by decide +kernel
theorem law_t_236_0 : ckSlice law_a_236_0 law_cs_236_0_ 200000 1 0 1 (-2147483648) (-1) 236 law_u_236.2.1 [(18, ckGrow law_H, 1, 1, 1, 1)] = true := by decide +kernel
theorem law_t_236_1 : ckSlice law_a_236_1 law_cs_236_1_ 200000 1 0 1 0 0 236 law_u_236.2.1 [(18, ckGrow law_H, 1, 1, 1, 1)] = true := by decide +kernel
theorem law_t_236_2 : ckSlice law_a_236_2 law_cs_236_2_ 200000 1 0 1 1 1 236 law_u_236.2.1 [(18, ckGrow law_H, 1, 1, 1, 1)] = true := by decide +kernel
theorem law_t_236_3 : ckSlice law_a_236_3 law_cs_236_3_ 200000 1 0 1 2 2 236 law_u_236.2.1 [(18, ckGrow law_H, 1, 1, 1, 1)] = true := by decide +kernel
theorem law_t_236_4 : ckSlice law_a_236_4 law_cs_236_4_ 200000 1 0 1 3 3 236 law_u_236.2.1 [(18, ckGrow law_H, 1, 1, 1, 1)] = true := by decide +kernel
