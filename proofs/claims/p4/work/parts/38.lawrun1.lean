/-! THE CHECKER: contracts with their certificates (printed by wip/gen2/p14gen.py) -/
theorem law_t_236 : ckRun es_213 law_a_236 law_cs_236_ [] 4 2048 84000 599744 7301226 ckLawF ckKs ckKc 200000 0 236 law_u_236.2.1 [(18, ckGrow law_H, 1, 1, 1, 1)] = true := by decide +kernel
