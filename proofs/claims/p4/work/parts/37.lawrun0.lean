/-! THE CHECKER: contracts with their certificates (printed by wip/gen2/p14gen.py) -/
theorem law_t_180 : ckRun es_213 law_a_180 law_cs_180_ [] 4 2048 84000 599744 7301226 ckLawF ckKs ckKc 200000 0 180 law_u_180.2.1 [(18, ckGrow law_H, 1, 1, 1, 1)] = true := by decide +kernel
theorem law_t_213 : ckRun es_213 law_a_213 law_cs_213_ [] 4 2048 84000 599744 7301226 ckLawF ckKs ckKc 200000 0 213 law_u_213.2.1 [(18, ckGrow law_H, 1, 1, 1, 1)] = true := by decide +kernel
