/-! THE CHECKER: contracts with their certificates (printed by wip/gen2/p14gen.py) -/
theorem law_t_295 : ckRun es_213 law_a_295 law_cs_295_ [] 4 2048 84000 599744 7301226 ckLawF ckKs ckKc 200000 0 295 law_u_295.2.1 [(18, ckGrow law_H, 1, 1, 1, 1)] = true := by decide +kernel
