/-! THE CHECKER: contracts with their certificates (printed by wip/gen2/p16gen.py) -/
theorem law_t_1105 : ckRun es_213 law_a_1105 law_cs_1105_ [] 4 2048 84000 599744 7301226 ckLawF ckKs ckKc 200000 0 1105 law_u_1105.2.1 [(18, ckGrow law_H, 1, 1, 1, 1)] = true := by decide +kernel
