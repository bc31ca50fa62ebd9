/-! THE CHECKER: contracts with their certificates (printed by wip/gen2/p14gen.py) -/
theorem law_t_453 : ckRun es_213 law_a_453 law_cs_453_ [] 4 2048 84000 599744 7301226 ckLawF ckKs ckKc 200000 0 453 law_u_453.2.1 [(18, ckGrow law_H, 1, 1, 1, 1)] = true := by decide +kernel
theorem law_t_476 : ckRun es_213 law_a_476 law_cs_476_ [] 4 2048 84000 599744 7301226 ckLawF ckKs ckKc 200000 0 476 law_u_476.2.1 [(18, ckGrow law_H, 1, 1, 1, 1)] = true := by decide +kernel
theorem law_t_489 : ckRun es_213 law_a_489 law_cs_489_ [] 4 2048 84000 599744 7301226 ckLawF ckKs ckKc 200000 0 489 law_u_489.2.1 [(18, ckGrow law_H, 1, 1, 1, 1)] = true := by decide +kernel
theorem law_t_522 : ckRun es_213 law_a_522 law_cs_522_ [] 4 2048 84000 599744 7301226 ckLawF ckKs ckKc 200000 0 522 law_u_522.2.1 [(18, ckGrow law_H, 1, 1, 1, 1)] = true := by decide +kernel
theorem law_t_545 : ckRun es_213 law_a_545 law_cs_545_ [] 4 2048 84000 599744 7301226 ckLawF ckKs ckKc 200000 0 545 law_u_545.2.1 [(18, ckGrow law_H, 1, 1, 1, 1)] = true := by decide +kernel
theorem law_t_558 : ckRun es_213 law_a_558 law_cs_558_ [] 4 2048 84000 599744 7301226 ckLawF ckKs ckKc 200000 0 558 law_u_558.2.1 [(18, ckGrow law_H, 1, 1, 1, 1)] = true := by decide +kernel
theorem law_t_591 : ckRun es_213 law_a_591 law_cs_591_ [] 4 2048 84000 599744 7301226 ckLawF ckKs ckKc 200000 0 591 law_u_591.2.1 [(18, ckGrow law_H, 1, 1, 1, 1)] = true := by decide +kernel
theorem law_t_624 : ckRun es_213 law_a_624 law_cs_624_ [] 4 2048 84000 599744 7301226 ckLawF ckKs ckKc 200000 0 624 law_u_624.2.1 [(18, ckGrow law_H, 1, 1, 1, 1)] = true := by decide +kernel
theorem law_t_687 : ckRun es_213 law_a_687 law_cs_687_ [] 4 2048 84000 599744 7301226 ckLawF ckKs ckKc 200000 0 687 law_u_687.2.1 [(18, ckGrow law_H, 1, 1, 1, 1)] = true := by decide +kernel
