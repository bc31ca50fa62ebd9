/-! THE CHECKER: contracts with their certificates (printed by wip/gen2/p16gen.py) -/
theorem law_head : ckRun es_213 law_a1 law_cs1_ law_gU 4 2048 84000 599744 7301226 ckLawF ckKs ckKc 200000 0 18 law_H [] = true := by decide +kernel
