/-! THE CHECKER: contracts with their certificates (printed by wip/gen/p1gen.py) -/
theorem law_t24 : ckRun es_213 law_a law_cs law_g25 4 2048 84000 600000 7302250 ckLawF ckKs ckKc 200000 0 918 law_u24.2.1 [] = true := by decide +kernel
theorem law_t25 : ckRun es_213 law_a law_cs law_g26 4 2048 84000 600000 7302250 ckLawF ckKs ckKc 200000 0 951 law_u25.2.1 [] = true := by decide +kernel
theorem law_t26 : ckRun es_213 law_a law_cs law_g27 4 2048 84000 600000 7302250 ckLawF ckKs ckKc 200000 0 974 law_u26.2.1 [] = true := by decide +kernel
theorem law_t27 : ckRun es_213 law_a law_cs law_g28 4 2048 84000 600000 7302250 ckLawF ckKs ckKc 200000 0 997 law_u27.2.1 [] = true := by decide +kernel
theorem law_t28 : ckRun es_213 law_a law_cs law_g29 4 2048 84000 600000 7302250 ckLawF ckKs ckKc 200000 0 1020 law_u28.2.1 [] = true := by decide +kernel
theorem law_t29 : ckRun es_213 law_a law_cs law_g30 4 2048 84000 600000 7302250 ckLawF ckKs ckKc 200000 0 1033 law_u29.2.1 [] = true := by decide +kernel
