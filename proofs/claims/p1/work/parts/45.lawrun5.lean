/-! THE CHECKER: contracts with their certificates (printed by wip/gen/p1gen.py) -/
theorem law_t30 : ckRun es_213 law_a law_cs law_g31 4 2048 84000 600000 7302250 ckLawF ckKs ckKc 200000 0 1056 law_u30.2.1 [] = true := by decide +kernel
theorem law_t31 : ckRun es_213 law_a law_cs law_g32 4 2048 84000 600000 7302250 ckLawF ckKs ckKc 200000 0 1069 law_u31.2.1 [] = true := by decide +kernel
theorem law_t32 : ckRun es_213 law_a law_cs [] 4 2048 84000 600000 7302250 ckLawF ckKs ckKc 200000 0 1082 law_u32.2.1 [] = true := by decide +kernel
