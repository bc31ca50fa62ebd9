/-! THE CHECKER: contracts with their certificates (printed by wip/gen/p1gen.py) -/
theorem law_t6 : ckRun es_213 law_a law_cs law_g7 4 2048 84000 600000 7302250 ckLawF ckKs ckKc 200000 0 374 law_u6.2.1 [] = true := by decide +kernel
theorem law_t7 : ckRun es_213 law_a law_cs law_g8 4 2048 84000 600000 7302250 ckLawF ckKs ckKc 200000 0 397 law_u7.2.1 [] = true := by decide +kernel
theorem law_t8 : ckRun es_213 law_a law_cs law_g9 4 2048 84000 600000 7302250 ckLawF ckKs ckKc 200000 0 440 law_u8.2.1 [] = true := by decide +kernel
theorem law_t9 : ckRun es_213 law_a law_cs law_g10 4 2048 84000 600000 7302250 ckLawF ckKs ckKc 200000 0 453 law_u9.2.1 [] = true := by decide +kernel
theorem law_t10 : ckRun es_213 law_a law_cs law_g11 4 2048 84000 600000 7302250 ckLawF ckKs ckKc 200000 0 476 law_u10.2.1 [] = true := by decide +kernel
theorem law_t11 : ckRun es_213 law_a law_cs law_g12 4 2048 84000 600000 7302250 ckLawF ckKs ckKc 200000 0 489 law_u11.2.1 [] = true := by decide +kernel
