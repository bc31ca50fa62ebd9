/-! THE CHECKER: contracts with their certificates (printed by wip/gen/p1gen.py) -/
theorem law_t12 : ckRun es_213 law_a law_cs law_g13 4 2048 84000 600000 7302250 ckLawF ckKs ckKc 200000 0 522 law_u12.2.1 [] = true := by decide +kernel
theorem law_t13 : ckRun es_213 law_a law_cs law_g14 4 2048 84000 600000 7302250 ckLawF ckKs ckKc 200000 0 545 law_u13.2.1 [] = true := by decide +kernel
theorem law_t14 : ckRun es_213 law_a law_cs law_g15 4 2048 84000 600000 7302250 ckLawF ckKs ckKc 200000 0 558 law_u14.2.1 [] = true := by decide +kernel
theorem law_t15 : ckRun es_213 law_a law_cs law_g16 4 2048 84000 600000 7302250 ckLawF ckKs ckKc 200000 0 591 law_u15.2.1 [] = true := by decide +kernel
theorem law_t16 : ckRun es_213 law_a law_cs law_g17 4 2048 84000 600000 7302250 ckLawF ckKs ckKc 200000 0 624 law_u16.2.1 [] = true := by decide +kernel
theorem law_t17 : ckRun es_213 law_a law_cs law_g18 4 2048 84000 600000 7302250 ckLawF ckKs ckKc 200000 0 687 law_u17.2.1 [] = true := by decide +kernel
