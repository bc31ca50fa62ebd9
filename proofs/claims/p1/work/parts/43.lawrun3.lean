/-! THE CHECKER: contracts with their certificates (printed by wip/gen/p1gen.py) -/
theorem law_t18 : ckRun es_213 law_a law_cs law_g19 4 2048 84000 600000 7302250 ckLawF ckKs ckKc 200000 0 700 law_u18.2.1 [] = true := by decide +kernel
theorem law_t19 : ckRun es_213 law_a law_cs law_g20 4 2048 84000 600000 7302250 ckLawF ckKs ckKc 200000 0 723 law_u19.2.1 [] = true := by decide +kernel
theorem law_t20 : ckRun es_213 law_a law_cs law_g21 4 2048 84000 600000 7302250 ckLawF ckKs ckKc 200000 0 756 law_u20.2.1 [] = true := by decide +kernel
theorem law_t21 : ckRun es_213 law_a law_cs law_g22 4 2048 84000 600000 7302250 ckLawF ckKs ckKc 200000 0 799 law_u21.2.1 [] = true := by decide +kernel
theorem law_t22 : ckRun es_213 law_a law_cs law_g23 4 2048 84000 600000 7302250 ckLawF ckKs ckKc 200000 0 842 law_u22.2.1 [] = true := by decide +kernel
theorem law_t23 : ckRun es_213 law_a law_cs law_g24 4 2048 84000 600000 7302250 ckLawF ckKs ckKc 200000 0 885 law_u23.2.1 [] = true := by decide +kernel
