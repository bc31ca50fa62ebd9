/-! THE CHECKER: contracts with their certificates (printed by wip/gen/p1gen.py) -/
theorem law_t0 : ckRun es_213 law_a law_cs law_g1 4 2048 84000 600000 7302250 ckLawF ckKs ckKc 200000 0 180 law_u0.2.1 [] = true := by decide +kernel
theorem law_t1 : ckRun es_213 law_a law_cs law_g2 4 2048 84000 600000 7302250 ckLawF ckKs ckKc 200000 0 213 law_u1.2.1 [] = true := by decide +kernel
theorem law_t2 : ckRun es_213 law_a law_cs law_g3 4 2048 84000 600000 7302250 ckLawF ckKs ckKc 200000 0 236 law_u2.2.1 [] = true := by decide +kernel
theorem law_t3 : ckRun es_213 law_a law_cs law_g4 4 2048 84000 600000 7302250 ckLawF ckKs ckKc 200000 0 295 law_u3.2.1 [] = true := by decide +kernel
theorem law_t4 : ckRun es_213 law_a law_cs law_g5 4 2048 84000 600000 7302250 ckLawF ckKs ckKc 200000 0 328 law_u4.2.1 [] = true := by decide +kernel
theorem law_t5 : ckRun es_213 law_a law_cs law_g6 4 2048 84000 600000 7302250 ckLawF ckKs ckKc 200000 0 351 law_u5.2.1 [] = true := by decide +kernel
