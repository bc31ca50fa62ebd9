/-! THE CHECKER: contracts with their certificates (printed by wip/gen/p1gen.py) -/
theorem law_run : ckRun es_213 law_a law_cs law_g0 4 2048 84000 600000 7302250 ckLawF ckKs ckKc 200000 0 0 ckLaw0 [] = true := by decide +kernel
theorem law_gs : ckLs law_a law_cs 200000 law_g0 := ⟨law_t0, ⟨law_t1, ⟨law_t2, ⟨law_t3, ⟨law_t4, ⟨law_t5, ⟨law_t6, ⟨law_t7, ⟨law_t8, ⟨law_t9, ⟨law_t10, ⟨law_t11, ⟨law_t12, ⟨law_t13, ⟨law_t14, ⟨law_t15, ⟨law_t16, ⟨law_t17, ⟨law_t18, ⟨law_t19, ⟨law_t20, ⟨law_t21, ⟨law_t22, ⟨law_t23, ⟨law_t24, ⟨law_t25, ⟨law_t26, ⟨law_t27, ⟨law_t28, ⟨law_t29, ⟨law_t30, ⟨law_t31, ⟨law_t32, True.intro⟩⟩⟩⟩⟩⟩⟩⟩⟩⟩⟩⟩⟩⟩⟩⟩⟩⟩⟩⟩⟩⟩⟩⟩⟩⟩⟩⟩⟩⟩⟩⟩⟩
theorem law_ge : ckAll ckLn1 law_g0 = true := by decide +kernel
