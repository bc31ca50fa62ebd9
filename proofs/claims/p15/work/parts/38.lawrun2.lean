/-! THE CHECKER: contracts with their certificates (printed by wip/gen2/p14gen.py) -/
theorem law_t_700 : ckRun es_213 law_a_700 law_cs_700_ [] 4 2048 84000 599744 7301226 ckLawF ckKs ckKc 200000 0 700 law_u_700.2.1 [(18, ckGrow law_H, 1, 1, 1, 1)] = true := by decide +kernel
theorem law_t_723 : ckRun es_213 law_a_723 law_cs_723_ [] 4 2048 84000 599744 7301226 ckLawF ckKs ckKc 200000 0 723 law_u_723.2.1 [(18, ckGrow law_H, 1, 1, 1, 1)] = true := by decide +kernel
theorem law_t_756 : ckRun es_213 law_a_756 law_cs_756_ [] 4 2048 84000 599744 7301226 ckLawF ckKs ckKc 200000 0 756 law_u_756.2.1 [(18, ckGrow law_H, 1, 1, 1, 1)] = true := by decide +kernel
theorem law_t_799 : ckRun es_213 law_a_799 law_cs_799_ [] 4 2048 84000 599744 7301226 ckLawF ckKs ckKc 200000 0 799 law_u_799.2.1 [(18, ckGrow law_H, 1, 1, 1, 1)] = true := by decide +kernel
theorem law_t_842 : ckRun es_213 law_a_842 law_cs_842_ [] 4 2048 84000 599744 7301226 ckLawF ckKs ckKc 200000 0 842 law_u_842.2.1 [(18, ckGrow law_H, 1, 1, 1, 1)] = true := by decide +kernel
theorem law_t_885 : ckRun es_213 law_a_885 law_cs_885_ [] 4 2048 84000 599744 7301226 ckLawF ckKs ckKc 200000 0 885 law_u_885.2.1 [(18, ckGrow law_H, 1, 1, 1, 1)] = true := by decide +kernel
theorem law_t_918 : ckRun es_213 law_a_918 law_cs_918_ [] 4 2048 84000 599744 7301226 ckLawF ckKs ckKc 200000 0 918 law_u_918.2.1 [(18, ckGrow law_H, 1, 1, 1, 1)] = true := by decide +kernel
theorem law_t_951 : ckRun es_213 law_a_951 law_cs_951_ [] 4 2048 84000 599744 7301226 ckLawF ckKs ckKc 200000 0 951 law_u_951.2.1 [(18, ckGrow law_H, 1, 1, 1, 1)] = true := by decide +kernel
theorem law_t_974 : ckRun es_213 law_a_974 law_cs_974_ [] 4 2048 84000 599744 7301226 ckLawF ckKs ckKc 200000 0 974 law_u_974.2.1 [(18, ckGrow law_H, 1, 1, 1, 1)] = true := by decide +kernel
