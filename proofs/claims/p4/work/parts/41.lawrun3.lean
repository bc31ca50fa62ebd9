/-! THE CHECKER: contracts with their certificates (printed by wip/gen2/p16gen.py) -/
theorem law_t_885 : ckRun es_213 law_a_885 law_cs_885_ [] 4 2048 84000 599744 7301226 ckLawF ckKs ckKc 200000 0 885 law_u_885.2.1 [(18, ckGrow law_H, 1, 1, 1, 1)] = true := by decide +kernel
theorem law_t_918 : ckRun es_213 law_a_918 law_cs_918_ [] 4 2048 84000 599744 7301226 ckLawF ckKs ckKc 200000 0 918 law_u_918.2.1 [(18, ckGrow law_H, 1, 1, 1, 1)] = true := by decide +kernel
theorem law_t_951 : ckRun es_213 law_a_951 law_cs_951_ [] 4 2048 84000 599744 7301226 ckLawF ckKs ckKc 200000 0 951 law_u_951.2.1 [(18, ckGrow law_H, 1, 1, 1, 1)] = true := by decide +kernel
theorem law_t_974 : ckRun es_213 law_a_974 law_cs_974_ [] 4 2048 84000 599744 7301226 ckLawF ckKs ckKc 200000 0 974 law_u_974.2.1 [(18, ckGrow law_H, 1, 1, 1, 1)] = true := by decide +kernel
theorem law_t_997 : ckRun es_213 law_a_997 law_cs_997_ [] 4 2048 84000 599744 7301226 ckLawF ckKs ckKc 200000 0 997 law_u_997.2.1 [(18, ckGrow law_H, 1, 1, 1, 1)] = true := by decide +kernel
theorem law_t_1020 : ckRun es_213 law_a_1020 law_cs_1020_ [] 4 2048 84000 599744 7301226 ckLawF ckKs ckKc 200000 0 1020 law_u_1020.2.1 [(18, ckGrow law_H, 1, 1, 1, 1)] = true := by decide +kernel
theorem law_t_1033 : ckRun es_213 law_a_1033 law_cs_1033_ [] 4 2048 84000 599744 7301226 ckLawF ckKs ckKc 200000 0 1033 law_u_1033.2.1 [(18, ckGrow law_H, 1, 1, 1, 1)] = true := by decide +kernel
theorem law_t_1056 : ckRun es_213 law_a_1056 law_cs_1056_ [] 4 2048 84000 599744 7301226 ckLawF ckKs ckKc 200000 0 1056 law_u_1056.2.1 [(18, ckGrow law_H, 1, 1, 1, 1)] = true := by decide +kernel
theorem law_t_1069 : ckRun es_213 law_a_1069 law_cs_1069_ [] 4 2048 84000 599744 7301226 ckLawF ckKs ckKc 200000 0 1069 law_u_1069.2.1 [(18, ckGrow law_H, 1, 1, 1, 1)] = true := by decide +kernel
theorem law_t_1082 : ckRun es_213 law_a_1082 law_cs_1082_ [] 4 2048 84000 599744 7301226 ckLawF ckKs ckKc 200000 0 1082 law_u_1082.2.1 [(18, ckGrow law_H, 1, 1, 1, 1)] = true := by decide +kernel
theorem law_t_1105 : ckRun es_213 law_a_1105 law_cs_1105_ [] 4 2048 84000 599744 7301226 ckLawF ckKs ckKc 200000 0 1105 law_u_1105.2.1 [(18, ckGrow law_H, 1, 1, 1, 1)] = true := by decide +kernel
