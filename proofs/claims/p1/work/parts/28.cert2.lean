/-! THE CHECKER: contracts with their certificates (printed by wip/gen/p1gen.py) -/
-- FarMachineModel.isIn
noncomputable def k135 : ckCtr := (45, ([(0, (0, 0)), (1, (0, 1))], [], [], [(3, 3), (10, 10)], [], [], [], [], 0, 0), [([], [(0, 2)], [], [], [], [(1, 1)], [], [], [], [], 0, 0)], 1, 80, 0, 0)
noncomputable def k135_a : ckAs := []
noncomputable def k135_c : List (Nat × ckCtr) := []
theorem k135_ok (l : Launch) : ckCtrOk l ckMT ckTW ckCL k135 := mt_45 (as := k135_a) (cs := k135_c) (gx := []) (f := 200000) rfl (fun _ h => absurd h List.not_mem_nil) True.intro (by decide +kernel)
-- FarMachineModel.state
noncomputable def k136 : ckCtr := (65, ([(0, (1, 0)), (1, (0, 0))], [], dC46, [(3, 3), (0, 0), (318, 318)], dG40, [], [], [], 0, 0), [([], [(0, 3)], [], [], [], [(60, 60)], [], [], [], [], 0, 0)], 2, 101, 0, 0)
noncomputable def k136_a : ckAs := []
noncomputable def k136_c : List (Nat × ckCtr) := [(3, k135)]
theorem k136_ok (l : Launch) : ckCtrOk l ckMT ckTW ckCL k136 := mt_65 (as := k136_a) (cs := k136_c) (gx := []) (f := 200000) rfl (ckHc (k135_ok l) (fun _ h => absurd h List.not_mem_nil)) True.intro (by decide +kernel)
-- FarMachineModel.isIn
noncomputable def k137 : ckCtr := (45, ([(0, (0, 0)), (1, (0, 1))], [], [], [(4, 4), (10, 10)], [], [], [], [], 0, 0), [([], [(0, 2)], [], [], [], [(1, 1)], [], [], [], [], 0, 0)], 1, 80, 0, 0)
noncomputable def k137_a : ckAs := []
noncomputable def k137_c : List (Nat × ckCtr) := []
theorem k137_ok (l : Launch) : ckCtrOk l ckMT ckTW ckCL k137 := mt_45 (as := k137_a) (cs := k137_c) (gx := []) (f := 200000) rfl (fun _ h => absurd h List.not_mem_nil) True.intro (by decide +kernel)
-- FarMachineModel.state
noncomputable def k138 : ckCtr := (65, ([(0, (1, 0)), (1, (0, 0))], [], dC46, [(4, 4), (0, 0), (318, 318)], dG40, [], [], [], 0, 0), [([], [(0, 1)], [], [], [], [], [], [], [], [], 0, 0)], 2, 101, 0, 0)
noncomputable def k138_a : ckAs := []
noncomputable def k138_c : List (Nat × ckCtr) := [(3, k137)]
theorem k138_ok (l : Launch) : ckCtrOk l ckMT ckTW ckCL k138 := mt_65 (as := k138_a) (cs := k138_c) (gx := []) (f := 200000) rfl (ckHc (k137_ok l) (fun _ h => absurd h List.not_mem_nil)) True.intro (by decide +kernel)
-- FarMachineModel.isIn
noncomputable def k139 : ckCtr := (45, ([(0, (0, 0)), (1, (0, 1))], [], [], [(5, 5), (10, 10)], [], [], [], [], 0, 0), [([], [(0, 2)], [], [], [], [(1, 1)], [], [], [], [], 0, 0)], 1, 80, 0, 0)
noncomputable def k139_a : ckAs := []
noncomputable def k139_c : List (Nat × ckCtr) := []
theorem k139_ok (l : Launch) : ckCtrOk l ckMT ckTW ckCL k139 := mt_45 (as := k139_a) (cs := k139_c) (gx := []) (f := 200000) rfl (fun _ h => absurd h List.not_mem_nil) True.intro (by decide +kernel)
-- FarMachineModel.state
noncomputable def k140 : ckCtr := (65, ([(0, (1, 0)), (1, (0, 0))], [], dC46, [(5, 5), (0, 0), (318, 318)], dG40, [], [], [], 0, 0), [([], [(0, 1)], [], [], [], [], [], [], [], [], 0, 0)], 2, 101, 0, 0)
noncomputable def k140_a : ckAs := []
noncomputable def k140_c : List (Nat × ckCtr) := [(3, k139)]
theorem k140_ok (l : Launch) : ckCtrOk l ckMT ckTW ckCL k140 := mt_65 (as := k140_a) (cs := k140_c) (gx := []) (f := 200000) rfl (ckHc (k139_ok l) (fun _ h => absurd h List.not_mem_nil)) True.intro (by decide +kernel)
-- FarMachineModel.isIn
noncomputable def k141 : ckCtr := (45, ([(0, (0, 0)), (1, (0, 1))], [], [], [(6, 6), (10, 10)], [], [], [], [], 0, 0), [([], [(0, 2)], [], [], [], [(1, 1)], [], [], [], [], 0, 0)], 1, 80, 0, 0)
noncomputable def k141_a : ckAs := []
noncomputable def k141_c : List (Nat × ckCtr) := []
theorem k141_ok (l : Launch) : ckCtrOk l ckMT ckTW ckCL k141 := mt_45 (as := k141_a) (cs := k141_c) (gx := []) (f := 200000) rfl (fun _ h => absurd h List.not_mem_nil) True.intro (by decide +kernel)
-- FarMachineModel.state
noncomputable def k142 : ckCtr := (65, ([(0, (1, 0)), (1, (0, 0))], [], dC46, [(6, 6), (0, 0), (318, 318)], dG40, [], [], [], 0, 0), [([], [(0, 1)], [], [], [], [], [], [], [], [], 0, 0)], 2, 101, 0, 0)
noncomputable def k142_a : ckAs := []
noncomputable def k142_c : List (Nat × ckCtr) := [(3, k141)]
theorem k142_ok (l : Launch) : ckCtrOk l ckMT ckTW ckCL k142 := mt_65 (as := k142_a) (cs := k142_c) (gx := []) (f := 200000) rfl (ckHc (k141_ok l) (fun _ h => absurd h List.not_mem_nil)) True.intro (by decide +kernel)
-- FarMachineModel.isIn
noncomputable def k143 : ckCtr := (45, ([(0, (0, 0)), (1, (0, 1))], [], [], [(7, 7), (10, 10)], [], [], [], [], 0, 0), [([], [(0, 2)], [], [], [], [(1, 1)], [], [], [], [], 0, 0)], 1, 80, 0, 0)
noncomputable def k143_a : ckAs := []
noncomputable def k143_c : List (Nat × ckCtr) := []
theorem k143_ok (l : Launch) : ckCtrOk l ckMT ckTW ckCL k143 := mt_45 (as := k143_a) (cs := k143_c) (gx := []) (f := 200000) rfl (fun _ h => absurd h List.not_mem_nil) True.intro (by decide +kernel)
-- FarMachineModel.powerOf
noncomputable def k144 : ckCtr := (49, ([(0, (0, 0))], [], [], [(0, 0)], [], [], [], [], 0, 0), [([], [(0, 1)], [], [], [], [(1, 1)], [], [], [], [], 0, 0)], 1, 80, 0, 0)
noncomputable def k144_a : ckAs := []
noncomputable def k144_c : List (Nat × ckCtr) := []
theorem k144_ok (l : Launch) : ckCtrOk l ckMT ckTW ckCL k144 := mt_49 (as := k144_a) (cs := k144_c) (gx := []) (f := 200000) rfl (fun _ h => absurd h List.not_mem_nil) True.intro (by decide +kernel)
-- FarMachineModel.power
noncomputable def k145 : ckCtr := (50, ([(0, (1, 0))], [], [.inr (0, 0, 0)], [(318, 318)], dG40, [], [], [], 0, 0), [([], [(0, 1)], [], [], [], [(0, 0)], [], [], [], [], 0, 0)], 2, 100, 0, 0)
noncomputable def k145_a : ckAs := []
noncomputable def k145_c : List (Nat × ckCtr) := [(23, k144)]
noncomputable def k145_u0 : ckCut := (4, ([(0, (1, 0)), (1, (0, 1)), (2, (0, 2))], [], [.inr (0, 0, 0)], [(318, 318), (0, 0), (4, 4)], dG40, [], [], [], 0, 0), 1, 1, 0, 0)
noncomputable def k145_u1 : ckCut := (4, ([(0, (1, 0)), (1, (0, 1)), (2, (0, 2))], [], [.inr (0, 0, 0)], [(318, 318), (0, 0), (8, 8)], dG40, [], [], [], 0, 0), 1, 1, 0, 0)
noncomputable def k145_g1 : List ckCut := [k145_u1]
noncomputable def k145_g0 : List ckCut := k145_u0 :: k145_g1
theorem k145_t0 : ckRun es_50 k145_a k145_c k145_g1 3 2 100 0 0 (ckEndF 1 0 0 k145.2.1 k145.2.2.1) ckKs ckKc 200000 0 4 k145_u0.2.1 [] = true := by decide +kernel
theorem k145_t1 : ckRun es_50 k145_a k145_c [] 3 2 100 0 0 (ckEndF 1 0 0 k145.2.1 k145.2.2.1) ckKs ckKc 200000 0 4 k145_u1.2.1 [] = true := by decide +kernel
theorem k145_ok (l : Launch) : ckCtrOk l ckMT ckTW ckCL k145 := mt_50 (as := k145_a) (cs := k145_c) (gx := k145_g0) (f := 200000) rfl (ckHc (k144_ok l) (fun _ h => absurd h List.not_mem_nil)) ⟨k145_t0, ⟨k145_t1, True.intro⟩⟩ (by decide +kernel)
-- FarMachineModel.state
noncomputable def k146 : ckCtr := (65, ([(0, (1, 0)), (1, (0, 0))], [], dC46, [(7, 7), (0, 0), (318, 318)], dG40, [], [], [], 0, 0), [([], [(0, 1)], [], [], [], [], [], [], [], [], 0, 0)], 3, 122, 0, 0)
noncomputable def k146_a : ckAs := []
noncomputable def k146_c : List (Nat × ckCtr) := [(3, k143), (64, k145)]
theorem k146_ok (l : Launch) : ckCtrOk l ckMT ckTW ckCL k146 := mt_65 (as := k146_a) (cs := k146_c) (gx := []) (f := 200000) rfl (ckHc (k143_ok l) (ckHc (k145_ok l) (fun _ h => absurd h List.not_mem_nil))) True.intro (by decide +kernel)
-- FarMachineModel.isIn
noncomputable def k147 : ckCtr := (45, ([(0, (0, 0)), (1, (0, 1))], [], [], [(8, 8), (10, 10)], [], [], [], [], 0, 0), [([], [(0, 2)], [], [], [], [(1, 1)], [], [], [], [], 0, 0)], 1, 80, 0, 0)
noncomputable def k147_a : ckAs := []
noncomputable def k147_c : List (Nat × ckCtr) := []
theorem k147_ok (l : Launch) : ckCtrOk l ckMT ckTW ckCL k147 := mt_45 (as := k147_a) (cs := k147_c) (gx := []) (f := 200000) rfl (fun _ h => absurd h List.not_mem_nil) True.intro (by decide +kernel)
-- FarMachineModel.ons
noncomputable def k148 : ckCtr := (52, ([(0, (1, 0))], [], [.inr (0, 0, 0)], [(318, 318)], dG40, [], [], [], 0, 0), [([], [(0, 1)], [], [], [], [(0, 0)], [], [], [], [], 0, 0)], 1, 80, 0, 0)
noncomputable def k148_a : ckAs := []
noncomputable def k148_c : List (Nat × ckCtr) := []
noncomputable def k148_u0 : ckCut := (4, ([(0, (1, 0)), (1, (0, 1)), (2, (0, 2))], [], [.inr (0, 0, 0)], [(318, 318), (0, 0), (6, 6)], dG40, [], [], [], 0, 0), 1, 1, 0, 0)
noncomputable def k148_g0 : List ckCut := [k148_u0]
theorem k148_t0 : ckRun es_52 k148_a k148_c [] 3 1 80 0 0 (ckEndF 1 0 0 k148.2.1 k148.2.2.1) ckKs ckKc 200000 0 4 k148_u0.2.1 [] = true := by decide +kernel
theorem k148_ok (l : Launch) : ckCtrOk l ckMT ckTW ckCL k148 := mt_52 (as := k148_a) (cs := k148_c) (gx := k148_g0) (f := 200000) rfl (fun _ h => absurd h List.not_mem_nil) ⟨k148_t0, True.intro⟩ (by decide +kernel)
-- FarMachineModel.state
noncomputable def k149 : ckCtr := (65, ([(0, (1, 0)), (1, (0, 0))], [], dC46, [(8, 8), (0, 0), (318, 318)], dG40, [], [], [], 0, 0), [([], [(0, 1)], [], [], [], [], [], [], [], [], 0, 0)], 2, 102, 0, 0)
noncomputable def k149_a : ckAs := []
noncomputable def k149_c : List (Nat × ckCtr) := [(3, k147), (80, k148)]
theorem k149_ok (l : Launch) : ckCtrOk l ckMT ckTW ckCL k149 := mt_65 (as := k149_a) (cs := k149_c) (gx := []) (f := 200000) rfl (ckHc (k147_ok l) (ckHc (k148_ok l) (fun _ h => absurd h List.not_mem_nil))) True.intro (by decide +kernel)
-- FarMachineModel.isIn
noncomputable def k150 : ckCtr := (45, ([(0, (0, 0)), (1, (0, 1))], [], [], [(9, 9), (10, 10)], [], [], [], [], 0, 0), [([], [(0, 2)], [], [], [], [(1, 1)], [], [], [], [], 0, 0)], 1, 80, 0, 0)
noncomputable def k150_a : ckAs := []
noncomputable def k150_c : List (Nat × ckCtr) := []
theorem k150_ok (l : Launch) : ckCtrOk l ckMT ckTW ckCL k150 := mt_45 (as := k150_a) (cs := k150_c) (gx := []) (f := 200000) rfl (fun _ h => absurd h List.not_mem_nil) True.intro (by decide +kernel)
-- FarMachineModel.state
noncomputable def k151 : ckCtr := (65, ([(0, (1, 0)), (1, (0, 0))], [], dC46, [(9, 9), (0, 0), (318, 318)], dG40, [], [], [], 0, 0), [([], [(0, 1)], [], [], [], [], [], [], [], [], 0, 0)], 2, 101, 0, 0)
noncomputable def k151_a : ckAs := []
noncomputable def k151_c : List (Nat × ckCtr) := [(3, k150)]
theorem k151_ok (l : Launch) : ckCtrOk l ckMT ckTW ckCL k151 := mt_65 (as := k151_a) (cs := k151_c) (gx := []) (f := 200000) rfl (ckHc (k150_ok l) (fun _ h => absurd h List.not_mem_nil)) True.intro (by decide +kernel)
-- FarMachineModel.isIn
noncomputable def k152 : ckCtr := (45, ([(0, (0, 0)), (1, (0, 1))], [], [], [(10, 2147483647), (10, 10)], [], [], [], [], 0, 0), [([], [(0, 2)], [], [], [], [(0, 0)], [], [], [], [], 0, 0)], 1, 80, 0, 0)
noncomputable def k152_a : ckAs := []
noncomputable def k152_c : List (Nat × ckCtr) := []
theorem k152_ok (l : Launch) : ckCtrOk l ckMT ckTW ckCL k152 := mt_45 (as := k152_a) (cs := k152_c) (gx := []) (f := 200000) rfl (fun _ h => absurd h List.not_mem_nil) True.intro (by decide +kernel)
-- FarMachineModel.state
noncomputable def k153 : ckCtr := (65, ([(0, (1, 0)), (1, (0, 0))], [], dC42, [(10, 2147483647), (0, 0), (7, 7)], [([(7, (0, 0))], [], [])], [], [], [], 0, 0), [([], [(0, 3)], [(1, .inr (0, 2, 1))], [], [], [(1002, 1002), (1, 1)], [([(2, (0, 0)), (3, (1, 1)), (7, (0, 0))], [(2, 4)], [])], [], [], [], 0, 0)], 2, 101, 0, 0)
noncomputable def k153_a : ckAs := []
noncomputable def k153_c : List (Nat × ckCtr) := [(3, k152), (15, k48)]
theorem k153_ok (l : Launch) : ckCtrOk l ckMT ckTW ckCL k153 := mt_65 (as := k153_a) (cs := k153_c) (gx := []) (f := 200000) rfl (ckHc (k152_ok l) (ckHc (k48_ok l) (fun _ h => absurd h List.not_mem_nil))) True.intro (by decide +kernel)
-- FarMachineModel.isIn
noncomputable def k154 : ckCtr := (45, ([(0, (0, 0)), (1, (0, 1))], [], [], [(-2147483648, -1), (10, 10)], [], [], [], [], 0, 0), [([], [(0, 2)], [], [], [], [(0, 0)], [], [], [], [], 0, 0)], 1, 80, 0, 0)
noncomputable def k154_a : ckAs := []
noncomputable def k154_c : List (Nat × ckCtr) := []
theorem k154_ok (l : Launch) : ckCtrOk l ckMT ckTW ckCL k154 := mt_45 (as := k154_a) (cs := k154_c) (gx := []) (f := 200000) rfl (fun _ h => absurd h List.not_mem_nil) True.intro (by decide +kernel)
-- FarMachineModel.state
noncomputable def k155 : ckCtr := (65, ([(0, (1, 0)), (1, (0, 0))], [], dC42, [(-2147483648, -1), (0, 0), (7, 7)], [([(7, (0, 0))], [], [])], [], [], [], 0, 0), [([], [(0, 3)], [(1, .inr (0, 2, 1))], [], [], [(1002, 1002), (1, 1)], [([(2, (0, 0)), (3, (1, 1)), (7, (0, 0))], [(2, 4)], [])], [], [], [], 0, 0)], 2, 101, 0, 0)
noncomputable def k155_a : ckAs := []
noncomputable def k155_c : List (Nat × ckCtr) := [(3, k154), (15, k48)]
theorem k155_ok (l : Launch) : ckCtrOk l ckMT ckTW ckCL k155 := mt_65 (as := k155_a) (cs := k155_c) (gx := []) (f := 200000) rfl (ckHc (k154_ok l) (ckHc (k48_ok l) (fun _ h => absurd h List.not_mem_nil))) True.intro (by decide +kernel)
-- FarMachine.refuseFar
noncomputable def k156 : ckCtr := (35, ([(0, (1, 0)), (1, (0, 0))], [], dC32, [(-4, -4), (0, 0), (7, 7)], [([(7, (0, 0))], [], [])], [], [], [], 0, 0), [([], [(0, 3)], [(1, .inr (0, 2, 1))], [], [], [(1004, 1004), (1, 1)], [([(4, (0, 0)), (5, (1, 1)), (7, (0, 0))], [(4, 4)], [])], [], [], [], 0, 0)], 2, 101, 0, 0)
noncomputable def k156_a : ckAs := []
noncomputable def k156_c : List (Nat × ckCtr) := [(5, k15)]
theorem k156_ok (l : Launch) : ckCtrOk l ckMT ckTW ckCL k156 := mt_35 (as := k156_a) (cs := k156_c) (gx := []) (f := 200000) rfl (ckHc (k15_ok l) (fun _ h => absurd h List.not_mem_nil)) True.intro (by decide +kernel)
-- FarMachine.refuseFar
noncomputable def k157 : ckCtr := (35, ([(0, (1, 0)), (1, (0, 0))], [], dC32, [(-6, -6), (0, 0), (7, 7)], [([(7, (0, 0))], [], [])], [], [], [], 0, 0), [([], [(0, 3)], [(1, .inr (0, 2, 1))], [], [], [(1006, 1006), (1, 1)], [([(6, (0, 0)), (7, (1, 1))], [(6, 4)], [])], [], [], [], 0, 0)], 2, 101, 0, 0)
noncomputable def k157_a : ckAs := []
noncomputable def k157_c : List (Nat × ckCtr) := [(5, k16)]
theorem k157_ok (l : Launch) : ckCtrOk l ckMT ckTW ckCL k157 := mt_35 (as := k157_a) (cs := k157_c) (gx := []) (f := 200000) rfl (ckHc (k16_ok l) (fun _ h => absurd h List.not_mem_nil)) True.intro (by decide +kernel)
noncomputable def dC113 : List ckC := [.inl (2, [(4, 10), (4, 11), (4, 12), (0, 0), (0, 0), (0, 0), (0, 1), (0, 2), (0, 0), (0, 0), (0, 3), (0, 4), (0, 5), (0, 6), (0, 0), (0, 0)])]
noncomputable def dT114 : List ckI := [(0, 0), (50, 50), (60, 60), (10, 10), (24, 24), (200, 200), (9, 9)]
-- FarMachine$Machine.isOn
noncomputable def k158 : ckCtr := (131, ([(0, (1, 0)), (1, (0, 0))], [], dC113, dT114, [], [], [], [], 0, 0), [([], [(0, 0)], [], [], [], [], [], [], [], [], 0, 0)], 1, 80, 0, 0)
noncomputable def k158_a : ckAs := []
noncomputable def k158_c : List (Nat × ckCtr) := []
theorem k158_ok (l : Launch) : ckCtrOk l ckMT ckTW ckCL k158 := mt_131 (as := k158_a) (cs := k158_c) (gx := []) (f := 200000) rfl (fun _ h => absurd h List.not_mem_nil) True.intro (by decide +kernel)
noncomputable def dT115 : List ckI := [(1, 1), (0, 0), (50, 50), (60, 60), (10, 10), (24, 24), (200, 200), (9, 9)]
-- FarMachine$Machine.isOn
noncomputable def k159 : ckCtr := (131, ([(0, (1, 0)), (1, (0, 0))], [], dC53, dT115, [], [], [], [], 0, 0), [([], [(0, 1)], [], [], [], [], [], [], [], [], 0, 0)], 1, 80, 0, 0)
noncomputable def k159_a : ckAs := []
noncomputable def k159_c : List (Nat × ckCtr) := []
theorem k159_ok (l : Launch) : ckCtrOk l ckMT ckTW ckCL k159 := mt_131 (as := k159_a) (cs := k159_c) (gx := []) (f := 200000) rfl (fun _ h => absurd h List.not_mem_nil) True.intro (by decide +kernel)
noncomputable def dT116 : List ckI := [(2, 2), (0, 0), (50, 50), (60, 60), (10, 10), (24, 24), (200, 200), (9, 9)]
-- FarMachine$Machine.isOn
noncomputable def k160 : ckCtr := (131, ([(0, (1, 0)), (1, (0, 0))], [], dC53, dT116, [], [], [], [], 0, 0), [([], [(0, 1)], [], [], [], [], [], [], [], [], 0, 0)], 1, 80, 0, 0)
noncomputable def k160_a : ckAs := []
noncomputable def k160_c : List (Nat × ckCtr) := []
theorem k160_ok (l : Launch) : ckCtrOk l ckMT ckTW ckCL k160 := mt_131 (as := k160_a) (cs := k160_c) (gx := []) (f := 200000) rfl (fun _ h => absurd h List.not_mem_nil) True.intro (by decide +kernel)
noncomputable def dT117 : List ckI := [(3, 3), (0, 0), (50, 50), (60, 60), (10, 10), (24, 24), (200, 200), (9, 9)]
-- FarMachine$Machine.isOn
noncomputable def k161 : ckCtr := (131, ([(0, (1, 0)), (1, (0, 0))], [], dC53, dT117, [], [], [], [], 0, 0), [([], [(0, 1)], [], [], [], [], [], [], [], [], 0, 0)], 1, 80, 0, 0)
noncomputable def k161_a : ckAs := []
noncomputable def k161_c : List (Nat × ckCtr) := []
theorem k161_ok (l : Launch) : ckCtrOk l ckMT ckTW ckCL k161 := mt_131 (as := k161_a) (cs := k161_c) (gx := []) (f := 200000) rfl (fun _ h => absurd h List.not_mem_nil) True.intro (by decide +kernel)
noncomputable def dT118 : List ckI := [(4, 4), (0, 0), (50, 50), (60, 60), (10, 10), (24, 24), (200, 200), (9, 9)]
-- FarMachine$Machine.isOn
noncomputable def k162 : ckCtr := (131, ([(0, (1, 0)), (1, (0, 0))], [], dC53, dT118, [], [], [], [], 0, 0), [([], [(0, 1)], [], [], [], [], [], [], [], [], 0, 0)], 1, 80, 0, 0)
noncomputable def k162_a : ckAs := []
noncomputable def k162_c : List (Nat × ckCtr) := []
theorem k162_ok (l : Launch) : ckCtrOk l ckMT ckTW ckCL k162 := mt_131 (as := k162_a) (cs := k162_c) (gx := []) (f := 200000) rfl (fun _ h => absurd h List.not_mem_nil) True.intro (by decide +kernel)
noncomputable def dT119 : List ckI := [(5, 5), (0, 0), (50, 50), (60, 60), (10, 10), (24, 24), (200, 200), (9, 9)]
-- FarMachine$Machine.isOn
noncomputable def k163 : ckCtr := (131, ([(0, (1, 0)), (1, (0, 0))], [], dC53, dT119, [], [], [], [], 0, 0), [([], [(0, 1)], [], [], [], [], [], [], [], [], 0, 0)], 1, 80, 0, 0)
noncomputable def k163_a : ckAs := []
noncomputable def k163_c : List (Nat × ckCtr) := []
theorem k163_ok (l : Launch) : ckCtrOk l ckMT ckTW ckCL k163 := mt_131 (as := k163_a) (cs := k163_c) (gx := []) (f := 200000) rfl (fun _ h => absurd h List.not_mem_nil) True.intro (by decide +kernel)
noncomputable def dT120 : List ckI := [(6, 6), (0, 0), (50, 50), (60, 60), (10, 10), (24, 24), (200, 200), (9, 9)]
-- FarMachine$Machine.isOn
noncomputable def k164 : ckCtr := (131, ([(0, (1, 0)), (1, (0, 0))], [], dC53, dT120, [], [], [], [], 0, 0), [([], [(0, 1)], [], [], [], [], [], [], [], [], 0, 0)], 1, 80, 0, 0)
noncomputable def k164_a : ckAs := []
noncomputable def k164_c : List (Nat × ckCtr) := []
theorem k164_ok (l : Launch) : ckCtrOk l ckMT ckTW ckCL k164 := mt_131 (as := k164_a) (cs := k164_c) (gx := []) (f := 200000) rfl (fun _ h => absurd h List.not_mem_nil) True.intro (by decide +kernel)
noncomputable def dT121 : List ckI := [(7, 7), (0, 0), (50, 50), (60, 60), (10, 10), (24, 24), (200, 200), (9, 9)]
-- FarMachine$Machine.isOn
noncomputable def k165 : ckCtr := (131, ([(0, (1, 0)), (1, (0, 0))], [], dC53, dT121, [], [], [], [], 0, 0), [([], [(0, 1)], [], [], [], [], [], [], [], [], 0, 0)], 1, 80, 0, 0)
noncomputable def k165_a : ckAs := []
noncomputable def k165_c : List (Nat × ckCtr) := []
theorem k165_ok (l : Launch) : ckCtrOk l ckMT ckTW ckCL k165 := mt_131 (as := k165_a) (cs := k165_c) (gx := []) (f := 200000) rfl (fun _ h => absurd h List.not_mem_nil) True.intro (by decide +kernel)
-- FarMachine$Machine.feelHeat
noncomputable def k166 : ckCtr := (142, ([(0, (1, 0))], [], dC107, dT108, [([(8, (0, 0))], [], [])], [], [], [], 0, 0), [([], [(0, 0)], [], [], [], [], [], [], [], [], 0, 0)], 2, 101, 0, 0)
noncomputable def k166_a : ckAs := []
noncomputable def k166_c : List (Nat × ckCtr) := [(13, k158), (13, k159), (13, k160), (13, k161), (13, k162), (13, k163), (13, k164), (13, k165), (36, k158), (36, k159), (36, k160), (36, k161), (36, k162), (36, k163), (36, k164), (36, k165)]
theorem k166_ok (l : Launch) : ckCtrOk l ckMT ckTW ckCL k166 := mt_142 (as := k166_a) (cs := k166_c) (gx := []) (f := 200000) rfl (ckHc (k158_ok l) (ckHc (k159_ok l) (ckHc (k160_ok l) (ckHc (k161_ok l) (ckHc (k162_ok l) (ckHc (k163_ok l) (ckHc (k164_ok l) (ckHc (k165_ok l) (ckHc (k158_ok l) (ckHc (k159_ok l) (ckHc (k160_ok l) (ckHc (k161_ok l) (ckHc (k162_ok l) (ckHc (k163_ok l) (ckHc (k164_ok l) (ckHc (k165_ok l) (fun _ h => absurd h List.not_mem_nil))))))))))))))))) True.intro (by decide +kernel)
-- java/lang/Integer.bitCount
noncomputable def k167 : ckCtr := (193, ([(0, (0, 0))], [], [], [(0, 0)], [], [], [], [], 0, 0), [([], [(0, 0)], [], [], [], [], [], [], [], [], 0, 0)], 1, 80, 0, 0)
noncomputable def k167_a : ckAs := []
noncomputable def k167_c : List (Nat × ckCtr) := []
theorem k167_ok (l : Launch) : ckCtrOk l ckMT ckTW ckCL k167 := mt_193 (as := k167_a) (cs := k167_c) (gx := []) (f := 200000) rfl (fun _ h => absurd h List.not_mem_nil) True.intro (by decide +kernel)
-- FarMachine.isWord
noncomputable def k168 : ckCtr := (36, ([(0, (0, 0))], [], [], [(24, 47)], [], [], [], [], 0, 0), [([], [(0, 1)], [], [], [], [(1, 1)], [], [], [], [], 0, 0)], 1, 80, 0, 0)
noncomputable def k168_a : ckAs := []
noncomputable def k168_c : List (Nat × ckCtr) := []
theorem k168_ok (l : Launch) : ckCtrOk l ckMT ckTW ckCL k168 := mt_36 (as := k168_a) (cs := k168_c) (gx := []) (f := 200000) rfl (fun _ h => absurd h List.not_mem_nil) True.intro (by decide +kernel)
noncomputable def dT122 : List ckI := [(24, 47), (0, 0), (50, 50), (60, 60), (10, 10), (24, 24), (200, 200), (9, 9), (48, 48)]
-- FarMachine$Machine.readWord
noncomputable def k169 : ckCtr := (127, ([(0, (1, 0)), (1, (0, 0))], [], dC33, dT122, [([(48, (0, 0))], [], [])], [], [], [], 0, 0), [([], [(0, 1)], [], [], [], [], [], [], [], [], 0, 0)], 2, 100, 0, 0)
noncomputable def k169_a : ckAs := []
noncomputable def k169_c : List (Nat × ckCtr) := [(1, k168)]
theorem k169_ok (l : Launch) : ckCtrOk l ckMT ckTW ckCL k169 := mt_127 (as := k169_a) (cs := k169_c) (gx := []) (f := 200000) rfl (ckHc (k168_ok l) (fun _ h => absurd h List.not_mem_nil)) True.intro (by decide +kernel)
noncomputable def dC123 : List ckC := [.inl (2, [(1, 1), (1, 2), (4, 10), (0, 1), (0, 1), (0, 1), (0, 2), (0, 3), (0, 1), (0, 1), (0, 4), (0, 5), (0, 6), (0, 7), (0, 1), (0, 1)]), .inr (0, 8, 0), .inr (0, 9, 1)]
noncomputable def dT124 : List ckI := [(0, 31), (0, 0), (50, 50), (60, 60), (10, 10), (24, 24), (200, 200), (9, 9), (48, 48), (8, 8)]
-- FarMachine$Machine.feel
noncomputable def k170 : ckCtr := (141, ([(0, (1, 0)), (1, (0, 0))], [], dC123, dT124, [([(48, (0, 0))], [], []), ([(8, (0, 0))], [], [])], [], [], [], 0, 0), [([], [(0, 10)], [], [], [(0, (8, 31))], [(-128, -128)], [], [], [], [], 0, 0), ([], [(0, 1)], [], [], [(0, (0, 0))], [], [], [], [], [], 0, 0), ([], [(0, 3)], [], [], [(0, (1, 1))], [], [], [], [], [], 0, 0), ([], [(0, 1)], [], [], [(0, (2, 2))], [], [], [], [], [], 0, 0), ([], [(0, 1)], [], [], [(0, (3, 3))], [], [], [], [], [], 0, 0), ([], [(0, 1)], [], [], [(0, (4, 4))], [], [], [], [], [], 0, 0), ([], [(0, 1)], [], [], [(0, (5, 5))], [], [], [], [], [], 0, 0), ([], [(0, 1)], [], [], [(0, (6, 6))], [], [], [], [], [], 0, 0), ([], [(0, 1)], [], [], [(0, (7, 7))], [], [], [], [], [], 0, 0)], 3, 126, 0, 0)
noncomputable def k170_a : ckAs := []
noncomputable def k170_c : List (Nat × ckCtr) := [(49, k166), (75, k167), (93, k126), (102, k169)]
theorem k170_ok (l : Launch) : ckCtrOk l ckMT ckTW ckCL k170 := mt_141 (as := k170_a) (cs := k170_c) (gx := []) (f := 200000) rfl (ckHc (k166_ok l) (ckHc (k167_ok l) (ckHc (k126_ok l) (ckHc (k169_ok l) (fun _ h => absurd h List.not_mem_nil))))) True.intro (by decide +kernel)
noncomputable def dC125 : List ckC := [.inl (8, [(1, 1), (4, 10), (0, 1), (4, 11), (4, 12), (4, 13), (4, 14), (1, 2)]), .inl (7, [(1, 3), (4, 15), (0, 1), (4, 16), (4, 17), (4, 18), (4, 19), (4, 20), (4, 21), (4, 22)]), .inr (0, 2, 0), .inl (2, [(1, 4), (1, 5), (4, 23), (0, 1), (0, 1), (0, 1), (0, 3), (0, 4), (0, 1), (0, 1), (0, 5), (0, 6), (0, 7), (0, 8), (0, 1), (0, 1)]), .inr (0, 9, 1), .inr (0, 10, 2)]
noncomputable def dT126 : List ckI := [ckTop, (0, 0), (7, 7), (50, 50), (60, 60), (10, 10), (24, 24), (200, 200), (9, 9), (48, 48), (8, 8)]
noncomputable def dG127 : List ckG := [([(7, (0, 0))], [], []), ([(48, (0, 0))], [], []), ([(8, (0, 0))], [], [])]
-- FarMachine.felt
noncomputable def k171 : ckCtr := (6, ([(0, (1, 0)), (1, (0, 0))], [], dC125, dT126, dG127, [], [], [], 0, 0), [([], [(0, 11)], [(2, .inr (0, 2, 3))], [], [(0, (-2147483648, -1))], [(1004, 1004), (1, 1)], [([(4, (0, 0)), (5, (1, 1)), (7, (0, 0))], [(4, 12)], [])], [], [], [], 0, 0), ([], [(0, 11)], [(2, .inr (0, 2, 3))], [], [(0, (32, 2147483647))], [(1006, 1006), (1, 1)], [([(6, (0, 0)), (7, (1, 1))], [(6, 12)], [])], [], [], [], 0, 0), ([], [(0, 1)], [], [], [(0, (0, 0))], [], [], [], [], [], 0, 0), ([], [(0, 4)], [], [], [(0, (1, 1))], [], [], [], [], [], 0, 0), ([], [(0, 1)], [], [], [(0, (2, 2))], [], [], [], [], [], 0, 0), ([], [(0, 1)], [], [], [(0, (3, 3))], [], [], [], [], [], 0, 0), ([], [(0, 1)], [], [], [(0, (4, 4))], [], [], [], [], [], 0, 0), ([], [(0, 1)], [], [], [(0, (5, 5))], [], [], [], [], [], 0, 0), ([], [(0, 1)], [], [], [(0, (6, 6))], [], [], [], [], [], 0, 0), ([], [(0, 1)], [], [], [(0, (7, 7))], [], [], [], [], [], 0, 0), ([], [(0, 11)], [], [], [(0, (8, 31))], [(-128, -128)], [], [], [], [], 0, 0)], 4, 147, 0, 0)
noncomputable def k171_a : ckAs := []
noncomputable def k171_c : List (Nat × ckCtr) := [(7, k156), (20, k157), (34, k170)]
theorem k171_ok (l : Launch) : ckCtrOk l ckMT ckTW ckCL k171 := mt_6 (as := k171_a) (cs := k171_c) (gx := []) (f := 200000) rfl (ckHc (k156_ok l) (ckHc (k157_ok l) (ckHc (k170_ok l) (fun _ h => absurd h List.not_mem_nil)))) True.intro (by decide +kernel)
-- FarMachineModel.within
noncomputable def k172 : ckCtr := (46, ([(0, (0, 0)), (1, (0, 0)), (2, (0, 1))], [], [], [(0, 0), (31, 31)], [], [], [], [], 0, 0), [([], [(0, 0)], [], [], [], [], [], [], [], [], 0, 0)], 1, 80, 0, 0)
noncomputable def k172_a : ckAs := []
noncomputable def k172_c : List (Nat × ckCtr) := []
theorem k172_ok (l : Launch) : ckCtrOk l ckMT ckTW ckCL k172 := mt_46 (as := k172_a) (cs := k172_c) (gx := []) (f := 200000) rfl (fun _ h => absurd h List.not_mem_nil) True.intro (by decide +kernel)
-- FarMachineModel.warmth
noncomputable def k173 : ckCtr := (54, ([(0, (1, 0))], [], [.inr (0, 0, 0)], [(318, 318)], dG40, [], [], [], 0, 0), [([], [(0, 1)], [], [], [], [(0, 0)], [], [], [], [], 0, 0)], 1, 80, 0, 0)
noncomputable def k173_a : ckAs := []
noncomputable def k173_c : List (Nat × ckCtr) := []
noncomputable def k173_u0 : ckCut := (2, ([(0, (1, 0)), (1, (0, 1))], [], [.inr (0, 0, 0)], [(318, 318), (8, 8)], dG40, [], [], [], 0, 0), 1, 1, 0, 0)
noncomputable def k173_g0 : List ckCut := [k173_u0]
theorem k173_t0 : ckRun es_54 k173_a k173_c [] 2 1 80 0 0 (ckEndF 1 0 0 k173.2.1 k173.2.2.1) ckKs ckKc 200000 0 2 k173_u0.2.1 [] = true := by decide +kernel
theorem k173_ok (l : Launch) : ckCtrOk l ckMT ckTW ckCL k173 := mt_54 (as := k173_a) (cs := k173_c) (gx := k173_g0) (f := 200000) rfl (fun _ h => absurd h List.not_mem_nil) ⟨k173_t0, True.intro⟩ (by decide +kernel)
-- FarMachineModel.feels
noncomputable def k174 : ckCtr := (55, ([(0, (1, 0)), (1, (0, 0))], [], [.inr (0, 1, 0)], [(0, 0), (318, 318)], dG40, [], [], [], 0, 0), [([], [(0, 0)], [], [], [], [], [], [], [], [], 0, 0)], 2, 101, 0, 0)
noncomputable def k174_a : ckAs := []
noncomputable def k174_c : List (Nat × ckCtr) := [(49, k173)]
theorem k174_ok (l : Launch) : ckCtrOk l ckMT ckTW ckCL k174 := mt_55 (as := k174_a) (cs := k174_c) (gx := []) (f := 200000) rfl (ckHc (k173_ok l) (fun _ h => absurd h List.not_mem_nil)) True.intro (by decide +kernel)
-- FarMachineModel.felt
noncomputable def k175 : ckCtr := (66, ([(0, (1, 0)), (1, (0, 0))], [], dC112, [(0, 0), (318, 318)], dG40, [], [], [], 0, 0), [([], [(0, 0)], [], [], [], [], [], [], [], [], 0, 0)], 3, 122, 0, 0)
noncomputable def k175_a : ckAs := []
noncomputable def k175_c : List (Nat × ckCtr) := [(4, k172), (29, k174)]
theorem k175_ok (l : Launch) : ckCtrOk l ckMT ckTW ckCL k175 := mt_66 (as := k175_a) (cs := k175_c) (gx := []) (f := 200000) rfl (ckHc (k172_ok l) (ckHc (k174_ok l) (fun _ h => absurd h List.not_mem_nil))) True.intro (by decide +kernel)
-- FarMachineModel.within
noncomputable def k176 : ckCtr := (46, ([(0, (0, 0)), (1, (0, 1)), (2, (0, 2))], [], [], [(1, 1), (0, 0), (31, 31)], [], [], [], [], 0, 0), [([], [(0, 1)], [], [], [], [], [], [], [], [], 0, 0)], 1, 80, 0, 0)
noncomputable def k176_a : ckAs := []
noncomputable def k176_c : List (Nat × ckCtr) := []
theorem k176_ok (l : Launch) : ckCtrOk l ckMT ckTW ckCL k176 := mt_46 (as := k176_a) (cs := k176_c) (gx := []) (f := 200000) rfl (fun _ h => absurd h List.not_mem_nil) True.intro (by decide +kernel)
-- FarMachineModel.feels
noncomputable def k177 : ckCtr := (55, ([(0, (1, 0)), (1, (0, 0))], [], [.inr (0, 1, 0)], [(1, 1), (318, 318)], dG40, [], [], [], 0, 0), [([], [(0, 2)], [], [], [], [(60, 60)], [], [], [], [], 0, 0)], 1, 80, 0, 0)
noncomputable def k177_a : ckAs := []
noncomputable def k177_c : List (Nat × ckCtr) := []
theorem k177_ok (l : Launch) : ckCtrOk l ckMT ckTW ckCL k177 := mt_55 (as := k177_a) (cs := k177_c) (gx := []) (f := 200000) rfl (fun _ h => absurd h List.not_mem_nil) True.intro (by decide +kernel)
-- FarMachineModel.felt
noncomputable def k178 : ckCtr := (66, ([(0, (1, 0)), (1, (0, 0))], [], dC46, [(1, 1), (0, 0), (318, 318)], dG40, [], [], [], 0, 0), [([], [(0, 3)], [], [], [], [(60, 60)], [], [], [], [], 0, 0)], 2, 102, 0, 0)
noncomputable def k178_a : ckAs := []
noncomputable def k178_c : List (Nat × ckCtr) := [(4, k176), (29, k177)]
theorem k178_ok (l : Launch) : ckCtrOk l ckMT ckTW ckCL k178 := mt_66 (as := k178_a) (cs := k178_c) (gx := []) (f := 200000) rfl (ckHc (k176_ok l) (ckHc (k177_ok l) (fun _ h => absurd h List.not_mem_nil))) True.intro (by decide +kernel)
-- FarMachineModel.within
noncomputable def k179 : ckCtr := (46, ([(0, (0, 0)), (1, (0, 1)), (2, (0, 2))], [], [], [(2, 2), (0, 0), (31, 31)], [], [], [], [], 0, 0), [([], [(0, 1)], [], [], [], [], [], [], [], [], 0, 0)], 1, 80, 0, 0)
noncomputable def k179_a : ckAs := []
noncomputable def k179_c : List (Nat × ckCtr) := []
theorem k179_ok (l : Launch) : ckCtrOk l ckMT ckTW ckCL k179 := mt_46 (as := k179_a) (cs := k179_c) (gx := []) (f := 200000) rfl (fun _ h => absurd h List.not_mem_nil) True.intro (by decide +kernel)
-- FarMachineModel.feels
noncomputable def k180 : ckCtr := (55, ([(0, (1, 0)), (1, (0, 0))], [], [.inr (0, 1, 0)], [(2, 2), (318, 318)], dG40, [], [], [], 0, 0), [([], [(0, 2)], [], [], [], [(0, 0)], [], [], [], [], 0, 0)], 1, 80, 0, 0)
noncomputable def k180_a : ckAs := []
noncomputable def k180_c : List (Nat × ckCtr) := []
theorem k180_ok (l : Launch) : ckCtrOk l ckMT ckTW ckCL k180 := mt_55 (as := k180_a) (cs := k180_c) (gx := []) (f := 200000) rfl (fun _ h => absurd h List.not_mem_nil) True.intro (by decide +kernel)
-- FarMachineModel.felt
noncomputable def k181 : ckCtr := (66, ([(0, (1, 0)), (1, (0, 0))], [], dC46, [(2, 2), (0, 0), (318, 318)], dG40, [], [], [], 0, 0), [([], [(0, 1)], [], [], [], [], [], [], [], [], 0, 0)], 2, 102, 0, 0)
noncomputable def k181_a : ckAs := []
noncomputable def k181_c : List (Nat × ckCtr) := [(4, k179), (29, k180)]
theorem k181_ok (l : Launch) : ckCtrOk l ckMT ckTW ckCL k181 := mt_66 (as := k181_a) (cs := k181_c) (gx := []) (f := 200000) rfl (ckHc (k179_ok l) (ckHc (k180_ok l) (fun _ h => absurd h List.not_mem_nil))) True.intro (by decide +kernel)
-- FarMachineModel.within
noncomputable def k182 : ckCtr := (46, ([(0, (0, 0)), (1, (0, 1)), (2, (0, 2))], [], [], [(3, 3), (0, 0), (31, 31)], [], [], [], [], 0, 0), [([], [(0, 1)], [], [], [], [], [], [], [], [], 0, 0)], 1, 80, 0, 0)
noncomputable def k182_a : ckAs := []
noncomputable def k182_c : List (Nat × ckCtr) := []
theorem k182_ok (l : Launch) : ckCtrOk l ckMT ckTW ckCL k182 := mt_46 (as := k182_a) (cs := k182_c) (gx := []) (f := 200000) rfl (fun _ h => absurd h List.not_mem_nil) True.intro (by decide +kernel)
-- FarMachineModel.feels
noncomputable def k183 : ckCtr := (55, ([(0, (1, 0)), (1, (0, 0))], [], [.inr (0, 1, 0)], [(3, 3), (318, 318)], dG40, [], [], [], 0, 0), [([], [(0, 2)], [], [], [], [(0, 0)], [], [], [], [], 0, 0)], 1, 80, 0, 0)
noncomputable def k183_a : ckAs := []
noncomputable def k183_c : List (Nat × ckCtr) := []
theorem k183_ok (l : Launch) : ckCtrOk l ckMT ckTW ckCL k183 := mt_55 (as := k183_a) (cs := k183_c) (gx := []) (f := 200000) rfl (fun _ h => absurd h List.not_mem_nil) True.intro (by decide +kernel)
-- FarMachineModel.felt
noncomputable def k184 : ckCtr := (66, ([(0, (1, 0)), (1, (0, 0))], [], dC46, [(3, 3), (0, 0), (318, 318)], dG40, [], [], [], 0, 0), [([], [(0, 1)], [], [], [], [], [], [], [], [], 0, 0)], 2, 102, 0, 0)
noncomputable def k184_a : ckAs := []
noncomputable def k184_c : List (Nat × ckCtr) := [(4, k182), (29, k183)]
theorem k184_ok (l : Launch) : ckCtrOk l ckMT ckTW ckCL k184 := mt_66 (as := k184_a) (cs := k184_c) (gx := []) (f := 200000) rfl (ckHc (k182_ok l) (ckHc (k183_ok l) (fun _ h => absurd h List.not_mem_nil))) True.intro (by decide +kernel)
-- FarMachineModel.within
noncomputable def k185 : ckCtr := (46, ([(0, (0, 0)), (1, (0, 1)), (2, (0, 2))], [], [], [(4, 4), (0, 0), (31, 31)], [], [], [], [], 0, 0), [([], [(0, 1)], [], [], [], [], [], [], [], [], 0, 0)], 1, 80, 0, 0)
noncomputable def k185_a : ckAs := []
noncomputable def k185_c : List (Nat × ckCtr) := []
theorem k185_ok (l : Launch) : ckCtrOk l ckMT ckTW ckCL k185 := mt_46 (as := k185_a) (cs := k185_c) (gx := []) (f := 200000) rfl (fun _ h => absurd h List.not_mem_nil) True.intro (by decide +kernel)
-- FarMachineModel.bits
noncomputable def k186 : ckCtr := (48, ([(0, (0, 0))], [], [], [(0, 0)], [], [], [], [], 0, 0), [([], [(0, 0)], [], [], [], [], [], [], [], [], 0, 0)], 1, 80, 0, 0)
noncomputable def k186_a : ckAs := []
noncomputable def k186_c : List (Nat × ckCtr) := []
theorem k186_ok (l : Launch) : ckCtrOk l ckMT ckTW ckCL k186 := mt_48 (as := k186_a) (cs := k186_c) (gx := []) (f := 200000) rfl (fun _ h => absurd h List.not_mem_nil) True.intro (by decide +kernel)
-- FarMachineModel.feels
noncomputable def k187 : ckCtr := (55, ([(0, (1, 0)), (1, (0, 0))], [], [.inr (0, 1, 0)], [(4, 4), (318, 318)], dG40, [], [], [], 0, 0), [([], [(0, 2)], [], [], [], [(0, 0)], [], [], [], [], 0, 0)], 2, 102, 0, 0)
noncomputable def k187_a : ckAs := []
noncomputable def k187_c : List (Nat × ckCtr) := [(72, k148), (75, k186)]
theorem k187_ok (l : Launch) : ckCtrOk l ckMT ckTW ckCL k187 := mt_55 (as := k187_a) (cs := k187_c) (gx := []) (f := 200000) rfl (ckHc (k148_ok l) (ckHc (k186_ok l) (fun _ h => absurd h List.not_mem_nil))) True.intro (by decide +kernel)
-- FarMachineModel.felt
noncomputable def k188 : ckCtr := (66, ([(0, (1, 0)), (1, (0, 0))], [], dC46, [(4, 4), (0, 0), (318, 318)], dG40, [], [], [], 0, 0), [([], [(0, 1)], [], [], [], [], [], [], [], [], 0, 0)], 3, 123, 0, 0)
noncomputable def k188_a : ckAs := []
noncomputable def k188_c : List (Nat × ckCtr) := [(4, k185), (29, k187)]
theorem k188_ok (l : Launch) : ckCtrOk l ckMT ckTW ckCL k188 := mt_66 (as := k188_a) (cs := k188_c) (gx := []) (f := 200000) rfl (ckHc (k185_ok l) (ckHc (k187_ok l) (fun _ h => absurd h List.not_mem_nil))) True.intro (by decide +kernel)
-- FarMachineModel.within
noncomputable def k189 : ckCtr := (46, ([(0, (0, 0)), (1, (0, 1)), (2, (0, 2))], [], [], [(5, 5), (0, 0), (31, 31)], [], [], [], [], 0, 0), [([], [(0, 1)], [], [], [], [], [], [], [], [], 0, 0)], 1, 80, 0, 0)
noncomputable def k189_a : ckAs := []
noncomputable def k189_c : List (Nat × ckCtr) := []
theorem k189_ok (l : Launch) : ckCtrOk l ckMT ckTW ckCL k189 := mt_46 (as := k189_a) (cs := k189_c) (gx := []) (f := 200000) rfl (fun _ h => absurd h List.not_mem_nil) True.intro (by decide +kernel)
-- FarMachineModel.feels
noncomputable def k190 : ckCtr := (55, ([(0, (1, 0)), (1, (0, 0))], [], [.inr (0, 1, 0)], [(5, 5), (318, 318)], dG40, [], [], [], 0, 0), [([], [(0, 2)], [], [], [], [(0, 0)], [], [], [], [], 0, 0)], 1, 80, 0, 0)
noncomputable def k190_a : ckAs := []
noncomputable def k190_c : List (Nat × ckCtr) := []
theorem k190_ok (l : Launch) : ckCtrOk l ckMT ckTW ckCL k190 := mt_55 (as := k190_a) (cs := k190_c) (gx := []) (f := 200000) rfl (fun _ h => absurd h List.not_mem_nil) True.intro (by decide +kernel)
-- FarMachineModel.felt
noncomputable def k191 : ckCtr := (66, ([(0, (1, 0)), (1, (0, 0))], [], dC46, [(5, 5), (0, 0), (318, 318)], dG40, [], [], [], 0, 0), [([], [(0, 1)], [], [], [], [], [], [], [], [], 0, 0)], 2, 102, 0, 0)
noncomputable def k191_a : ckAs := []
noncomputable def k191_c : List (Nat × ckCtr) := [(4, k189), (29, k190)]
theorem k191_ok (l : Launch) : ckCtrOk l ckMT ckTW ckCL k191 := mt_66 (as := k191_a) (cs := k191_c) (gx := []) (f := 200000) rfl (ckHc (k189_ok l) (ckHc (k190_ok l) (fun _ h => absurd h List.not_mem_nil))) True.intro (by decide +kernel)
-- FarMachineModel.within
noncomputable def k192 : ckCtr := (46, ([(0, (0, 0)), (1, (0, 1)), (2, (0, 2))], [], [], [(6, 6), (0, 0), (31, 31)], [], [], [], [], 0, 0), [([], [(0, 1)], [], [], [], [], [], [], [], [], 0, 0)], 1, 80, 0, 0)
noncomputable def k192_a : ckAs := []
noncomputable def k192_c : List (Nat × ckCtr) := []
theorem k192_ok (l : Launch) : ckCtrOk l ckMT ckTW ckCL k192 := mt_46 (as := k192_a) (cs := k192_c) (gx := []) (f := 200000) rfl (fun _ h => absurd h List.not_mem_nil) True.intro (by decide +kernel)
-- FarMachineModel.feels
noncomputable def k193 : ckCtr := (55, ([(0, (1, 0)), (1, (0, 0))], [], [.inr (0, 1, 0)], [(6, 6), (318, 318)], dG40, [], [], [], 0, 0), [([], [(0, 2)], [], [], [], [(0, 0)], [], [], [], [], 0, 0)], 1, 80, 0, 0)
noncomputable def k193_a : ckAs := []
noncomputable def k193_c : List (Nat × ckCtr) := []
theorem k193_ok (l : Launch) : ckCtrOk l ckMT ckTW ckCL k193 := mt_55 (as := k193_a) (cs := k193_c) (gx := []) (f := 200000) rfl (fun _ h => absurd h List.not_mem_nil) True.intro (by decide +kernel)
-- FarMachineModel.felt
noncomputable def k194 : ckCtr := (66, ([(0, (1, 0)), (1, (0, 0))], [], dC46, [(6, 6), (0, 0), (318, 318)], dG40, [], [], [], 0, 0), [([], [(0, 1)], [], [], [], [], [], [], [], [], 0, 0)], 2, 102, 0, 0)
noncomputable def k194_a : ckAs := []
noncomputable def k194_c : List (Nat × ckCtr) := [(4, k192), (29, k193)]
theorem k194_ok (l : Launch) : ckCtrOk l ckMT ckTW ckCL k194 := mt_66 (as := k194_a) (cs := k194_c) (gx := []) (f := 200000) rfl (ckHc (k192_ok l) (ckHc (k193_ok l) (fun _ h => absurd h List.not_mem_nil))) True.intro (by decide +kernel)
-- FarMachineModel.within
noncomputable def k195 : ckCtr := (46, ([(0, (0, 0)), (1, (0, 1)), (2, (0, 2))], [], [], [(7, 7), (0, 0), (31, 31)], [], [], [], [], 0, 0), [([], [(0, 1)], [], [], [], [], [], [], [], [], 0, 0)], 1, 80, 0, 0)
noncomputable def k195_a : ckAs := []
noncomputable def k195_c : List (Nat × ckCtr) := []
theorem k195_ok (l : Launch) : ckCtrOk l ckMT ckTW ckCL k195 := mt_46 (as := k195_a) (cs := k195_c) (gx := []) (f := 200000) rfl (fun _ h => absurd h List.not_mem_nil) True.intro (by decide +kernel)
-- FarMachineModel.feels
noncomputable def k196 : ckCtr := (55, ([(0, (1, 0)), (1, (0, 0))], [], [.inr (0, 1, 0)], [(7, 7), (318, 318)], dG40, [], [], [], 0, 0), [([], [(0, 2)], [], [], [], [(0, 0)], [], [], [], [], 0, 0)], 3, 122, 0, 0)
noncomputable def k196_a : ckAs := []
noncomputable def k196_c : List (Nat × ckCtr) := [(90, k145)]
theorem k196_ok (l : Launch) : ckCtrOk l ckMT ckTW ckCL k196 := mt_55 (as := k196_a) (cs := k196_c) (gx := []) (f := 200000) rfl (ckHc (k145_ok l) (fun _ h => absurd h List.not_mem_nil)) True.intro (by decide +kernel)
-- FarMachineModel.felt
noncomputable def k197 : ckCtr := (66, ([(0, (1, 0)), (1, (0, 0))], [], dC46, [(7, 7), (0, 0), (318, 318)], dG40, [], [], [], 0, 0), [([], [(0, 1)], [], [], [], [], [], [], [], [], 0, 0)], 4, 143, 0, 0)
noncomputable def k197_a : ckAs := []
noncomputable def k197_c : List (Nat × ckCtr) := [(4, k195), (29, k196)]
theorem k197_ok (l : Launch) : ckCtrOk l ckMT ckTW ckCL k197 := mt_66 (as := k197_a) (cs := k197_c) (gx := []) (f := 200000) rfl (ckHc (k195_ok l) (ckHc (k196_ok l) (fun _ h => absurd h List.not_mem_nil))) True.intro (by decide +kernel)
-- FarMachineModel.within
noncomputable def k198 : ckCtr := (46, ([(0, (0, 0)), (1, (0, 1)), (2, (0, 2))], [], [], [(8, 31), (0, 0), (31, 31)], [], [], [], [], 0, 0), [([], [(0, 1)], [], [], [], [], [], [], [], [], 0, 0)], 1, 80, 0, 0)
noncomputable def k198_a : ckAs := []
noncomputable def k198_c : List (Nat × ckCtr) := []
theorem k198_ok (l : Launch) : ckCtrOk l ckMT ckTW ckCL k198 := mt_46 (as := k198_a) (cs := k198_c) (gx := []) (f := 200000) rfl (fun _ h => absurd h List.not_mem_nil) True.intro (by decide +kernel)
-- FarMachineModel.feels
noncomputable def k199 : ckCtr := (55, ([(0, (1, 0)), (1, (0, 0))], [], [.inr (0, 1, 0)], [(8, 31), (318, 318)], dG40, [], [], [], 0, 0), [([], [(0, 2)], [], [], [], [(-128, -128)], [], [], [], [], 0, 0)], 1, 80, 0, 0)
noncomputable def k199_a : ckAs := []
noncomputable def k199_c : List (Nat × ckCtr) := []
theorem k199_ok (l : Launch) : ckCtrOk l ckMT ckTW ckCL k199 := mt_55 (as := k199_a) (cs := k199_c) (gx := []) (f := 200000) rfl (fun _ h => absurd h List.not_mem_nil) True.intro (by decide +kernel)
-- FarMachineModel.felt
noncomputable def k200 : ckCtr := (66, ([(0, (1, 0)), (1, (0, 0))], [], dC46, [(8, 31), (0, 0), (318, 318)], dG40, [], [], [], 0, 0), [([], [(0, 3)], [], [], [], [(-128, -128)], [], [], [], [], 0, 0)], 2, 102, 0, 0)
noncomputable def k200_a : ckAs := []
noncomputable def k200_c : List (Nat × ckCtr) := [(4, k198), (29, k199)]
theorem k200_ok (l : Launch) : ckCtrOk l ckMT ckTW ckCL k200 := mt_66 (as := k200_a) (cs := k200_c) (gx := []) (f := 200000) rfl (ckHc (k198_ok l) (ckHc (k199_ok l) (fun _ h => absurd h List.not_mem_nil))) True.intro (by decide +kernel)
-- FarMachineModel.felt
noncomputable def k201 : ckCtr := (66, ([(0, (1, 0)), (1, (0, 0))], [], dC42, [(32, 2147483647), (0, 0), (7, 7)], [([(7, (0, 0))], [], [])], [], [], [], 0, 0), [([], [(0, 3)], [(1, .inr (0, 2, 1))], [], [], [(1006, 1006), (1, 1)], [([(6, (0, 0)), (7, (1, 1))], [(6, 4)], [])], [], [], [], 0, 0)], 2, 102, 0, 0)
noncomputable def k201_a : ckAs := []
noncomputable def k201_c : List (Nat × ckCtr) := [(4, k101), (17, k25)]
theorem k201_ok (l : Launch) : ckCtrOk l ckMT ckTW ckCL k201 := mt_66 (as := k201_a) (cs := k201_c) (gx := []) (f := 200000) rfl (ckHc (k101_ok l) (ckHc (k25_ok l) (fun _ h => absurd h List.not_mem_nil))) True.intro (by decide +kernel)
-- FarMachineModel.felt
noncomputable def k202 : ckCtr := (66, ([(0, (1, 0)), (1, (0, 0))], [], dC42, [(-2147483648, -1), (0, 0), (7, 7)], [([(7, (0, 0))], [], [])], [], [], [], 0, 0), [([], [(0, 3)], [(1, .inr (0, 2, 1))], [], [], [(1004, 1004), (1, 1)], [([(4, (0, 0)), (5, (1, 1)), (7, (0, 0))], [(4, 4)], [])], [], [], [], 0, 0)], 2, 102, 0, 0)
noncomputable def k202_a : ckAs := []
noncomputable def k202_c : List (Nat × ckCtr) := [(4, k114), (17, k28)]
theorem k202_ok (l : Launch) : ckCtrOk l ckMT ckTW ckCL k202 := mt_66 (as := k202_a) (cs := k202_c) (gx := []) (f := 200000) rfl (ckHc (k114_ok l) (ckHc (k28_ok l) (fun _ h => absurd h List.not_mem_nil))) True.intro (by decide +kernel)
noncomputable def dC128 : List ckC := [.inl (1, [(1, 1), (4, 10), (4, 11), (4, 12), (0, 0)]), .inr (0, 1, 0)]
-- FarMachine$Commands.passHour
noncomputable def k203 : ckCtr := (123, ([(0, (1, 0))], [], dC128, [(0, 0), (30, 30)], [([(30, (0, 0))], [], [])], [], [], [], 0, 0), [([], [(0, 0)], [], [], [], [], [], [], [], [], 0, 0)], 1, 80, 0, 0)
noncomputable def k203_a : ckAs := []
noncomputable def k203_c : List (Nat × ckCtr) := []
theorem k203_ok (l : Launch) : ckCtrOk l ckMT ckTW ckCL k203 := mt_123 (as := k203_a) (cs := k203_c) (gx := []) (f := 200000) rfl (fun _ h => absurd h List.not_mem_nil) True.intro (by decide +kernel)
noncomputable def dC129 : List ckC := [.inl (2, [(4, 10), (4, 11), (1, 1), (0, 0), (0, 1), (0, 0), (0, 2), (0, 3), (0, 4), (0, 0), (0, 5), (0, 6), (0, 7), (0, 8), (0, 9), (0, 10)]), .inl (1, [(1, 2), (4, 12), (4, 13), (4, 14), (0, 0)]), .inr (0, 11, 0)]
noncomputable def dT130 : List ckI := [(0, 0), (0, 40), (0, 50), (60, 60), (0, 20), (10, 10), (24, 24), (200, 200), (9, 9), (0, 1999), (0, 199), (30, 30)]
-- FarMachine$Machine.receive
noncomputable def k204 : ckCtr := (138, ([(0, (1, 0))], [], dC129, dT130, [([(30, (0, 0))], [], [])], [], [(1, 9, 0), (4, 9, 0), (10, 9, 0)], [], 0, 0), [([], [(0, 0)], [], [], [], [], [], [], [(1, 9, 0), (4, 9, 0), (10, 9, 0)], [], 0, 0)], 2, 102, 0, 0)
noncomputable def k204_a : ckAs := []
noncomputable def k204_c : List (Nat × ckCtr) := [(43, k203)]
theorem k204_ok (l : Launch) : ckCtrOk l ckMT ckTW ckCL k204 := mt_138 (as := k204_a) (cs := k204_c) (gx := []) (f := 200000) rfl (ckHc (k203_ok l) (fun _ h => absurd h List.not_mem_nil)) True.intro (by decide +kernel)
-- FarMachine.isWord
noncomputable def k205 : ckCtr := (36, ([(0, (0, 0))], [], [], [(0, 40)], [], [], [], [], 0, 0), [([], [(0, 1)], [], [], [], [(1, 1)], [], [], [], [], 0, 0)], 1, 80, 0, 0)
noncomputable def k205_a : ckAs := []
noncomputable def k205_c : List (Nat × ckCtr) := []
theorem k205_ok (l : Launch) : ckCtrOk l ckMT ckTW ckCL k205 := mt_36 (as := k205_a) (cs := k205_c) (gx := []) (f := 200000) rfl (fun _ h => absurd h List.not_mem_nil) True.intro (by decide +kernel)
noncomputable def dC131 : List ckC := [.inl (2, [(1, 1), (4, 10), (4, 11), (0, 1), (0, 0), (0, 1), (0, 2), (0, 3), (0, 4), (0, 1), (0, 5), (0, 6), (0, 7), (0, 8), (0, 9), (0, 10)]), .inr (0, 11, 0)]
noncomputable def dT132 : List ckI := [(0, 40), (0, 0), (0, 50), (60, 60), (0, 20), (10, 10), (24, 24), (200, 200), (9, 9), (0, 1999), (0, 199), (48, 48)]
-- FarMachine$Machine.readWord
noncomputable def k206 : ckCtr := (127, ([(0, (1, 0)), (1, (0, 0))], [], dC131, dT132, [([(48, (0, 0))], [], [])], [], [(0, 9, 0), (4, 9, 0), (10, 9, 0)], [], 0, 0), [([], [(0, 1)], [], [], [], [], [], [], [(0, 9, 0), (4, 9, 0), (10, 9, 0)], [], 0, 0)], 2, 100, 0, 0)
noncomputable def k206_a : ckAs := []
noncomputable def k206_c : List (Nat × ckCtr) := [(1, k205)]
theorem k206_ok (l : Launch) : ckCtrOk l ckMT ckTW ckCL k206 := mt_127 (as := k206_a) (cs := k206_c) (gx := []) (f := 200000) rfl (ckHc (k205_ok l) (fun _ h => absurd h List.not_mem_nil)) True.intro (by decide +kernel)
noncomputable def dC133 : List ckC := [.inl (2, [(1, 1), (4, 10), (4, 11), (0, 0), (0, 1), (0, 0), (0, 2), (0, 3), (0, 4), (0, 0), (0, 5), (0, 6), (0, 7), (0, 8), (0, 9), (0, 10)]), .inr (0, 11, 0)]
noncomputable def dT134 : List ckI := [(0, 0), (0, 40), (0, 50), (60, 60), (0, 20), (10, 10), (24, 24), (200, 200), (9, 9), (0, 1999), (0, 199), (48, 48)]
-- FarMachine$Machine.act
noncomputable def k207 : ckCtr := (139, ([(0, (1, 0))], [], dC133, dT134, [([(48, (0, 0))], [], [])], [], [(1, 9, 0), (4, 9, 0), (10, 9, 0)], [], 0, 0), [([], [(0, 12)], [], [], [], [(1000, 1000)], [], [], [(1, 9, 0), (4, 9, 0), (10, 9, 0)], [], 0, 0)], 3, 121, 0, 0)
noncomputable def k207_a : ckAs := []
noncomputable def k207_c : List (Nat × ckCtr) := [(5, k206)]
theorem k207_ok (l : Launch) : ckCtrOk l ckMT ckTW ckCL k207 := mt_139 (as := k207_a) (cs := k207_c) (gx := []) (f := 200000) rfl (ckHc (k206_ok l) (fun _ h => absurd h List.not_mem_nil)) True.intro (by decide +kernel)
noncomputable def dC135 : List ckC := [.inl (2, [(4, 10), (1, 1), (4, 11), (0, 0), (0, 1), (0, 0), (0, 2), (0, 3), (0, 4), (0, 0), (0, 5), (0, 6), (0, 7), (0, 8), (0, 9), (0, 10)]), .inr (0, 11, 0)]
noncomputable def dT136 : List ckI := [(0, 0), (0, 40), (0, 50), (60, 60), (0, 20), (10, 10), (24, 24), (200, 200), (9, 9), (0, 1999), (0, 199), (8, 8)]
-- FarMachine$Machine.sumOf
noncomputable def k208 : ckCtr := (135, ([(0, (1, 0)), (1, (4, 1)), (2, (0, 0))], [], dC135, dT136, [([(8, (0, 0))], [], [])], [], [(1, 9, 0), (4, 9, 0), (10, 9, 0)], [], 0, 0), [([], [(0, 0)], [], [], [], [], [], [], [(1, 9, 0), (4, 9, 0), (10, 9, 0)], [], 0, 0)], 1, 80, 0, 0)
noncomputable def k208_a : ckAs := []
noncomputable def k208_c : List (Nat × ckCtr) := []
noncomputable def dT137 : List ckI := [(0, 0), (0, 40), (0, 50), (60, 60), (0, 20), (10, 10), (24, 24), (200, 200), (9, 9), (0, 1999), (0, 199), (8, 8), (7, 7)]
noncomputable def k208_u0 : ckCut := (5, ([(0, (1, 0)), (1, (4, 1)), (2, (0, 0)), (3, (0, 0)), (4, (0, 12)), (5, (0, 0))], [], dC135, dT137, [([(8, (0, 0))], [], [])], [], [(1, 9, 0), (4, 9, 0), (10, 9, 0)], [], 0, 0), 12, 1, 0, 0)
noncomputable def k208_g0 : List ckCut := [k208_u0]
theorem k208_t0 : ckRun es_135 k208_a k208_c [] 6 1 80 0 0 (ckEndF 1 0 0 k208.2.1 k208.2.2.1) ckKs ckKc 200000 0 5 k208_u0.2.1 [] = true := by decide +kernel
theorem k208_ok (l : Launch) : ckCtrOk l ckMT ckTW ckCL k208 := mt_135 (as := k208_a) (cs := k208_c) (gx := k208_g0) (f := 200000) rfl (fun _ h => absurd h List.not_mem_nil) ⟨k208_t0, True.intro⟩ (by decide +kernel)
-- FarMachine$Machine.sumOn
noncomputable def k209 : ckCtr := (134, ([(0, (1, 0)), (1, (4, 1))], [], dC135, dT136, [([(8, (0, 0))], [], [])], [], [(1, 9, 0), (4, 9, 0), (10, 9, 0)], [], 0, 0), [([], [(0, 0)], [], [], [], [], [], [], [(1, 9, 0), (4, 9, 0), (10, 9, 0)], [], 0, 0)], 2, 105, 0, 0)
noncomputable def k209_a : ckAs := []
noncomputable def k209_c : List (Nat × ckCtr) := [(6, k208)]
theorem k209_ok (l : Launch) : ckCtrOk l ckMT ckTW ckCL k209 := mt_134 (as := k209_a) (cs := k209_c) (gx := []) (f := 200000) rfl (ckHc (k208_ok l) (fun _ h => absurd h List.not_mem_nil)) True.intro (by decide +kernel)
-- FarMachine.held
noncomputable def k210 : ckCtr := (41, ([(0, (0, 0)), (1, (0, 1)), (2, (0, 2))], [], [], [(0, 0), (-2, 48), (99, 99)], [], [], [], [], 0, 0), [([], [(0, 3)], [], [], [], [(0, 48)], [], [], [(1, 3, 0)], [], 0, 0)], 1, 80, 0, 0)
noncomputable def k210_a : ckAs := []
noncomputable def k210_c : List (Nat × ckCtr) := []
theorem k210_ok (l : Launch) : ckCtrOk l ckMT ckTW ckCL k210 := mt_41 (as := k210_a) (cs := k210_c) (gx := []) (f := 200000) rfl (fun _ h => absurd h List.not_mem_nil) True.intro (by decide +kernel)
noncomputable def dC138 : List ckC := [.inl (2, [(4, 10), (1, 1), (4, 11), (0, 1), (0, 2), (0, 1), (0, 0), (0, 3), (0, 4), (0, 1), (0, 5), (0, 6), (0, 7), (0, 8), (0, 9), (0, 10)]), .inr (0, 11, 0)]
noncomputable def dT139 : List ckI := [(0, 50), (0, 0), (0, 40), (60, 60), (0, 20), (10, 10), (24, 24), (200, 200), (9, 9), (0, 1999), (0, 199), (8, 8)]
-- FarMachine$Machine.heatAfter
noncomputable def k211 : ckCtr := (143, ([(0, (1, 0)), (1, (0, 0))], [], dC138, dT139, [([(8, (0, 0))], [], [])], [], [(2, 9, 0), (4, 9, 0), (10, 9, 0)], [], 0, 0), [([], [(0, 12)], [], [], [], [(0, 48)], [], [], [(0, 12, 2), (2, 9, 0), (4, 9, 0), (10, 9, 0)], [], 0, 0)], 3, 126, 0, 0)
noncomputable def k211_a : ckAs := []
noncomputable def k211_c : List (Nat × ckCtr) := [(6, k209), (14, k210)]
theorem k211_ok (l : Launch) : ckCtrOk l ckMT ckTW ckCL k211 := mt_143 (as := k211_a) (cs := k211_c) (gx := []) (f := 200000) rfl (ckHc (k209_ok l) (ckHc (k210_ok l) (fun _ h => absurd h List.not_mem_nil))) True.intro (by decide +kernel)
noncomputable def dC140 : List ckC := [.inl (2, [(4, 10), (4, 11), (4, 12), (0, 0), (0, 1), (0, 0), (0, 2), (0, 3), (0, 4), (0, 0), (0, 5), (0, 6), (0, 7), (0, 8), (0, 9), (0, 10)])]
noncomputable def dT141 : List ckI := [(0, 0), (0, 40), (0, 9), (60, 60), (0, 20), (10, 10), (24, 24), (200, 200), (9, 9), (0, 1999), (0, 199)]
-- FarMachine$Machine.switchBox
noncomputable def k212 : ckCtr := (132, ([(0, (1, 0)), (1, (0, 0)), (2, (0, 0))], [], dC140, dT141, [], [], [(1, 9, 0), (4, 9, 0), (10, 9, 0)], [], 0, 0), [([], [], [], [], [], [], [], [], [(1, 9, 0), (4, 9, 0), (10, 9, 0)], [], 0, 0)], 1, 80, 0, 0)
noncomputable def k212_a : ckAs := []
noncomputable def k212_c : List (Nat × ckCtr) := []
theorem k212_ok (l : Launch) : ckCtrOk l ckMT ckTW ckCL k212 := mt_132 (as := k212_a) (cs := k212_c) (gx := []) (f := 200000) rfl (fun _ h => absurd h List.not_mem_nil) True.intro (by decide +kernel)
noncomputable def dC142 : List ckC := [.inl (2, [(4, 10), (4, 11), (4, 12), (0, 1), (0, 2), (0, 1), (0, 3), (0, 4), (0, 5), (0, 1), (0, 6), (0, 7), (0, 8), (0, 9), (0, 10), (0, 11)])]
noncomputable def dT143 : List ckI := [(1, 1), (0, 0), (0, 40), (0, 9), (60, 60), (0, 20), (10, 10), (24, 24), (200, 200), (9, 9), (0, 1999), (0, 199)]
-- FarMachine$Machine.switchBox
noncomputable def k213 : ckCtr := (132, ([(0, (1, 0)), (1, (0, 0)), (2, (0, 1))], [], dC142, dT143, [], [], [(2, 10, 0), (5, 10, 0), (11, 10, 0)], [], 0, 0), [([], [], [], [], [], [], [], [], [(2, 10, 0), (5, 10, 0), (11, 10, 0)], [], 0, 0)], 1, 80, 0, 0)
noncomputable def k213_a : ckAs := []
noncomputable def k213_c : List (Nat × ckCtr) := []
theorem k213_ok (l : Launch) : ckCtrOk l ckMT ckTW ckCL k213 := mt_132 (as := k213_a) (cs := k213_c) (gx := []) (f := 200000) rfl (fun _ h => absurd h List.not_mem_nil) True.intro (by decide +kernel)
noncomputable def dT144 : List ckI := [(2, 2), (0, 0), (0, 40), (0, 9), (60, 60), (0, 20), (10, 10), (24, 24), (200, 200), (9, 9), (0, 1999), (0, 199)]
-- FarMachine$Machine.switchBox
noncomputable def k214 : ckCtr := (132, ([(0, (1, 0)), (1, (0, 0)), (2, (0, 1))], [], dC142, dT144, [], [], [(2, 10, 0), (5, 10, 0), (11, 10, 0)], [], 0, 0), [([], [], [], [], [], [], [], [], [(2, 10, 0), (5, 10, 0), (11, 10, 0)], [], 0, 0)], 1, 80, 0, 0)
noncomputable def k214_a : ckAs := []
noncomputable def k214_c : List (Nat × ckCtr) := []
theorem k214_ok (l : Launch) : ckCtrOk l ckMT ckTW ckCL k214 := mt_132 (as := k214_a) (cs := k214_c) (gx := []) (f := 200000) rfl (fun _ h => absurd h List.not_mem_nil) True.intro (by decide +kernel)
noncomputable def dT145 : List ckI := [(3, 3), (0, 0), (0, 40), (0, 9), (60, 60), (0, 20), (10, 10), (24, 24), (200, 200), (9, 9), (0, 1999), (0, 199)]
-- FarMachine$Machine.switchBox
noncomputable def k215 : ckCtr := (132, ([(0, (1, 0)), (1, (0, 0)), (2, (0, 1))], [], dC142, dT145, [], [], [(2, 10, 0), (5, 10, 0), (11, 10, 0)], [], 0, 0), [([], [], [], [], [], [], [], [], [(2, 10, 0), (5, 10, 0), (11, 10, 0)], [], 0, 0)], 1, 80, 0, 0)
noncomputable def k215_a : ckAs := []
noncomputable def k215_c : List (Nat × ckCtr) := []
theorem k215_ok (l : Launch) : ckCtrOk l ckMT ckTW ckCL k215 := mt_132 (as := k215_a) (cs := k215_c) (gx := []) (f := 200000) rfl (fun _ h => absurd h List.not_mem_nil) True.intro (by decide +kernel)
noncomputable def dT146 : List ckI := [(4, 4), (0, 0), (0, 40), (0, 9), (60, 60), (0, 20), (10, 10), (24, 24), (200, 200), (9, 9), (0, 1999), (0, 199)]
-- FarMachine$Machine.switchBox
noncomputable def k216 : ckCtr := (132, ([(0, (1, 0)), (1, (0, 0)), (2, (0, 1))], [], dC142, dT146, [], [], [(2, 10, 0), (5, 10, 0), (11, 10, 0)], [], 0, 0), [([], [], [], [], [], [], [], [], [(2, 10, 0), (5, 10, 0), (11, 10, 0)], [], 0, 0)], 1, 80, 0, 0)
noncomputable def k216_a : ckAs := []
noncomputable def k216_c : List (Nat × ckCtr) := []
theorem k216_ok (l : Launch) : ckCtrOk l ckMT ckTW ckCL k216 := mt_132 (as := k216_a) (cs := k216_c) (gx := []) (f := 200000) rfl (fun _ h => absurd h List.not_mem_nil) True.intro (by decide +kernel)
noncomputable def dT147 : List ckI := [(5, 5), (0, 0), (0, 40), (0, 9), (60, 60), (0, 20), (10, 10), (24, 24), (200, 200), (9, 9), (0, 1999), (0, 199)]
-- FarMachine$Machine.switchBox
noncomputable def k217 : ckCtr := (132, ([(0, (1, 0)), (1, (0, 0)), (2, (0, 1))], [], dC142, dT147, [], [], [(2, 10, 0), (5, 10, 0), (11, 10, 0)], [], 0, 0), [([], [], [], [], [], [], [], [], [(2, 10, 0), (5, 10, 0), (11, 10, 0)], [], 0, 0)], 1, 80, 0, 0)
noncomputable def k217_a : ckAs := []
noncomputable def k217_c : List (Nat × ckCtr) := []
theorem k217_ok (l : Launch) : ckCtrOk l ckMT ckTW ckCL k217 := mt_132 (as := k217_a) (cs := k217_c) (gx := []) (f := 200000) rfl (fun _ h => absurd h List.not_mem_nil) True.intro (by decide +kernel)
noncomputable def dT148 : List ckI := [(6, 6), (0, 0), (0, 40), (0, 9), (60, 60), (0, 20), (10, 10), (24, 24), (200, 200), (9, 9), (0, 1999), (0, 199)]
-- FarMachine$Machine.switchBox
noncomputable def k218 : ckCtr := (132, ([(0, (1, 0)), (1, (0, 0)), (2, (0, 1))], [], dC142, dT148, [], [], [(2, 10, 0), (5, 10, 0), (11, 10, 0)], [], 0, 0), [([], [], [], [], [], [], [], [], [(2, 10, 0), (5, 10, 0), (11, 10, 0)], [], 0, 0)], 1, 80, 0, 0)
noncomputable def k218_a : ckAs := []
noncomputable def k218_c : List (Nat × ckCtr) := []
theorem k218_ok (l : Launch) : ckCtrOk l ckMT ckTW ckCL k218 := mt_132 (as := k218_a) (cs := k218_c) (gx := []) (f := 200000) rfl (fun _ h => absurd h List.not_mem_nil) True.intro (by decide +kernel)
noncomputable def dT149 : List ckI := [(7, 7), (0, 0), (0, 40), (0, 9), (60, 60), (0, 20), (10, 10), (24, 24), (200, 200), (9, 9), (0, 1999), (0, 199)]
-- FarMachine$Machine.switchBox
noncomputable def k219 : ckCtr := (132, ([(0, (1, 0)), (1, (0, 0)), (2, (0, 1))], [], dC142, dT149, [], [], [(2, 10, 0), (5, 10, 0), (11, 10, 0)], [], 0, 0), [([], [], [], [], [], [], [], [], [(2, 10, 0), (5, 10, 0), (11, 10, 0)], [], 0, 0)], 1, 80, 0, 0)
noncomputable def k219_a : ckAs := []
noncomputable def k219_c : List (Nat × ckCtr) := []
theorem k219_ok (l : Launch) : ckCtrOk l ckMT ckTW ckCL k219 := mt_132 (as := k219_a) (cs := k219_c) (gx := []) (f := 200000) rfl (fun _ h => absurd h List.not_mem_nil) True.intro (by decide +kernel)
noncomputable def dP150 : List (Nat × ckC) := [(0, .inl (2, [(4, 10), (1, 1), (4, 11), (0, 0), (0, 1), (0, 0), (0, 12), (0, 3), (0, 4), (0, 0), (0, 5), (0, 6), (0, 7), (0, 8), (0, 9), (0, 10)]))]
-- FarMachine$Machine.changeHeat
noncomputable def k220 : ckCtr := (144, ([(0, (1, 0))], [], dC135, dT136, [([(8, (0, 0))], [], [])], [], [(1, 9, 0), (4, 9, 0), (10, 9, 0)], [], 0, 0), [([], [], dP150, [], [(2, (0, 11))], [(0, 9)], [], [], [(1, 9, 0), (2, 12, 2), (4, 9, 0), (10, 9, 0)], [], 0, 0), ([], [], dP150, [], [], [(10, 48)], [], [], [(1, 9, 0), (2, 12, 2), (4, 9, 0), (10, 9, 0)], [], 0, 0)], 4, 147, 0, 0)
noncomputable def k220_a : ckAs := []
noncomputable def k220_c : List (Nat × ckCtr) := [(6, k211), (58, k212), (58, k213), (58, k214), (58, k215), (58, k216), (58, k217), (58, k218), (58, k219)]
noncomputable def dC151 : List ckC := [.inl (2, [(4, 10), (1, 1), (4, 11), (0, 0), (0, 1), (0, 0), (0, 12), (0, 3), (0, 4), (0, 0), (0, 5), (0, 6), (0, 7), (0, 8), (0, 9), (0, 10)]), .inr (0, 11, 0)]
noncomputable def dT152 : List ckI := [(0, 0), (0, 40), (0, 11), (60, 60), (0, 20), (10, 10), (24, 24), (200, 200), (9, 9), (0, 1999), (0, 199), (8, 8), (0, 9)]
noncomputable def k220_u0 : ckCut := (25, ([(0, (1, 0)), (1, (0, 11))], [], dC151, dT152, [([(8, (0, 0))], [], [])], [], [(1, 9, 0), (2, 12, 2), (4, 9, 0), (10, 9, 0)], [], 0, 0), 12, 1, 0, 0)
noncomputable def k220_g0 : List ckCut := [k220_u0]
theorem k220_t0 : ckRun es_144 k220_a k220_c [] 2 4 147 0 0 (ckEndF 0 0 0 k220.2.1 k220.2.2.1) ckKs ckKc 200000 0 25 k220_u0.2.1 [] = true := by decide +kernel
theorem k220_ok (l : Launch) : ckCtrOk l ckMT ckTW ckCL k220 := mt_144 (as := k220_a) (cs := k220_c) (gx := k220_g0) (f := 200000) rfl (ckHc (k211_ok l) (ckHc (k212_ok l) (ckHc (k213_ok l) (ckHc (k214_ok l) (ckHc (k215_ok l) (ckHc (k216_ok l) (ckHc (k217_ok l) (ckHc (k218_ok l) (ckHc (k219_ok l) (fun _ h => absurd h List.not_mem_nil)))))))))) ⟨k220_t0, True.intro⟩ (by decide +kernel)
noncomputable def dP153 : List (Nat × ckC) := [(0, .inl (2, [(4, 10), (4, 11), (4, 12), (0, 0), (0, 1), (0, 0), (0, 2), (0, 3), (0, 11), (0, 0), (0, 5), (0, 6), (0, 7), (0, 8), (0, 9), (0, 10)]))]
noncomputable def dZ154 : List ckZ := [(1, 9, 0), (4, 9, 0), (4, 11, 19), (10, 9, 0), (11, 4, 1), (11, 9, 1)]
-- FarMachine$Machine.driftDish
noncomputable def k221 : ckCtr := (145, ([(0, (1, 0))], [], dC140, dT141, [], [], [(1, 9, 0), (4, 9, 0), (10, 9, 0)], [], 0, 0), [([], [], dP153, [], [(9, (1, 1999))], [(0, 20)], [], [], dZ154, [], 0, 0), ([], [], [], [], [(1, (0, 0)), (4, (0, 0)), (9, (0, 0)), (10, (0, 0))], [], [], [], [], [], 0, 0)], 1, 80, 0, 0)
noncomputable def k221_a : ckAs := []
noncomputable def k221_c : List (Nat × ckCtr) := []
theorem k221_ok (l : Launch) : ckCtrOk l ckMT ckTW ckCL k221 := mt_145 (as := k221_a) (cs := k221_c) (gx := []) (f := 200000) rfl (fun _ h => absurd h List.not_mem_nil) True.intro (by decide +kernel)
noncomputable def dT155 : List ckI := [(0, 0), (0, 40), (10, 48), (60, 60), (0, 20), (10, 10), (24, 24), (200, 200), (9, 9), (0, 1999), (0, 199)]
-- FarMachine$Machine.driftDish
noncomputable def k222 : ckCtr := (145, ([(0, (1, 0))], [], dC140, dT155, [], [], [(1, 9, 0), (4, 9, 0), (10, 9, 0)], [], 0, 0), [([], [], dP153, [], [(9, (1, 1999))], [(0, 20)], [], [], dZ154, [], 0, 0), ([], [], [], [], [(1, (0, 0)), (4, (0, 0)), (9, (0, 0)), (10, (0, 0))], [], [], [], [], [], 0, 0)], 1, 80, 0, 0)
noncomputable def k222_a : ckAs := []
noncomputable def k222_c : List (Nat × ckCtr) := []
theorem k222_ok (l : Launch) : ckCtrOk l ckMT ckTW ckCL k222 := mt_145 (as := k222_a) (cs := k222_c) (gx := []) (f := 200000) rfl (fun _ h => absurd h List.not_mem_nil) True.intro (by decide +kernel)
noncomputable def dT156 : List ckI := [(0, 0), (0, 9), (60, 60), (10, 10), (24, 24), (200, 200), (9, 9)]
noncomputable def dP157 : List (Nat × ckC) := [(0, .inl (2, [(4, 10), (4, 11), (4, 12), (0, 0), (0, 0), (0, 0), (0, 1), (0, 2), (0, 0), (0, 0), (0, 3), (0, 4), (0, 5), (0, 6), (0, 0), (0, 7)]))]
-- FarMachine$Machine.countSilence
noncomputable def k223 : ckCtr := (146, ([(0, (1, 0)), (1, (0, 0))], [], dC113, dT156, [], [], [], [], 0, 0), [([], [], dP157, [], [], [(1, 1)], [], [], [], [], 0, 0)], 1, 80, 0, 0)
noncomputable def k223_a : ckAs := []
noncomputable def k223_c : List (Nat × ckCtr) := []
theorem k223_ok (l : Launch) : ckCtrOk l ckMT ckTW ckCL k223 := mt_146 (as := k223_a) (cs := k223_c) (gx := []) (f := 200000) rfl (fun _ h => absurd h List.not_mem_nil) True.intro (by decide +kernel)
