/-! THE CHECKER: contracts with their certificates (printed by wip/gen2/p16gen.py) -/
-- FarMachine.box
noncomputable def k100 : ckCtr := (3, ([(0, (1, 0)), (1, (0, 0)), (2, (0, 1)), (3, (0, 2))], [], dC54, [(8, 2147483647), ckTop, (1, 1), (0, 1), (7, 7)], [([(7, ckTop)], [], [])], [], [], [], 0, 0), [([], [(0, 5)], [(1, .inr (0, 4, 1))], [], [], [(-1, -1), ckTop], [([(1, ckTop), (2, ckTop), (7, ckTop)], [(1, 6)], [])], [], [], [], 0, 0)], 2, 101, 0, 0)
noncomputable def k100_a : ckAs := []
noncomputable def k100_c : List (Nat × ckCtr) := [(12, k14)]
theorem k100_ok (l : Launch) : ckCtrOk l ckMT ckTW ckCL k100 := mt_3 (as := k100_a) (cs := k100_c) (gx := []) (f := 200000) rfl (ckHc (k14_ok l) (fun _ h => absurd h List.not_mem_nil)) True.intro (by decide +kernel)
-- FarMachine.box
noncomputable def k101 : ckCtr := (3, ([(0, (1, 0)), (1, (0, 0)), (2, (0, 1)), (3, (0, 2))], [], dC54, [(8, 2147483647), ckTop, (0, 0), (0, 1), (7, 7)], [([(7, ckTop)], [], [])], [], [], [], 0, 0), [([], [(0, 5)], [(1, .inr (0, 4, 1))], [], [], [(-1, -1), ckTop], [([(1, ckTop), (2, ckTop), (7, ckTop)], [(1, 6)], [])], [], [], [], 0, 0)], 2, 101, 0, 0)
noncomputable def k101_a : ckAs := []
noncomputable def k101_c : List (Nat × ckCtr) := [(12, k14)]
theorem k101_ok (l : Launch) : ckCtrOk l ckMT ckTW ckCL k101 := mt_3 (as := k101_a) (cs := k101_c) (gx := []) (f := 200000) rfl (ckHc (k14_ok l) (fun _ h => absurd h List.not_mem_nil)) True.intro (by decide +kernel)
noncomputable def dT165 : List ckI := [(8, 2147483647), ckTop, (1, 1), (0, 1), (0, 1), (0, 8), (0, 40), (0, 6), (0, 8), (0, 10), (0, 126000), ckTop, ckTop, ckTop, ckTop, (0, 30), ckTop, ckTop, ckTop, (0, 1), ckTop, (0, 1), (7, 7)]
-- FarMachineModel.box
noncomputable def k102 : ckCtr := (63, ([(0, (1, 0)), (1, (0, 0)), (2, (0, 1)), (3, (0, 2))], [], dC55, dT165, [([(7, ckTop)], [], [])], [], [], [], 0, 0), [([], [(0, 23)], [(1, .inr (0, 22, 1))], [], [], [(-1, -1), ckTop], [([(1, ckTop), (2, ckTop), (7, ckTop)], [(1, 24)], [])], [], [], [], 0, 0)], 2, 101, 0, 0)
noncomputable def k102_a : ckAs := []
noncomputable def k102_c : List (Nat × ckCtr) := [(3, k30), (11, k22)]
theorem k102_ok (l : Launch) : ckCtrOk l ckMT ckTW ckCL k102 := mt_63 (as := k102_a) (cs := k102_c) (gx := []) (f := 200000) rfl (ckHc (k30_ok l) (ckHc (k22_ok l) (fun _ h => absurd h List.not_mem_nil))) True.intro (by decide +kernel)
noncomputable def dT166 : List ckI := [(8, 2147483647), ckTop, (0, 0), (0, 1), (0, 1), (0, 8), (0, 40), (0, 6), (0, 8), (0, 10), (0, 126000), ckTop, ckTop, ckTop, ckTop, (0, 30), ckTop, ckTop, ckTop, (0, 1), ckTop, (0, 1), (7, 7)]
-- FarMachineModel.box
noncomputable def k103 : ckCtr := (63, ([(0, (1, 0)), (1, (0, 0)), (2, (0, 1)), (3, (0, 2))], [], dC55, dT166, [([(7, ckTop)], [], [])], [], [], [], 0, 0), [([], [(0, 23)], [(1, .inr (0, 22, 1))], [], [], [(-1, -1), ckTop], [([(1, ckTop), (2, ckTop), (7, ckTop)], [(1, 24)], [])], [], [], [], 0, 0)], 2, 101, 0, 0)
noncomputable def k103_a : ckAs := []
noncomputable def k103_c : List (Nat × ckCtr) := [(3, k30), (11, k22)]
theorem k103_ok (l : Launch) : ckCtrOk l ckMT ckTW ckCL k103 := mt_63 (as := k103_a) (cs := k103_c) (gx := []) (f := 200000) rfl (ckHc (k30_ok l) (ckHc (k22_ok l) (fun _ h => absurd h List.not_mem_nil))) True.intro (by decide +kernel)
noncomputable def dT167 : List ckI := [ckTop, ckTop, ckTop, ckTop, ckTop, ckTop, ckTop, ckTop, ckTop, ckTop, ckTop, ckTop, ckTop, ckTop, ckTop]
noncomputable def dP168 : List (Nat × ckC) := [(0, .inl (2, [(4, 10), (4, 11), (4, 12), (0, 2), (0, 15), (0, 16), (0, 17), (0, 18), (0, 19), (0, 20), (0, 21), (0, 22), (0, 23), (0, 24), (0, 13), (0, 14)]))]
noncomputable def dT169 : List ckI := [ckTop, ckTop, ckTop, ckTop, ckTop, ckTop, ckTop, ckTop, ckTop, ckTop]
-- FarMachine$Machine.tell
noncomputable def k104 : ckCtr := (130, ([(0, (1, 0)), (1, (0, 0)), (2, (0, 1))], [], dC58, dT167, [], [], [], [], 0, 0), [([], [], dP168, [], [], dT169, [], [], [], [], 0, 0)], 1, 80, 0, 0)
noncomputable def k104_a : ckAs := []
noncomputable def k104_c : List (Nat × ckCtr) := []
theorem k104_ok (l : Launch) : ckCtrOk l ckMT ckTW ckCL k104 := mt_130 (as := k104_a) (cs := k104_c) (gx := []) (f := 200000) rfl (fun _ h => absurd h List.not_mem_nil) True.intro (by decide +kernel)
noncomputable def dC170 : List ckC := [.inl (8, [(1, 1), (4, 10), (0, 2), (4, 11), (4, 12), (4, 13), (4, 14), (1, 2)]), .inl (7, [(1, 3), (4, 15), (0, 3), (4, 16), (4, 17), (4, 18), (4, 19), (4, 20), (4, 21), (4, 22)]), .inr (0, 4, 0), .inl (2, [(4, 23), (4, 24), (4, 25), (0, 5), (0, 6), (0, 7), (0, 8), (0, 9), (0, 10), (0, 11), (0, 12), (0, 13), (0, 14), (0, 15), (0, 16), (0, 17)])]
noncomputable def dT171 : List ckI := [ckTop, ckTop, (0, 1), (0, 1), (7, 7), ckTop, ckTop, ckTop, ckTop, ckTop, ckTop, ckTop, ckTop, ckTop, ckTop, ckTop, ckTop, ckTop]
noncomputable def dP172 : List (Nat × ckC) := [(2, .inr (0, 4, 1)), (3, .inl (2, [(4, 23), (4, 24), (4, 25), (0, 5), (0, 19), (0, 20), (0, 21), (0, 22), (0, 23), (0, 24), (0, 25), (0, 26), (0, 27), (0, 28), (0, 16), (0, 17)]))]
noncomputable def dT173 : List ckI := [(-6, 1), ckTop, ckTop, ckTop, ckTop, ckTop, ckTop, ckTop, ckTop, ckTop, ckTop]
noncomputable def dG174 : List ckG := [([(2, ckTop), (3, ckTop), (4, ckTop), (5, ckTop), (6, ckTop), (7, ckTop)], [], [])]
-- FarMachine.set
noncomputable def k105 : ckCtr := (4, ([(0, (1, 0)), (1, (0, 0)), (2, (0, 1))], [], dC170, dT171, [([(7, ckTop)], [], [])], [], [], [], 0, 0), [([], [(0, 18)], dP172, [], [], dT173, dG174, [], [], [], 0, 0)], 2, 102, 0, 0)
noncomputable def k105_a : ckAs := []
noncomputable def k105_c : List (Nat × ckCtr) := [(23, k33), (39, k15), (55, k16), (68, k104)]
theorem k105_ok (l : Launch) : ckCtrOk l ckMT ckTW ckCL k105 := mt_4 (as := k105_a) (cs := k105_c) (gx := []) (f := 200000) rfl (ckHc (k33_ok l) (ckHc (k15_ok l) (ckHc (k16_ok l) (ckHc (k104_ok l) (fun _ h => absurd h List.not_mem_nil))))) True.intro (by decide +kernel)
-- FarMachineModel.within
noncomputable def k106 : ckCtr := (46, ([(0, (0, 0)), (1, (0, 1)), (2, (0, 2))], [], [], [ckTop, (0, 0), (47, 47)], [], [], [], [], 0, 0), [([], [(0, 3)], [], [], [(0, (-2147483648, -1))], [(-4, -4)], [], [], [], [], 0, 0), ([], [(0, 3)], [], [], [(0, (48, 2147483647))], [(-6, -6)], [], [], [], [], 0, 0), ([], [(0, 1)], [], [], [(0, (0, 47))], [], [], [], [], [], 0, 0)], 1, 80, 0, 0)
noncomputable def k106_a : ckAs := []
noncomputable def k106_c : List (Nat × ckCtr) := []
theorem k106_ok (l : Launch) : ckCtrOk l ckMT ckTW ckCL k106 := mt_46 (as := k106_a) (cs := k106_c) (gx := []) (f := 200000) rfl (fun _ h => absurd h List.not_mem_nil) True.intro (by decide +kernel)
-- FarMachineModel.within
noncomputable def k107 : ckCtr := (46, ([(0, (0, 0)), (1, (0, 1)), (2, (0, 2))], [], [], [ckTop, (-128, -128), (127, 127)], [], [], [], [], 0, 0), [([], [(0, 3)], [], [], [(0, (-2147483648, -129))], [(-4, -4)], [], [], [], [], 0, 0), ([], [(0, 3)], [], [], [(0, (128, 2147483647))], [(-6, -6)], [], [], [], [], 0, 0), ([], [(0, 3)], [], [], [(0, (-128, 127))], [(0, 0)], [], [], [], [], 0, 0)], 1, 80, 0, 0)
noncomputable def k107_a : ckAs := []
noncomputable def k107_c : List (Nat × ckCtr) := []
theorem k107_ok (l : Launch) : ckCtrOk l ckMT ckTW ckCL k107 := mt_46 (as := k107_a) (cs := k107_c) (gx := []) (f := 200000) rfl (fun _ h => absurd h List.not_mem_nil) True.intro (by decide +kernel)
-- FarMachineModel.within
noncomputable def k108 : ckCtr := (46, ([(0, (0, 0)), (1, (0, 1)), (2, (0, 2))], [], [], [ckTop, (0, 0), (99, 99)], [], [], [], [], 0, 0), [([], [(0, 3)], [], [], [(0, (-2147483648, -1))], [(-4, -4)], [], [], [], [], 0, 0), ([], [(0, 3)], [], [], [(0, (100, 2147483647))], [(-6, -6)], [], [], [], [], 0, 0), ([], [(0, 1)], [], [], [(0, (0, 99))], [], [], [], [], [], 0, 0)], 1, 80, 0, 0)
noncomputable def k108_a : ckAs := []
noncomputable def k108_c : List (Nat × ckCtr) := []
theorem k108_ok (l : Launch) : ckCtrOk l ckMT ckTW ckCL k108 := mt_46 (as := k108_a) (cs := k108_c) (gx := []) (f := 200000) rfl (fun _ h => absurd h List.not_mem_nil) True.intro (by decide +kernel)
-- FarMachineModel.within
noncomputable def k109 : ckCtr := (46, ([(0, (0, 0)), (1, (0, 1)), (2, (0, 2))], [], [], [ckTop, (-20, -20), (20, 20)], [], [], [], [], 0, 0), [([], [(0, 3)], [], [], [(0, (-2147483648, -21))], [(-4, -4)], [], [], [], [], 0, 0), ([], [(0, 3)], [], [], [(0, (21, 2147483647))], [(-6, -6)], [], [], [], [], 0, 0), ([], [(0, 3)], [], [], [(0, (-20, 20))], [(0, 0)], [], [], [], [], 0, 0)], 1, 80, 0, 0)
noncomputable def k109_a : ckAs := []
noncomputable def k109_c : List (Nat × ckCtr) := []
theorem k109_ok (l : Launch) : ckCtrOk l ckMT ckTW ckCL k109 := mt_46 (as := k109_a) (cs := k109_c) (gx := []) (f := 200000) rfl (fun _ h => absurd h List.not_mem_nil) True.intro (by decide +kernel)
-- FarMachineModel.within
noncomputable def k110 : ckCtr := (46, ([(0, (0, 0)), (1, (0, 1)), (2, (0, 2))], [], [], [ckTop, (0, 0), (31, 31)], [], [], [], [], 0, 0), [([], [(0, 3)], [], [], [(0, (-2147483648, -1))], [(-4, -4)], [], [], [], [], 0, 0), ([], [(0, 3)], [], [], [(0, (32, 2147483647))], [(-6, -6)], [], [], [], [], 0, 0), ([], [(0, 1)], [], [], [(0, (0, 31))], [], [], [], [], [], 0, 0)], 1, 80, 0, 0)
noncomputable def k110_a : ckAs := []
noncomputable def k110_c : List (Nat × ckCtr) := []
theorem k110_ok (l : Launch) : ckCtrOk l ckMT ckTW ckCL k110 := mt_46 (as := k110_a) (cs := k110_c) (gx := []) (f := 200000) rfl (fun _ h => absurd h List.not_mem_nil) True.intro (by decide +kernel)
-- FarMachineModel.within
noncomputable def k111 : ckCtr := (46, ([(0, (0, 0)), (1, (0, 1)), (2, (0, 2))], [], [], [ckTop, (1, 1), (99, 99)], [], [], [], [], 0, 0), [([], [(0, 3)], [], [], [(0, (-2147483648, 0))], [(-4, -4)], [], [], [], [], 0, 0), ([], [(0, 3)], [], [], [(0, (100, 2147483647))], [(-6, -6)], [], [], [], [], 0, 0), ([], [(0, 3)], [], [], [(0, (1, 99))], [(0, 0)], [], [], [], [], 0, 0)], 1, 80, 0, 0)
noncomputable def k111_a : ckAs := []
noncomputable def k111_c : List (Nat × ckCtr) := []
theorem k111_ok (l : Launch) : ckCtrOk l ckMT ckTW ckCL k111 := mt_46 (as := k111_a) (cs := k111_c) (gx := []) (f := 200000) rfl (fun _ h => absurd h List.not_mem_nil) True.intro (by decide +kernel)
-- FarMachineModel.within
noncomputable def k112 : ckCtr := (46, ([(0, (0, 0)), (1, (0, 1)), (2, (0, 2))], [], [], [ckTop, (1, 1), (999, 999)], [], [], [], [], 0, 0), [([], [(0, 3)], [], [], [(0, (-2147483648, 0))], [(-4, -4)], [], [], [], [], 0, 0), ([], [(0, 3)], [], [], [(0, (1000, 2147483647))], [(-6, -6)], [], [], [], [], 0, 0), ([], [(0, 3)], [], [], [(0, (1, 999))], [(0, 0)], [], [], [], [], 0, 0)], 1, 80, 0, 0)
noncomputable def k112_a : ckAs := []
noncomputable def k112_c : List (Nat × ckCtr) := []
theorem k112_ok (l : Launch) : ckCtrOk l ckMT ckTW ckCL k112 := mt_46 (as := k112_a) (cs := k112_c) (gx := []) (f := 200000) rfl (fun _ h => absurd h List.not_mem_nil) True.intro (by decide +kernel)
-- FarMachineModel.within
noncomputable def k113 : ckCtr := (46, ([(0, (0, 0)), (1, (0, 1)), (2, (0, 2))], [], [], [ckTop, (0, 0), (20, 20)], [], [], [], [], 0, 0), [([], [(0, 3)], [], [], [(0, (-2147483648, -1))], [(-4, -4)], [], [], [], [], 0, 0), ([], [(0, 3)], [], [], [(0, (21, 2147483647))], [(-6, -6)], [], [], [], [], 0, 0), ([], [(0, 1)], [], [], [(0, (0, 20))], [], [], [], [], [], 0, 0)], 1, 80, 0, 0)
noncomputable def k113_a : ckAs := []
noncomputable def k113_c : List (Nat × ckCtr) := []
theorem k113_ok (l : Launch) : ckCtrOk l ckMT ckTW ckCL k113 := mt_46 (as := k113_a) (cs := k113_c) (gx := []) (f := 200000) rfl (fun _ h => absurd h List.not_mem_nil) True.intro (by decide +kernel)
noncomputable def dG175 : List ckG := [([(2, ckTop), (3, ckTop), (4, ckTop), (5, ckTop), (6, ckTop), (7, ckTop)], [], []), ([(48, ckTop), (49, (0, 47)), (50, ckTop), (51, ckTop), (52, ckTop), (53, ckTop), (54, ckTop), (55, ckTop), (56, ckTop), (57, ckTop), (58, ckTop), (59, ckTop), (60, ckTop), (61, ckTop), (62, ckTop), (63, ckTop), (64, ckTop), (65, ckTop), (66, ckTop), (67, ckTop), (68, ckTop), (76, ckTop), (77, (0, 30)), (197, ckTop), (198, (0, 60)), (318, ckTop)], [(55, 34), (58, 24), (60, 25), (61, 26), (62, 27), (63, 28), (64, 29), (65, 30), (66, 31), (67, 32)], [])]
-- FarMachineModel.set
noncomputable def k114 : ckCtr := (64, ([(0, (1, 0)), (1, (0, 0)), (2, (0, 1))], [], dC45, dT46, dG47, [], [], [(1, 1, 0, 0, [])], 0, 0), [([], [(0, 33)], [(1, .inr (0, 21, 2)), (2, .inr (0, 22, 3))], [], [], [(-6, 1), (1, 99)], dG175, [], [], [(1, 1, 0, 0, []), (1, 3, 0, 0, [])], 0, 0)], 2, 102, 0, 0)
noncomputable def k114_a : ckAs := []
noncomputable def k114_c : List (Nat × ckCtr) := [(60, k106), (72, k107), (83, k108), (95, k109), (106, k110), (117, k111), (129, k112), (140, k113), (156, k37), (156, k23), (156, k24)]
theorem k114_ok (l : Launch) : ckCtrOk l ckMT ckTW ckCL k114 := mt_64 (as := k114_a) (cs := k114_c) (gx := []) (f := 200000) rfl (ckHc (k106_ok l) (ckHc (k107_ok l) (ckHc (k108_ok l) (ckHc (k109_ok l) (ckHc (k110_ok l) (ckHc (k111_ok l) (ckHc (k112_ok l) (ckHc (k113_ok l) (ckHc (k37_ok l) (ckHc (k23_ok l) (ckHc (k24_ok l) (fun _ h => absurd h List.not_mem_nil)))))))))))) True.intro (by decide +kernel)
noncomputable def dC176 : List ckC := [.inl (2, [(4, 10), (1, 1), (4, 11), (0, 1), (0, 2), (0, 3), (0, 4), (0, 5), (0, 6), (0, 7), (0, 8), (0, 9), (0, 10), (0, 11), (0, 12), (0, 13)]), .inr (0, 14, 0)]
noncomputable def dT177 : List ckI := [ckTop, ckTop, ckTop, ckTop, ckTop, ckTop, ckTop, ckTop, ckTop, ckTop, ckTop, ckTop, ckTop, ckTop, (8, 8)]
-- FarMachine$Machine.sumOf
noncomputable def k115 : ckCtr := (135, ([(0, (1, 0)), (1, (4, 0)), (2, (0, 0))], [], dC176, dT177, [([(8, ckTop)], [], [])], [], [], [], 0, 0), [([], [(0, 15)], [], [], [], [ckTop], [], [], [], [], 0, 0)], 1, 80, 0, 0)
noncomputable def k115_a : ckAs := [(5, [(297720, [(1, 0, 1, ([(0, (1, 0)), (1, (4, 0)), (2, (0, 0)), (3, (0, 17)), (4, (0, 18))], [], [], [], [], [ckTop, (0, 8)], [], [], [], [], 0, 0))])])]
noncomputable def k115_c : List (Nat × ckCtr) := []
theorem k115_ok (l : Launch) : ckCtrOk l ckMT ckTW ckCL k115 := mt_135 (as := k115_a) (cs := k115_c) (gx := []) (f := 200000) rfl (fun _ h => absurd h List.not_mem_nil) True.intro (by decide +kernel)
noncomputable def dC178 : List ckC := [.inl (2, [(4, 10), (1, 1), (4, 11), (0, 0), (0, 1), (0, 2), (0, 3), (0, 4), (0, 5), (0, 6), (0, 7), (0, 8), (0, 9), (0, 10), (0, 11), (0, 12)]), .inr (0, 13, 0)]
noncomputable def dT179 : List ckI := [ckTop, ckTop, ckTop, ckTop, ckTop, ckTop, ckTop, ckTop, ckTop, ckTop, ckTop, ckTop, ckTop, (8, 8)]
-- FarMachine$Machine.sumOn
noncomputable def k116 : ckCtr := (134, ([(0, (1, 0)), (1, (4, 0))], [], dC178, dT179, [([(8, ckTop)], [], [])], [], [], [], 0, 0), [([], [(0, 14)], [], [], [], [ckTop], [], [], [], [], 0, 0)], 2, 105, 0, 0)
noncomputable def k116_a : ckAs := []
noncomputable def k116_c : List (Nat × ckCtr) := [(6, k115)]
theorem k116_ok (l : Launch) : ckCtrOk l ckMT ckTW ckCL k116 := mt_134 (as := k116_a) (cs := k116_c) (gx := []) (f := 200000) rfl (ckHc (k115_ok l) (fun _ h => absurd h List.not_mem_nil)) True.intro (by decide +kernel)
-- FarMachine.refuseFar
noncomputable def k117 : ckCtr := (35, ([(0, (1, 0)), (1, (0, 0))], [], dC33, [(-2, -2), (0, 1), (7, 7)], [([(7, ckTop)], [], [])], [], [], [], 0, 0), [([], [(0, 3)], [(1, .inr (0, 2, 1))], [], [], [(1002, 1002), ckTop], [([(2, ckTop), (3, ckTop), (7, ckTop)], [(2, 4)], [])], [], [], [], 0, 0)], 2, 101, 0, 0)
noncomputable def k117_a : ckAs := []
noncomputable def k117_c : List (Nat × ckCtr) := [(5, k33)]
theorem k117_ok (l : Launch) : ckCtrOk l ckMT ckTW ckCL k117 := mt_35 (as := k117_a) (cs := k117_c) (gx := []) (f := 200000) rfl (ckHc (k33_ok l) (fun _ h => absurd h List.not_mem_nil)) True.intro (by decide +kernel)
noncomputable def dC180 : List ckC := [.inl (8, [(1, 1), (4, 10), (0, 1), (4, 11), (4, 12), (4, 13), (4, 14), (1, 2)]), .inl (7, [(1, 3), (4, 15), (0, 2), (4, 16), (4, 17), (4, 18), (4, 19), (4, 20), (4, 21), (4, 22)]), .inr (0, 3, 0), .inl (2, [(4, 23), (1, 4), (4, 24), (0, 4), (0, 5), (0, 6), (0, 7), (0, 8), (0, 9), (0, 10), (0, 11), (0, 12), (0, 13), (0, 14), (0, 15), (0, 16)]), .inr (0, 17, 1)]
noncomputable def dT181 : List ckI := [ckTop, (0, 1), (0, 1), (7, 7), ckTop, ckTop, ckTop, ckTop, ckTop, ckTop, ckTop, ckTop, ckTop, ckTop, ckTop, ckTop, ckTop, (8, 8), ckTop, ckTop, ckTop, ckTop, ckTop, ckTop, ckTop, ckTop]
noncomputable def dG182 : List ckG := [([(7, ckTop)], [], []), ([(1, ckTop), (2, ckTop), (3, ckTop), (4, ckTop), (5, ckTop), (6, ckTop), (7, ckTop), (8, ckTop)], [(0, 18), (1, 19), (2, 20), (3, 21), (4, 22), (5, 23), (6, 24), (7, 25)], [])]
-- FarMachine.state
noncomputable def k118 : ckCtr := (5, ([(0, (1, 0)), (1, (0, 0))], [], dC180, dT181, dG182, [], [], [], 0, 0), [([], [(0, 26)], [(2, .inr (0, 3, 2))], [], [], [ckTop], [([(2, ckTop), (3, ckTop), (7, ckTop)], [], [])], [], [], [], 0, 0)], 3, 126, 0, 0)
noncomputable def k118_a : ckAs := []
noncomputable def k118_c : List (Nat × ckCtr) := [(103, k116), (120, k117)]
theorem k118_ok (l : Launch) : ckCtrOk l ckMT ckTW ckCL k118 := mt_5 (as := k118_a) (cs := k118_c) (gx := []) (f := 200000) rfl (ckHc (k116_ok l) (ckHc (k117_ok l) (fun _ h => absurd h List.not_mem_nil))) True.intro (by decide +kernel)
-- FarMachineModel.isIn
noncomputable def k119 : ckCtr := (45, ([(0, (0, 0)), (1, (0, 1))], [], [], [ckTop, (10, 10)], [], [], [], [], 0, 0), [([], [(0, 2)], [], [], [(0, (0, 9))], [(1, 1)], [], [], [], [], 0, 0), ([], [(0, 2)], [], [], [(0, (10, 2147483647))], [(0, 0)], [], [], [], [], 0, 0), ([], [(0, 2)], [], [], [(0, (-2147483648, -1))], [(0, 0)], [], [], [], [], 0, 0)], 1, 80, 0, 0)
noncomputable def k119_a : ckAs := []
noncomputable def k119_c : List (Nat × ckCtr) := []
theorem k119_ok (l : Launch) : ckCtrOk l ckMT ckTW ckCL k119 := mt_45 (as := k119_a) (cs := k119_c) (gx := []) (f := 200000) rfl (fun _ h => absurd h List.not_mem_nil) True.intro (by decide +kernel)
-- FarMachineModel.powerOf
noncomputable def k120 : ckCtr := (49, ([(0, (0, 0))], [], [], [ckTop], [], [], [], [], 0, 0), [([], [(0, 1)], [], [], [], [(0, 5)], [], [], [], [], 0, 0)], 1, 80, 0, 0)
noncomputable def k120_a : ckAs := []
noncomputable def k120_c : List (Nat × ckCtr) := []
theorem k120_ok (l : Launch) : ckCtrOk l ckMT ckTW ckCL k120 := mt_49 (as := k120_a) (cs := k120_c) (gx := []) (f := 200000) rfl (fun _ h => absurd h List.not_mem_nil) True.intro (by decide +kernel)
noncomputable def dT183 : List ckI := [(318, 318), (1, 99), (0, 128000), ckTop, ckTop, ckTop, ckTop, ckTop, ckTop, ckTop, ckTop]
noncomputable def dG184 : List ckG := [([(48, ckTop), (49, (0, 47)), (55, ckTop), (56, ckTop), (58, ckTop), (59, ckTop), (60, ckTop), (61, ckTop), (62, ckTop), (63, ckTop), (64, ckTop), (65, ckTop), (66, ckTop), (67, ckTop), (68, ckTop), (76, ckTop), (77, (0, 30)), (197, ckTop), (198, (0, 60)), (318, ckTop)], [(55, 1), (58, 2), (60, 3), (61, 4), (62, 5), (63, 6), (64, 7), (65, 8), (66, 9), (67, 10)], [])]
-- FarMachineModel.power
noncomputable def k121 : ckCtr := (50, ([(0, (1, 0))], [], [.inr (0, 0, 0)], dT183, dG184, [], [], [(1, 0, 0, 0, [])], 0, 0), [([], [(0, 11)], [], [], [], [ckTop], [], [], [], [(1, 0, 0, 0, [])], 0, 0)], 2, 100, 0, 0)
noncomputable def k121_a : ckAs := [(4, [(88009, [(1, 0, 1, ([(0, (1, 0)), (1, (0, 13)), (2, (0, 14))], [], [], [], [], [ckTop, (0, 8)], [], [], [], [(1, 0, 0, 0, [])], 0, 0))])])]
noncomputable def k121_c : List (Nat × ckCtr) := [(23, k120)]
theorem k121_ok (l : Launch) : ckCtrOk l ckMT ckTW ckCL k121 := mt_50 (as := k121_a) (cs := k121_c) (gx := []) (f := 200000) rfl (ckHc (k120_ok l) (fun _ h => absurd h List.not_mem_nil)) True.intro (by decide +kernel)
-- FarMachineModel.ons
noncomputable def k122 : ckCtr := (52, ([(0, (1, 0))], [], [.inr (0, 0, 0)], dT183, dG184, [], [], [(1, 0, 0, 0, [])], 0, 0), [([], [(0, 11)], [], [], [], [ckTop], [], [], [], [(1, 0, 0, 0, [])], 0, 0)], 1, 80, 0, 0)
noncomputable def k122_a : ckAs := [(4, [(88009, [(1, 0, 1, ([(0, (1, 0)), (1, (0, 13)), (2, (0, 14))], [], [], [], [], [ckTop, (0, 8)], [], [], [], [(1, 0, 0, 0, [])], 0, 0))])])]
noncomputable def k122_c : List (Nat × ckCtr) := []
theorem k122_ok (l : Launch) : ckCtrOk l ckMT ckTW ckCL k122 := mt_52 (as := k122_a) (cs := k122_c) (gx := []) (f := 200000) rfl (fun _ h => absurd h List.not_mem_nil) True.intro (by decide +kernel)
-- FarMachineModel.state
noncomputable def k123 : ckCtr := (65, ([(0, (1, 0)), (1, (0, 0))], [], dC51, dT52, dG53, [], [], [(1, 1, 0, 0, [])], 0, 0), [([], [(0, 32)], [(1, .inr (0, 20, 2))], [], [], [ckTop], [([(2, ckTop), (3, ckTop), (7, ckTop)], [], [])], [], [], [(1, 1, 0, 0, [])], 0, 0)], 3, 122, 0, 0)
noncomputable def k123_a : ckAs := []
noncomputable def k123_c : List (Nat × ckCtr) := [(3, k119), (15, k37), (64, k121), (80, k122)]
theorem k123_ok (l : Launch) : ckCtrOk l ckMT ckTW ckCL k123 := mt_65 (as := k123_a) (cs := k123_c) (gx := []) (f := 200000) rfl (ckHc (k119_ok l) (ckHc (k37_ok l) (ckHc (k121_ok l) (ckHc (k122_ok l) (fun _ h => absurd h List.not_mem_nil))))) True.intro (by decide +kernel)
-- FarMachine.refuseFar
noncomputable def k124 : ckCtr := (35, ([(0, (1, 0)), (1, (0, 0))], [], dC33, [(-4, -4), (0, 1), (7, 7)], [([(7, ckTop)], [], [])], [], [], [], 0, 0), [([], [(0, 3)], [(1, .inr (0, 2, 1))], [], [], [(1004, 1004), ckTop], [([(4, ckTop), (5, ckTop), (7, ckTop)], [(4, 4)], [])], [], [], [], 0, 0)], 2, 101, 0, 0)
noncomputable def k124_a : ckAs := []
noncomputable def k124_c : List (Nat × ckCtr) := [(5, k15)]
theorem k124_ok (l : Launch) : ckCtrOk l ckMT ckTW ckCL k124 := mt_35 (as := k124_a) (cs := k124_c) (gx := []) (f := 200000) rfl (ckHc (k15_ok l) (fun _ h => absurd h List.not_mem_nil)) True.intro (by decide +kernel)
-- FarMachine.refuseFar
noncomputable def k125 : ckCtr := (35, ([(0, (1, 0)), (1, (0, 0))], [], dC33, [(-6, -6), (0, 1), (7, 7)], [([(7, ckTop)], [], [])], [], [], [], 0, 0), [([], [(0, 3)], [(1, .inr (0, 2, 1))], [], [], [(1006, 1006), ckTop], [([(6, ckTop), (7, ckTop)], [(6, 4)], [])], [], [], [], 0, 0)], 2, 101, 0, 0)
noncomputable def k125_a : ckAs := []
noncomputable def k125_c : List (Nat × ckCtr) := [(5, k16)]
theorem k125_ok (l : Launch) : ckCtrOk l ckMT ckTW ckCL k125 := mt_35 (as := k125_a) (cs := k125_c) (gx := []) (f := 200000) rfl (ckHc (k16_ok l) (fun _ h => absurd h List.not_mem_nil)) True.intro (by decide +kernel)
noncomputable def dC185 : List ckC := [.inl (2, [(4, 10), (4, 11), (4, 12), (0, 1), (0, 2), (0, 3), (0, 4), (0, 5), (0, 6), (0, 7), (0, 8), (0, 9), (0, 10), (0, 11), (0, 12), (0, 13)])]
noncomputable def dT186 : List ckI := [ckTop, ckTop, ckTop, ckTop, ckTop, ckTop, ckTop, ckTop, ckTop, ckTop, ckTop, ckTop, ckTop, ckTop]
-- FarMachine$Machine.isOn
noncomputable def k126 : ckCtr := (131, ([(0, (1, 0)), (1, (0, 0))], [], dC185, dT186, [], [], [], [], 0, 0), [([], [(0, 14)], [], [], [], [(1, 1)], [], [], [], [], 0, 0), ([], [(0, 14)], [], [], [], [(0, 0)], [], [], [], [], 0, 0)], 1, 80, 0, 0)
noncomputable def k126_a : ckAs := []
noncomputable def k126_c : List (Nat × ckCtr) := []
theorem k126_ok (l : Launch) : ckCtrOk l ckMT ckTW ckCL k126 := mt_131 (as := k126_a) (cs := k126_c) (gx := []) (f := 200000) rfl (fun _ h => absurd h List.not_mem_nil) True.intro (by decide +kernel)
-- FarMachine$Machine.feelHeat
noncomputable def k127 : ckCtr := (142, ([(0, (1, 0))], [], dC178, dT179, [([(8, ckTop)], [], [])], [], [], [], 0, 0), [([], [(0, 14)], [], [], [], [ckTop], [], [], [], [], 0, 0)], 2, 101, 0, 0)
noncomputable def k127_a : ckAs := [(2, [(798748, [(1, 0, 0, ([(0, (1, 0)), (1, (0, 15))], [], [], [], [], [(0, 8)], [], [], [], [], 0, 0))])])]
noncomputable def k127_c : List (Nat × ckCtr) := [(13, k126), (36, k126)]
theorem k127_ok (l : Launch) : ckCtrOk l ckMT ckTW ckCL k127 := mt_142 (as := k127_a) (cs := k127_c) (gx := []) (f := 200000) rfl (ckHc (k126_ok l) (ckHc (k126_ok l) (fun _ h => absurd h List.not_mem_nil))) True.intro (by decide +kernel)
-- java/lang/Integer.bitCount
noncomputable def k128 : ckCtr := (193, ([(0, (0, 0))], [], [], [ckTop], [], [], [], [], 0, 0), [([], [(0, 1)], [], [], [], [(0, 63)], [], [], [], [], 0, 0)], 1, 80, 0, 0)
noncomputable def k128_a : ckAs := []
noncomputable def k128_c : List (Nat × ckCtr) := []
theorem k128_ok (l : Launch) : ckCtrOk l ckMT ckTW ckCL k128 := mt_193 (as := k128_a) (cs := k128_c) (gx := []) (f := 200000) rfl (fun _ h => absurd h List.not_mem_nil) True.intro (by decide +kernel)
noncomputable def dC187 : List ckC := [.inl (2, [(1, 1), (1, 2), (4, 10), (0, 1), (0, 2), (0, 3), (0, 4), (0, 5), (0, 6), (0, 7), (0, 8), (0, 9), (0, 10), (0, 11), (0, 12), (0, 13)]), .inr (0, 14, 0), .inr (0, 15, 1)]
noncomputable def dT188 : List ckI := [ckTop, ckTop, ckTop, ckTop, ckTop, ckTop, ckTop, ckTop, ckTop, ckTop, ckTop, ckTop, ckTop, ckTop, (48, 48), (8, 8)]
-- FarMachine$Machine.feel
noncomputable def k129 : ckCtr := (141, ([(0, (1, 0)), (1, (0, 0))], [], dC187, dT188, [([(48, ckTop)], [], []), ([(8, ckTop)], [], [])], [], [], [], 0, 0), [([], [(0, 16)], [], [], [], [ckTop], [], [], [], [], 0, 0)], 3, 126, 0, 0)
noncomputable def k129_a : ckAs := []
noncomputable def k129_c : List (Nat × ckCtr) := [(49, k127), (75, k128), (93, k116), (102, k17)]
theorem k129_ok (l : Launch) : ckCtrOk l ckMT ckTW ckCL k129 := mt_141 (as := k129_a) (cs := k129_c) (gx := []) (f := 200000) rfl (ckHc (k127_ok l) (ckHc (k128_ok l) (ckHc (k116_ok l) (ckHc (k17_ok l) (fun _ h => absurd h List.not_mem_nil))))) True.intro (by decide +kernel)
noncomputable def dC189 : List ckC := [.inl (8, [(1, 1), (4, 10), (0, 1), (4, 11), (4, 12), (4, 13), (4, 14), (1, 2)]), .inl (7, [(1, 3), (4, 15), (0, 2), (4, 16), (4, 17), (4, 18), (4, 19), (4, 20), (4, 21), (4, 22)]), .inr (0, 3, 0), .inl (2, [(1, 4), (1, 5), (4, 23), (0, 4), (0, 5), (0, 6), (0, 7), (0, 8), (0, 9), (0, 10), (0, 11), (0, 12), (0, 13), (0, 14), (0, 15), (0, 16)]), .inr (0, 17, 1), .inr (0, 18, 2)]
noncomputable def dT190 : List ckI := [ckTop, (0, 1), (0, 1), (7, 7), ckTop, ckTop, ckTop, ckTop, ckTop, ckTop, ckTop, ckTop, ckTop, ckTop, ckTop, ckTop, ckTop, (48, 48), (8, 8), ckTop, ckTop, ckTop, ckTop, ckTop, ckTop, ckTop, ckTop]
noncomputable def dG191 : List ckG := [([(7, ckTop)], [], []), ([(48, ckTop)], [], []), ([(1, ckTop), (2, ckTop), (3, ckTop), (4, ckTop), (5, ckTop), (6, ckTop), (7, ckTop), (8, ckTop)], [(0, 19), (1, 20), (2, 21), (3, 22), (4, 23), (5, 24), (6, 25), (7, 26)], [])]
noncomputable def dG192 : List ckG := [([(4, ckTop), (5, ckTop), (6, ckTop), (7, ckTop)], [], [])]
-- FarMachine.felt
noncomputable def k130 : ckCtr := (6, ([(0, (1, 0)), (1, (0, 0))], [], dC189, dT190, dG191, [], [], [], 0, 0), [([], [(0, 27)], [(2, .inr (0, 3, 3))], [], [], [ckTop], dG192, [], [], [], 0, 0)], 4, 147, 0, 0)
noncomputable def k130_a : ckAs := []
noncomputable def k130_c : List (Nat × ckCtr) := [(7, k124), (20, k125), (34, k129)]
theorem k130_ok (l : Launch) : ckCtrOk l ckMT ckTW ckCL k130 := mt_6 (as := k130_a) (cs := k130_c) (gx := []) (f := 200000) rfl (ckHc (k124_ok l) (ckHc (k125_ok l) (ckHc (k129_ok l) (fun _ h => absurd h List.not_mem_nil)))) True.intro (by decide +kernel)
-- FarMachineModel.warmth
noncomputable def k131 : ckCtr := (54, ([(0, (1, 0))], [], [.inr (0, 0, 0)], dT183, dG184, [], [], [(1, 0, 0, 0, [])], 0, 0), [([], [(0, 11)], [], [], [], [ckTop], [], [], [], [(1, 0, 0, 0, [])], 0, 0), ([], [(0, 11)], [], [], [], [(0, 0)], [], [], [], [(1, 0, 0, 0, [])], 0, 0)], 1, 80, 0, 0)
noncomputable def k131_a : ckAs := [(2, [(718401, [(1, 0, 0, ([(0, (1, 0)), (1, (0, 12))], [], [], [], [], [(0, 8)], [], [], [], [(1, 0, 0, 0, [])], 0, 0))])])]
noncomputable def k131_c : List (Nat × ckCtr) := []
theorem k131_ok (l : Launch) : ckCtrOk l ckMT ckTW ckCL k131 := mt_54 (as := k131_a) (cs := k131_c) (gx := []) (f := 200000) rfl (fun _ h => absurd h List.not_mem_nil) True.intro (by decide +kernel)
-- FarMachineModel.bits
noncomputable def k132 : ckCtr := (48, ([(0, (0, 0))], [], [], [ckTop], [], [], [], [], 0, 0), [([], [(0, 1)], [], [], [], [ckTop], [], [], [], [], 0, 0)], 1, 80, 0, 0)
noncomputable def k132_a : ckAs := [(4, [(404360, [(2, 0, 1, ([(0, (0, 0)), (1, (0, 2)), (2, (0, 3))], [], [], [], [], [ckTop, ckTop], [], [], [(3, 0, 0)], [], 0, 0))])])]
noncomputable def k132_c : List (Nat × ckCtr) := []
theorem k132_ok (l : Launch) : ckCtrOk l ckMT ckTW ckCL k132 := mt_48 (as := k132_a) (cs := k132_c) (gx := []) (f := 200000) rfl (fun _ h => absurd h List.not_mem_nil) True.intro (by decide +kernel)
noncomputable def dT193 : List ckI := [(0, 31), (318, 318), (1, 99), (0, 128000), ckTop, ckTop, ckTop, ckTop, ckTop, ckTop, ckTop, ckTop]
noncomputable def dG194 : List ckG := [([(48, ckTop), (49, (0, 47)), (55, ckTop), (56, ckTop), (58, ckTop), (59, ckTop), (60, ckTop), (61, ckTop), (62, ckTop), (63, ckTop), (64, ckTop), (65, ckTop), (66, ckTop), (67, ckTop), (68, ckTop), (76, ckTop), (77, (0, 30)), (197, ckTop), (198, (0, 60)), (318, ckTop)], [(55, 2), (58, 3), (60, 4), (61, 5), (62, 6), (63, 7), (64, 8), (65, 9), (66, 10), (67, 11)], [])]
-- FarMachineModel.feels
noncomputable def k133 : ckCtr := (55, ([(0, (1, 0)), (1, (0, 0))], [], [.inr (0, 1, 0)], dT193, dG194, [], [], [(1, 0, 0, 0, [])], 0, 0), [([], [(0, 12)], [], [], [], [ckTop], [], [], [], [(1, 0, 0, 0, [])], 0, 0)], 3, 122, 0, 0)
noncomputable def k133_a : ckAs := []
noncomputable def k133_c : List (Nat × ckCtr) := [(49, k131), (72, k122), (75, k132), (90, k121)]
theorem k133_ok (l : Launch) : ckCtrOk l ckMT ckTW ckCL k133 := mt_55 (as := k133_a) (cs := k133_c) (gx := []) (f := 200000) rfl (ckHc (k131_ok l) (ckHc (k122_ok l) (ckHc (k132_ok l) (ckHc (k121_ok l) (fun _ h => absurd h List.not_mem_nil))))) True.intro (by decide +kernel)
-- FarMachineModel.felt
noncomputable def k134 : ckCtr := (66, ([(0, (1, 0)), (1, (0, 0))], [], dC51, dT52, dG53, [], [], [(1, 1, 0, 0, [])], 0, 0), [([], [(0, 32)], [(1, .inr (0, 20, 2))], [], [], [ckTop], dG192, [], [], [(1, 1, 0, 0, [])], 0, 0)], 4, 143, 0, 0)
noncomputable def k134_a : ckAs := []
noncomputable def k134_c : List (Nat × ckCtr) := [(4, k110), (17, k23), (17, k24), (29, k133)]
theorem k134_ok (l : Launch) : ckCtrOk l ckMT ckTW ckCL k134 := mt_66 (as := k134_a) (cs := k134_c) (gx := []) (f := 200000) rfl (ckHc (k110_ok l) (ckHc (k23_ok l) (ckHc (k24_ok l) (ckHc (k133_ok l) (fun _ h => absurd h List.not_mem_nil))))) True.intro (by decide +kernel)
noncomputable def dC195 : List ckC := [.inl (1, [(1, 1), (4, 10), (4, 11), (4, 12), (0, 1)]), .inr (0, 2, 0)]
-- FarMachine$Commands.has
noncomputable def k135 : ckCtr := (119, ([(0, (1, 0)), (1, (0, 0))], [], dC195, [ckTop, ckTop, (30, 30)], [([(30, ckTop)], [], [])], [], [], [], 0, 0), [([], [(0, 3)], [], [], [(0, (0, 29)), (1, (1, 2147483647))], [(1, 1)], [], [], [(0, 1, (-1))], [], 0, 0), ([], [(0, 3)], [], [], [], [(0, 0)], [], [], [], [], 0, 0)], 1, 80, 0, 0)
noncomputable def k135_a : ckAs := []
noncomputable def k135_c : List (Nat × ckCtr) := []
theorem k135_ok (l : Launch) : ckCtrOk l ckMT ckTW ckCL k135 := mt_119 (as := k135_a) (cs := k135_c) (gx := []) (f := 200000) rfl (fun _ h => absurd h List.not_mem_nil) True.intro (by decide +kernel)
noncomputable def dC196 : List ckC := [.inl (1, [(1, 1), (4, 10), (4, 11), (1, 2), (0, 1)]), .inr (0, 2, 0), .inr (0, 2, 1)]
-- FarMachine$Commands.comesNow
noncomputable def k136 : ckCtr := (121, ([(0, (1, 0)), (1, (0, 0))], [], dC196, [ckTop, ckTop, (30, 30)], [([(30, ckTop)], [], []), ([(30, ckTop)], [], [])], [], [], [], 0, 0), [([], [(0, 3)], [], [], [], [(0, 0)], [], [], [], [], 0, 0), ([], [(0, 3)], [], [], [(0, (0, 29)), (1, (1, 2147483647))], [(1, 1)], [], [], [(0, 1, (-1))], [], 0, 0)], 2, 101, 0, 0)
noncomputable def k136_a : ckAs := []
noncomputable def k136_c : List (Nat × ckCtr) := [(2, k135)]
theorem k136_ok (l : Launch) : ckCtrOk l ckMT ckTW ckCL k136 := mt_121 (as := k136_a) (cs := k136_c) (gx := []) (f := 200000) rfl (ckHc (k135_ok l) (fun _ h => absurd h List.not_mem_nil)) True.intro (by decide +kernel)
noncomputable def dP197 : List (Nat × ckC) := [(0, .inl (2, [(4, 10), (4, 11), (4, 12), (0, 1), (0, 0), (0, 3), (0, 4), (0, 5), (0, 6), (0, 14), (0, 8), (0, 9), (0, 10), (0, 11), (0, 12), (0, 13)]))]
-- FarMachine$Machine.goTo
noncomputable def k137 : ckCtr := (129, ([(0, (1, 0)), (1, (0, 0))], [], dC185, dT186, [], [], [], [], 0, 0), [([], [], dP197, [], [], [(0, 0)], [], [], [], [], 0, 0)], 1, 80, 0, 0)
noncomputable def k137_a : ckAs := []
noncomputable def k137_c : List (Nat × ckCtr) := []
theorem k137_ok (l : Launch) : ckCtrOk l ckMT ckTW ckCL k137 := mt_129 (as := k137_a) (cs := k137_c) (gx := []) (f := 200000) rfl (fun _ h => absurd h List.not_mem_nil) True.intro (by decide +kernel)
noncomputable def dC198 : List ckC := [.inl (1, [(1, 2), (1, 3), (1, 4), (4, 10), (0, 1)]), .inl (2, [(1, 5), (4, 11), (1, 0), (0, 2), (0, 3), (0, 4), (0, 5), (0, 6), (0, 7), (0, 8), (0, 9), (0, 10), (0, 11), (0, 12), (0, 13), (0, 14)]), .inr (0, 15, 0), .inr (0, 15, 1), .inr (0, 15, 2), .inr (0, 16, 3)]
noncomputable def dT199 : List ckI := [ckTop, ckTop, ckTop, ckTop, ckTop, ckTop, ckTop, ckTop, ckTop, ckTop, ckTop, ckTop, ckTop, ckTop, ckTop, (30, 30), (48, 48)]
noncomputable def dG200 : List ckG := [([(30, ckTop)], [], []), ([(30, ckTop)], [], []), ([(30, ckTop)], [], []), ([(48, ckTop)], [], [])]
noncomputable def dP201 : List (Nat × ckC) := [(1, .inl (2, [(1, 5), (4, 11), (1, 0), (0, 2), (0, 17), (0, 4), (0, 5), (0, 6), (0, 7), (0, 18), (0, 9), (0, 10), (0, 11), (0, 12), (0, 13), (0, 14)])), (5, .inr (0, 16, 4))]
-- FarMachine$Commands.doTo
noncomputable def k138 : ckCtr := (122, ([(0, (1, 0)), (1, (1, 1)), (2, (0, 0))], [], dC198, dT199, dG200, [], [], [], 0, 0), [([], [], dP201, [], [], [ckTop, ckTop], [([(48, ckTop)], [], [])], [], [], [], 0, 0)], 3, 122, 0, 0)
noncomputable def k138_a : ckAs := []
noncomputable def k138_c : List (Nat × ckCtr) := [(2, k135), (30, k18), (38, k135), (61, k137)]
theorem k138_ok (l : Launch) : ckCtrOk l ckMT ckTW ckCL k138 := mt_122 (as := k138_a) (cs := k138_c) (gx := []) (f := 200000) rfl (ckHc (k135_ok l) (ckHc (k18_ok l) (ckHc (k135_ok l) (ckHc (k137_ok l) (fun _ h => absurd h List.not_mem_nil))))) True.intro (by decide +kernel)
noncomputable def dC202 : List ckC := [.inl (1, [(1, 1), (1, 2), (1, 3), (1, 4), (0, 4)]), .inr (0, 5, 0), .inr (0, 5, 1), .inr (0, 5, 2), .inr (0, 5, 3)]
noncomputable def dG203 : List ckG := [([(30, ckTop)], [], []), ([(30, ckTop)], [], []), ([(30, ckTop)], [], []), ([(30, ckTop)], [], [])]
noncomputable def dP204 : List (Nat × ckC) := [(0, .inl (1, [(1, 1), (1, 2), (1, 3), (1, 4), (0, 6)])), (1, .inr (0, 5, 4)), (2, .inr (0, 5, 5)), (3, .inr (0, 5, 6)), (4, .inr (0, 5, 7))]
-- FarMachine$Commands.add
noncomputable def k139 : ckCtr := (120, ([(0, (1, 0)), (1, (0, 0)), (2, (0, 1)), (3, (0, 2)), (4, (0, 3))], [], dC202, [ckTop, ckTop, ckTop, ckTop, ckTop, (30, 30)], dG203, [], [], [], 0, 0), [([], [], dP204, [], [(4, (0, 29))], [(1, 30)], dG203, [], [(4, 6, (-1)), (6, 4, 1)], [], 0, 0), ([], [], [], [], [(4, (30, 2147483647))], [], [], [], [], [], 0, 0), ([], [], [], [], [(4, (-2147483648, -1))], [], [], [], [], [], 0, 0)], 1, 80, 0, 0)
noncomputable def k139_a : ckAs := []
noncomputable def k139_c : List (Nat × ckCtr) := []
theorem k139_ok (l : Launch) : ckCtrOk l ckMT ckTW ckCL k139 := mt_120 (as := k139_a) (cs := k139_c) (gx := []) (f := 200000) rfl (fun _ h => absurd h List.not_mem_nil) True.intro (by decide +kernel)
noncomputable def dC205 : List ckC := [.inl (1, [(1, 1), (1, 2), (1, 3), (1, 4), (0, 0)]), .inr (0, 1, 0), .inr (0, 1, 1), .inr (0, 1, 2), .inr (0, 1, 3)]
noncomputable def dP206 : List (Nat × ckC) := [(0, .inl (1, [(1, 1), (1, 2), (1, 3), (1, 4), (0, 3)])), (1, .inr (0, 1, 4)), (2, .inr (0, 1, 5)), (3, .inr (0, 1, 6)), (4, .inr (0, 1, 7))]
noncomputable def dP207 : List (Nat × ckC) := [(0, .inl (1, [(1, 1), (1, 2), (1, 3), (1, 4), (0, 6)])), (1, .inr (0, 1, 4)), (2, .inr (0, 1, 5)), (3, .inr (0, 1, 6)), (4, .inr (0, 1, 7))]
-- FarMachine$Commands.passHour
noncomputable def k140 : ckCtr := (123, ([(0, (1, 0))], [], dC205, [ckTop, (30, 30)], dG203, [], [], [], 0, 0), [([], [(0, 2)], dP206, [], [], [ckTop, (0, 30)], dG203, [], [], [], 0, 0)], 2, 104, 0, 0)
noncomputable def k140_a : ckAs := [(20, [(709030, [(1, 0, 0, ([(0, (1, 0)), (1, (0, 2)), (2, (0, 5))], [], dP207, [], [], [(0, 30), (0, 30)], dG203, [], [(2, 0, 0), (6, 5, 0)], [], 0, 0))])])]
noncomputable def k140_c : List (Nat × ckCtr) := [(61, k139)]
theorem k140_ok (l : Launch) : ckCtrOk l ckMT ckTW ckCL k140 := mt_123 (as := k140_a) (cs := k140_c) (gx := []) (f := 200000) rfl (ckHc (k139_ok l) (fun _ h => absurd h List.not_mem_nil)) True.intro (by decide +kernel)
noncomputable def dC208 : List ckC := [.inl (2, [(1, 1), (4, 10), (1, 2), (0, 0), (0, 1), (0, 2), (0, 3), (0, 4), (0, 5), (0, 6), (0, 7), (0, 8), (0, 9), (0, 10), (0, 11), (0, 12)]), .inr (0, 13, 0), .inl (1, [(1, 3), (1, 4), (1, 5), (1, 6), (0, 14)]), .inr (0, 15, 1), .inr (0, 15, 2), .inr (0, 15, 3), .inr (0, 15, 4)]
noncomputable def dT209 : List ckI := [ckTop, ckTop, ckTop, ckTop, ckTop, ckTop, ckTop, ckTop, ckTop, ckTop, ckTop, ckTop, ckTop, (48, 48), ckTop, (30, 30)]
noncomputable def dG210 : List ckG := [([(48, ckTop)], [], []), ([(30, ckTop)], [], []), ([(30, ckTop)], [], []), ([(30, ckTop)], [], []), ([(30, ckTop)], [], [])]
noncomputable def dP211 : List (Nat × ckC) := [(0, .inl (2, [(1, 1), (4, 10), (1, 2), (0, 0), (0, 17), (0, 2), (0, 3), (0, 4), (0, 5), (0, 18), (0, 7), (0, 8), (0, 9), (0, 10), (0, 11), (0, 12)])), (1, .inr (0, 13, 5)), (2, .inl (1, [(1, 3), (1, 4), (1, 5), (1, 6), (0, 19)])), (3, .inr (0, 15, 6)), (4, .inr (0, 15, 7)), (5, .inr (0, 15, 8)), (6, .inr (0, 15, 9))]
noncomputable def dP212 : List (Nat × ckC) := [(0, .inl (2, [(1, 1), (4, 10), (1, 2), (0, 0), (0, 18), (0, 2), (0, 3), (0, 4), (0, 5), (0, 19), (0, 7), (0, 8), (0, 9), (0, 10), (0, 11), (0, 12)])), (1, .inr (0, 13, 5))]
-- FarMachine$Machine.receive
noncomputable def k141 : ckCtr := (138, ([(0, (1, 0))], [], dC208, dT209, dG210, [], [], [], 0, 0), [([], [(0, 16)], dP211, [], [], [(1, 1), ckTop, ckTop, (0, 30)], dG210, [], [], [], 0, 0), ([], [(0, 16)], dP211, [], [], [(0, 0), ckTop, ckTop, (0, 30)], dG210, [], [], [], 0, 0)], 4, 144, 0, 0)
noncomputable def k141_a : ckAs := [(2, [(784582, [(1, 0, 0, ([(0, (1, 0)), (1, (0, 17))], [], dP212, [], [], [(0, 2147483647), ckTop, ckTop], [([(48, ckTop)], [], [])], [], [], [], 0, 0))])])]
noncomputable def k141_c : List (Nat × ckCtr) := [(18, k136), (30, k138), (43, k140)]
theorem k141_ok (l : Launch) : ckCtrOk l ckMT ckTW ckCL k141 := mt_138 (as := k141_a) (cs := k141_c) (gx := []) (f := 200000) rfl (ckHc (k136_ok l) (ckHc (k138_ok l) (ckHc (k140_ok l) (fun _ h => absurd h List.not_mem_nil)))) True.intro (by decide +kernel)
-- FarMachine.held
noncomputable def k142 : ckCtr := (41, ([(0, (0, 0)), (1, (0, 1)), (2, (0, 2))], [], [], [ckTop, ckTop, (127, 127)], [], [], [], [], 0, 0), [([], [(0, 3)], [], [], [], [ckTop], [], [], [(0, 3, 0)], [], 0, 0)], 1, 80, 0, 0)
noncomputable def k142_a : ckAs := []
noncomputable def k142_c : List (Nat × ckCtr) := []
theorem k142_ok (l : Launch) : ckCtrOk l ckMT ckTW ckCL k142 := mt_41 (as := k142_a) (cs := k142_c) (gx := []) (f := 200000) rfl (fun _ h => absurd h List.not_mem_nil) True.intro (by decide +kernel)
-- FarMachine$Machine.hasOn
noncomputable def k143 : ckCtr := (133, ([(0, (1, 0)), (1, (0, 0))], [], dC176, dT177, [([(8, ckTop)], [], [])], [], [], [], 0, 0), [([], [(0, 15)], [], [], [], [(1, 1)], [], [], [], [], 0, 0), ([], [(0, 15)], [], [], [], [(0, 0)], [], [], [], [], 0, 0)], 2, 101, 0, 0)
noncomputable def k143_a : ckAs := [(2, [(950973, [(1, 0, 0, ([(0, (1, 0)), (1, (0, 0)), (2, (0, 16))], [], [], [], [], [(0, 8)], [], [], [], [], 0, 0))])])]
noncomputable def k143_c : List (Nat × ckCtr) := [(13, k126)]
theorem k143_ok (l : Launch) : ckCtrOk l ckMT ckTW ckCL k143 := mt_133 (as := k143_a) (cs := k143_c) (gx := []) (f := 200000) rfl (ckHc (k126_ok l) (fun _ h => absurd h List.not_mem_nil)) True.intro (by decide +kernel)
-- FarMachine.held
noncomputable def k144 : ckCtr := (41, ([(0, (0, 0)), (1, (0, 1)), (2, (0, 2))], [], [], [ckTop, ckTop, (20, 20)], [], [], [], [], 0, 0), [([], [(0, 3)], [], [], [], [ckTop], [], [], [(0, 3, 0)], [], 0, 0)], 1, 80, 0, 0)
noncomputable def k144_a : ckAs := []
noncomputable def k144_c : List (Nat × ckCtr) := []
theorem k144_ok (l : Launch) : ckCtrOk l ckMT ckTW ckCL k144 := mt_41 (as := k144_a) (cs := k144_c) (gx := []) (f := 200000) rfl (fun _ h => absurd h List.not_mem_nil) True.intro (by decide +kernel)
noncomputable def dP213 : List (Nat × ckC) := [(0, .inl (2, [(4, 10), (1, 1), (4, 11), (0, 1), (0, 2), (0, 3), (0, 4), (0, 15), (0, 16), (0, 7), (0, 8), (0, 9), (0, 10), (0, 11), (0, 12), (0, 13)]))]
-- FarMachine$Machine.turnDish
noncomputable def k145 : ckCtr := (140, ([(0, (1, 0)), (1, (0, 0))], [], dC176, dT177, [([(8, ckTop)], [], [])], [], [], [], 0, 0), [([], [], dP213, [], [], [ckTop, ckTop], [], [], [], [], 0, 0), ([], [], [], [], [(5, (-2147483648, 2147483646))], [], [], [], [], [], 0, 0)], 3, 123, 0, 0)
noncomputable def k145_a : ckAs := []
noncomputable def k145_c : List (Nat × ckCtr) := [(7, k143), (32, k144)]
theorem k145_ok (l : Launch) : ckCtrOk l ckMT ckTW ckCL k145 := mt_140 (as := k145_a) (cs := k145_c) (gx := []) (f := 200000) rfl (ckHc (k143_ok l) (ckHc (k144_ok l) (fun _ h => absurd h List.not_mem_nil))) True.intro (by decide +kernel)
-- FarMachine$Machine.isAimed
noncomputable def k146 : ckCtr := (136, ([(0, (0, 0))], [], [], [ckTop], [], [], [], [], 0, 0), [([], [(0, 1)], [], [], [(0, (-2, 2))], [(1, 1)], [], [], [], [], 0, 0), ([], [(0, 1)], [], [], [], [(0, 0)], [], [], [], [], 0, 0)], 1, 80, 0, 0)
noncomputable def k146_a : ckAs := []
noncomputable def k146_c : List (Nat × ckCtr) := []
theorem k146_ok (l : Launch) : ckCtrOk l ckMT ckTW ckCL k146 := mt_136 (as := k146_a) (cs := k146_c) (gx := []) (f := 200000) rfl (fun _ h => absurd h List.not_mem_nil) True.intro (by decide +kernel)
noncomputable def dC214 : List ckC := [.inl (2, [(1, 1), (1, 2), (4, 10), (0, 0), (0, 1), (0, 2), (0, 3), (0, 4), (0, 5), (0, 6), (0, 7), (0, 8), (0, 9), (0, 10), (0, 11), (0, 12)]), .inr (0, 13, 0), .inr (0, 14, 1)]
noncomputable def dT215 : List ckI := [ckTop, ckTop, ckTop, ckTop, ckTop, ckTop, ckTop, ckTop, ckTop, ckTop, ckTop, ckTop, ckTop, (48, 48), (8, 8)]
noncomputable def dP216 : List (Nat × ckC) := [(0, .inl (2, [(1, 1), (1, 2), (4, 10), (0, 16), (0, 17), (0, 18), (0, 3), (0, 19), (0, 20), (0, 21), (0, 7), (0, 8), (0, 9), (0, 10), (0, 11), (0, 12)]))]
noncomputable def dP217 : List (Nat × ckC) := [(0, .inl (2, [(1, 1), (1, 2), (4, 10), (0, 0), (0, 16), (0, 2), (0, 3), (0, 4), (0, 5), (0, 6), (0, 7), (0, 8), (0, 9), (0, 10), (0, 11), (0, 12)]))]
-- FarMachine$Machine.act
noncomputable def k147 : ckCtr := (139, ([(0, (1, 0))], [], dC214, dT215, [([(48, ckTop)], [], []), ([(8, ckTop)], [], [])], [], [], [], 0, 0), [([], [(0, 15)], dP216, [], [], [(1000, 1000), ckTop, ckTop, ckTop, ckTop, ckTop, ckTop], [], [], [(1, 17, 47), (17, 1, 31)], [], 0, 0), ([], [(0, 15)], dP217, [], [(1, (0, 47)), (5, (-2, 2))], [ckTop, (0, 47)], [], [], [(16, 1, 1)], [], 0, 0)], 4, 147, 0, 0)
noncomputable def k147_a : ckAs := []
noncomputable def k147_c : List (Nat × ckCtr) := [(5, k17), (127, k142), (153, k34), (164, k145), (189, k129), (200, k143), (210, k146), (218, k129)]
theorem k147_ok (l : Launch) : ckCtrOk l ckMT ckTW ckCL k147 := mt_139 (as := k147_a) (cs := k147_c) (gx := []) (f := 200000) rfl (ckHc (k17_ok l) (ckHc (k142_ok l) (ckHc (k34_ok l) (ckHc (k145_ok l) (ckHc (k129_ok l) (ckHc (k143_ok l) (ckHc (k146_ok l) (ckHc (k129_ok l) (fun _ h => absurd h List.not_mem_nil))))))))) True.intro (by decide +kernel)
-- FarMachine$Machine.sumOf
noncomputable def k148 : ckCtr := (135, ([(0, (1, 0)), (1, (4, 1)), (2, (0, 0))], [], dC176, dT177, [([(8, ckTop)], [], [])], [], [], [], 0, 0), [([], [(0, 15)], [], [], [], [ckTop], [], [], [], [], 0, 0)], 1, 80, 0, 0)
noncomputable def k148_a : ckAs := [(5, [(297720, [(1, 0, 1, ([(0, (1, 0)), (1, (4, 1)), (2, (0, 0)), (3, (0, 17)), (4, (0, 18))], [], [], [], [], [ckTop, (0, 8)], [], [], [], [], 0, 0))])])]
noncomputable def k148_c : List (Nat × ckCtr) := []
theorem k148_ok (l : Launch) : ckCtrOk l ckMT ckTW ckCL k148 := mt_135 (as := k148_a) (cs := k148_c) (gx := []) (f := 200000) rfl (fun _ h => absurd h List.not_mem_nil) True.intro (by decide +kernel)
-- FarMachine$Machine.sumOn
noncomputable def k149 : ckCtr := (134, ([(0, (1, 0)), (1, (4, 1))], [], dC178, dT179, [([(8, ckTop)], [], [])], [], [], [], 0, 0), [([], [(0, 14)], [], [], [], [ckTop], [], [], [], [], 0, 0)], 2, 105, 0, 0)
noncomputable def k149_a : ckAs := []
noncomputable def k149_c : List (Nat × ckCtr) := [(6, k148)]
theorem k149_ok (l : Launch) : ckCtrOk l ckMT ckTW ckCL k149 := mt_134 (as := k149_a) (cs := k149_c) (gx := []) (f := 200000) rfl (ckHc (k148_ok l) (fun _ h => absurd h List.not_mem_nil)) True.intro (by decide +kernel)
-- FarMachine.held
noncomputable def k150 : ckCtr := (41, ([(0, (0, 0)), (1, (0, 1)), (2, (0, 2))], [], [], [ckTop, ckTop, (99, 99)], [], [], [], [], 0, 0), [([], [(0, 3)], [], [], [], [ckTop], [], [], [(0, 3, 0)], [], 0, 0)], 1, 80, 0, 0)
noncomputable def k150_a : ckAs := []
noncomputable def k150_c : List (Nat × ckCtr) := []
theorem k150_ok (l : Launch) : ckCtrOk l ckMT ckTW ckCL k150 := mt_41 (as := k150_a) (cs := k150_c) (gx := []) (f := 200000) rfl (fun _ h => absurd h List.not_mem_nil) True.intro (by decide +kernel)
-- FarMachine$Machine.heatAfter
noncomputable def k151 : ckCtr := (143, ([(0, (1, 0)), (1, (0, 0))], [], dC176, dT177, [([(8, ckTop)], [], [])], [], [], [], 0, 0), [([], [(0, 15)], [], [], [], [(0, 2147483647)], [], [], [], [], 0, 0)], 3, 126, 0, 0)
noncomputable def k151_a : ckAs := []
noncomputable def k151_c : List (Nat × ckCtr) := [(6, k149), (14, k150)]
theorem k151_ok (l : Launch) : ckCtrOk l ckMT ckTW ckCL k151 := mt_143 (as := k151_a) (cs := k151_c) (gx := []) (f := 200000) rfl (ckHc (k149_ok l) (ckHc (k150_ok l) (fun _ h => absurd h List.not_mem_nil))) True.intro (by decide +kernel)
noncomputable def dP218 : List (Nat × ckC) := [(0, .inl (2, [(4, 10), (1, 1), (4, 11), (0, 14), (0, 1), (0, 2), (0, 15), (0, 4), (0, 5), (0, 6), (0, 7), (0, 8), (0, 9), (0, 10), (0, 11), (0, 12)]))]
noncomputable def dP219 : List (Nat × ckC) := [(0, .inl (2, [(4, 10), (1, 1), (4, 11), (0, 17), (0, 1), (0, 2), (0, 14), (0, 4), (0, 5), (0, 6), (0, 7), (0, 8), (0, 9), (0, 10), (0, 11), (0, 12)]))]
-- FarMachine$Machine.changeHeat
noncomputable def k152 : ckCtr := (144, ([(0, (1, 0))], [], dC178, dT179, [([(8, ckTop)], [], [])], [], [], [], 0, 0), [([], [], dP218, [], [], [ckTop, (0, 2147483647)], [], [], [], [], 0, 0)], 4, 147, 0, 0)
noncomputable def k152_a : ckAs := [(25, [(804446, [(1, 0, 0, ([(0, (1, 0)), (1, (0, 16))], [], dP219, [], [], [(0, 8), ckTop], [], [], [(14, 7, (-1))], [], 0, 0))])])]
noncomputable def k152_c : List (Nat × ckCtr) := [(6, k151), (58, k34)]
theorem k152_ok (l : Launch) : ckCtrOk l ckMT ckTW ckCL k152 := mt_144 (as := k152_a) (cs := k152_c) (gx := []) (f := 200000) rfl (ckHc (k151_ok l) (ckHc (k34_ok l) (fun _ h => absurd h List.not_mem_nil))) True.intro (by decide +kernel)
noncomputable def dC220 : List ckC := [.inl (2, [(4, 10), (4, 11), (4, 12), (0, 0), (0, 1), (0, 2), (0, 3), (0, 4), (0, 5), (0, 6), (0, 7), (0, 8), (0, 9), (0, 10), (0, 11), (0, 12)])]
noncomputable def dP221 : List (Nat × ckC) := [(0, .inl (2, [(4, 10), (4, 11), (4, 12), (0, 0), (0, 1), (0, 2), (0, 3), (0, 4), (0, 13), (0, 6), (0, 7), (0, 8), (0, 9), (0, 10), (0, 11), (0, 12)]))]
-- FarMachine$Machine.driftDish
noncomputable def k153 : ckCtr := (145, ([(0, (1, 0))], [], dC220, dT3, [], [], [], [], 0, 0), [([], [], dP221, [], [], [ckTop], [], [], [], [], 0, 0)], 1, 80, 0, 0)
noncomputable def k153_a : ckAs := []
noncomputable def k153_c : List (Nat × ckCtr) := []
theorem k153_ok (l : Launch) : ckCtrOk l ckMT ckTW ckCL k153 := mt_145 (as := k153_a) (cs := k153_c) (gx := []) (f := 200000) rfl (fun _ h => absurd h List.not_mem_nil) True.intro (by decide +kernel)
noncomputable def dT222 : List ckI := [(0, 1), ckTop, ckTop, ckTop, ckTop, ckTop, ckTop, ckTop, ckTop, ckTop, ckTop, ckTop, ckTop, ckTop]
noncomputable def dP223 : List (Nat × ckC) := [(0, .inl (2, [(4, 10), (4, 11), (4, 12), (0, 1), (0, 14), (0, 3), (0, 4), (0, 5), (0, 6), (0, 15), (0, 8), (0, 9), (0, 10), (0, 11), (0, 12), (0, 16)]))]
-- FarMachine$Machine.countSilence
noncomputable def k154 : ckCtr := (146, ([(0, (1, 0)), (1, (0, 0))], [], dC185, dT222, [], [], [], [], 0, 0), [([], [], dP223, [], [], [ckTop, ckTop, (-2147483648, 2147483646)], [], [], [], [], 0, 0)], 2, 101, 0, 0)
noncomputable def k154_a : ckAs := []
noncomputable def k154_c : List (Nat × ckCtr) := [(32, k137)]
theorem k154_ok (l : Launch) : ckCtrOk l ckMT ckTW ckCL k154 := mt_146 (as := k154_a) (cs := k154_c) (gx := []) (f := 200000) rfl (ckHc (k137_ok l) (fun _ h => absurd h List.not_mem_nil)) True.intro (by decide +kernel)
noncomputable def dC224 : List ckC := [.inl (2, [(1, 1), (1, 2), (1, 3), (0, 0), (0, 1), (0, 2), (0, 3), (0, 4), (0, 5), (0, 6), (0, 7), (0, 8), (0, 9), (0, 10), (0, 11), (0, 12)]), .inr (0, 13, 0), .inr (0, 14, 1), .inl (1, [(1, 4), (1, 5), (1, 6), (1, 7), (0, 15)]), .inr (0, 16, 2), .inr (0, 16, 3), .inr (0, 16, 4), .inr (0, 16, 5)]
noncomputable def dT225 : List ckI := [ckTop, ckTop, ckTop, ckTop, ckTop, ckTop, ckTop, ckTop, ckTop, ckTop, ckTop, ckTop, ckTop, (48, 48), (8, 8), ckTop, (30, 30)]
noncomputable def dG226 : List ckG := [([(48, ckTop)], [], []), ([(8, ckTop)], [], []), ([(30, ckTop)], [], []), ([(30, ckTop)], [], []), ([(30, ckTop)], [], []), ([(30, ckTop)], [], [])]
noncomputable def dP227 : List (Nat × ckC) := [(0, .inl (2, [(1, 1), (1, 2), (1, 3), (0, 18), (0, 19), (0, 20), (0, 21), (0, 22), (0, 23), (0, 24), (0, 7), (0, 8), (0, 9), (0, 10), (0, 25), (0, 26)])), (1, .inr (0, 13, 6)), (3, .inl (1, [(1, 4), (1, 5), (1, 6), (1, 7), (0, 27)])), (4, .inr (0, 16, 7)), (5, .inr (0, 16, 8)), (6, .inr (0, 16, 9)), (7, .inr (0, 16, 10))]
noncomputable def dT228 : List ckI := [ckTop, ckTop, ckTop, ckTop, (0, 2147483647), ckTop, ckTop, ckTop, (-2147483648, 2000), (-2147483648, 2147483646), (0, 30)]
-- FarMachine$Machine.passHour
noncomputable def k155 : ckCtr := (137, ([(0, (1, 0))], [], dC224, dT225, dG226, [], [], [], 0, 0), [([], [(0, 17)], dP227, [], [], dT228, dG210, [], [], [], 0, 0)], 5, 171, 0, 0)
noncomputable def k155_a : ckAs := []
noncomputable def k155_c : List (Nat × ckCtr) := [(1, k141), (30, k147), (35, k152), (39, k153), (44, k154)]
theorem k155_ok (l : Launch) : ckCtrOk l ckMT ckTW ckCL k155 := mt_137 (as := k155_a) (cs := k155_c) (gx := []) (f := 200000) rfl (ckHc (k141_ok l) (ckHc (k147_ok l) (ckHc (k152_ok l) (ckHc (k153_ok l) (ckHc (k154_ok l) (fun _ h => absurd h List.not_mem_nil)))))) True.intro (by decide +kernel)
-- FarMachine$Bytes.add
noncomputable def k156 : ckCtr := (114, ([(0, (1, 0)), (1, (0, 0))], [], [.inl (0, [(1, 1), (0, 1)]), .inr (0, 2, 0)], [ckTop, ckTop, (60, 60)], [([(60, ckTop)], [], [])], [], [], [], 0, 0), [([], [], [(0, .inl (0, [(1, 1), (0, 3)])), (1, .inr (0, 2, 1))], [], [(1, (0, 59))], [(1, 60)], [([(60, ckTop)], [], [])], [], [(1, 3, (-1)), (3, 1, 1)], [], 0, 0), ([], [], [], [], [(1, (60, 2147483647))], [], [], [], [], [], 0, 0), ([], [], [], [], [(1, (-2147483648, -1))], [], [], [], [], [], 0, 0)], 1, 80, 0, 0)
noncomputable def k156_a : ckAs := []
noncomputable def k156_c : List (Nat × ckCtr) := []
theorem k156_ok (l : Launch) : ckCtrOk l ckMT ckTW ckCL k156 := mt_114 (as := k156_a) (cs := k156_c) (gx := []) (f := 200000) rfl (fun _ h => absurd h List.not_mem_nil) True.intro (by decide +kernel)
noncomputable def dC229 : List ckC := [.inl (7, [(1, 1), (4, 10), (0, 0), (1, 2), (1, 3), (4, 11), (4, 12), (4, 13), (4, 14), (4, 15)]), .inl (2, [(1, 4), (1, 5), (1, 6), (0, 1), (0, 2), (0, 3), (0, 4), (0, 5), (0, 6), (0, 7), (0, 8), (0, 9), (0, 10), (0, 11), (0, 12), (0, 13)]), .inl (0, [(1, 7), (0, 14)]), .inl (0, [(1, 8), (0, 15)]), .inr (0, 16, 0), .inr (0, 17, 1), .inl (1, [(1, 9), (1, 10), (1, 11), (1, 12), (0, 18)]), .inr (0, 19, 2), .inr (0, 19, 3), .inr (0, 20, 4), .inr (0, 20, 5), .inr (0, 20, 6), .inr (0, 20, 7)]
noncomputable def dT230 : List ckI := [(0, 1), ckTop, ckTop, ckTop, ckTop, ckTop, ckTop, ckTop, ckTop, ckTop, ckTop, ckTop, ckTop, ckTop, ckTop, ckTop, (48, 48), (8, 8), ckTop, (60, 60), (30, 30)]
noncomputable def dG231 : List ckG := [([(48, ckTop)], [], []), ([(8, ckTop)], [], []), ([(60, ckTop)], [], []), ([(60, ckTop)], [], []), ([(30, ckTop)], [], []), ([(30, ckTop)], [], []), ([(30, ckTop)], [], []), ([(30, ckTop)], [], [])]
noncomputable def dP232 : List (Nat × ckC) := [(1, .inl (2, [(1, 4), (1, 5), (1, 6), (0, 21), (0, 22), (0, 23), (0, 24), (0, 25), (0, 26), (0, 27), (0, 8), (0, 9), (0, 10), (0, 11), (0, 28), (0, 29)])), (2, .inl (0, [(1, 7), (0, 30)])), (3, .inl (0, [(1, 8), (0, 31)])), (4, .inr (0, 16, 8)), (6, .inl (1, [(1, 9), (1, 10), (1, 11), (1, 12), (0, 32)])), (7, .inr (0, 19, 9)), (8, .inr (0, 19, 10)), (9, .inr (0, 20, 11)), (10, .inr (0, 20, 12)), (11, .inr (0, 20, 13)), (12, .inr (0, 20, 14))]
noncomputable def dT233 : List ckI := [ckTop, ckTop, ckTop, (0, 2147483647), ckTop, ckTop, ckTop, (-2147483648, 2000), (-2147483648, 2147483646), ckTop, ckTop, (0, 30)]
noncomputable def dG234 : List ckG := [([(48, ckTop)], [], []), ([(60, ckTop)], [], []), ([(60, ckTop)], [], []), ([(30, ckTop)], [], []), ([(30, ckTop)], [], []), ([(30, ckTop)], [], []), ([(30, ckTop)], [], [])]
-- FarMachine$World.passHour
noncomputable def k157 : ckCtr := (184, ([(0, (1, 0))], [], dC229, dT230, dG231, [], [], [], 0, 0), [([], [], dP232, [], [], dT233, dG234, [], [(14, 30, 0), (15, 31, 0), (30, 14, 1), (31, 15, 1)], [], 0, 0)], 6, 193, 0, 0)
noncomputable def k157_a : ckAs := []
noncomputable def k157_c : List (Nat × ckCtr) := [(20, k155), (36, k156), (44, k156)]
theorem k157_ok (l : Launch) : ckCtrOk l ckMT ckTW ckCL k157 := mt_184 (as := k157_a) (cs := k157_c) (gx := []) (f := 200000) rfl (ckHc (k155_ok l) (ckHc (k156_ok l) (ckHc (k156_ok l) (fun _ h => absurd h List.not_mem_nil)))) True.intro (by decide +kernel)
noncomputable def dC235 : List ckC := [.inl (8, [(1, 1), (4, 10), (0, 1), (4, 11), (4, 12), (4, 13), (4, 14), (1, 2)]), .inl (7, [(1, 3), (4, 15), (0, 2), (1, 4), (1, 5), (4, 16), (4, 17), (4, 18), (4, 19), (4, 20)]), .inr (0, 3, 0), .inl (2, [(1, 6), (1, 7), (1, 8), (0, 4), (0, 5), (0, 6), (0, 7), (0, 8), (0, 9), (0, 10), (0, 11), (0, 12), (0, 13), (0, 14), (0, 15), (0, 16)]), .inl (0, [(1, 9), (0, 17)]), .inl (0, [(1, 10), (0, 18)]), .inr (0, 19, 1), .inr (0, 20, 2), .inl (1, [(1, 11), (1, 12), (1, 13), (1, 14), (0, 21)]), .inr (0, 22, 3), .inr (0, 22, 4), .inr (0, 23, 5), .inr (0, 23, 6), .inr (0, 23, 7), .inr (0, 23, 8)]
noncomputable def dT236 : List ckI := [ckTop, (0, 1), (0, 1), (7, 7), ckTop, ckTop, ckTop, ckTop, ckTop, ckTop, ckTop, ckTop, ckTop, ckTop, ckTop, ckTop, ckTop, ckTop, ckTop, (48, 48), (8, 8), ckTop, (60, 60), (30, 30), ckTop, ckTop, ckTop, ckTop, ckTop, ckTop, ckTop, ckTop]
noncomputable def dG237 : List ckG := [([(7, ckTop)], [], []), ([(48, ckTop)], [], []), ([(1, ckTop), (2, ckTop), (3, ckTop), (4, ckTop), (5, ckTop), (6, ckTop), (7, ckTop), (8, ckTop)], [(0, 24), (1, 25), (2, 26), (3, 27), (4, 28), (5, 29), (6, 30), (7, 31)], []), ([(60, ckTop)], [], []), ([(60, ckTop)], [], []), ([(30, ckTop)], [], []), ([(30, ckTop)], [], []), ([(30, ckTop)], [], []), ([(30, ckTop)], [], [])]
noncomputable def dP238 : List (Nat × ckC) := [(2, .inr (0, 3, 9)), (3, .inl (2, [(1, 6), (1, 7), (1, 8), (0, 33), (0, 34), (0, 35), (0, 36), (0, 37), (0, 38), (0, 39), (0, 11), (0, 12), (0, 13), (0, 14), (0, 40), (0, 41)])), (4, .inl (0, [(1, 9), (0, 42)])), (5, .inl (0, [(1, 10), (0, 43)])), (6, .inr (0, 19, 10)), (8, .inl (1, [(1, 11), (1, 12), (1, 13), (1, 14), (0, 44)])), (9, .inr (0, 22, 11)), (10, .inr (0, 22, 12)), (11, .inr (0, 23, 13)), (12, .inr (0, 23, 14)), (13, .inr (0, 23, 15)), (14, .inr (0, 23, 16))]
noncomputable def dG239 : List ckG := [([(4, ckTop), (5, ckTop), (6, ckTop), (7, ckTop)], [], []), ([(48, ckTop)], [], []), ([(60, ckTop)], [], []), ([(60, ckTop)], [], []), ([(30, ckTop)], [], []), ([(30, ckTop)], [], []), ([(30, ckTop)], [], []), ([(30, ckTop)], [], [])]
noncomputable def dP240 : List (Nat × ckC) := [(3, .inl (2, [(1, 6), (1, 7), (1, 8), (0, 36), (0, 37), (0, 38), (0, 39), (0, 40), (0, 41), (0, 42), (0, 11), (0, 12), (0, 13), (0, 14), (0, 43), (0, 44)])), (4, .inl (0, [(1, 9), (0, 45)])), (5, .inl (0, [(1, 10), (0, 46)])), (6, .inr (0, 19, 9)), (8, .inl (1, [(1, 11), (1, 12), (1, 13), (1, 14), (0, 47)])), (9, .inr (0, 22, 10)), (10, .inr (0, 22, 11)), (11, .inr (0, 23, 12)), (12, .inr (0, 23, 13)), (13, .inr (0, 23, 14)), (14, .inr (0, 23, 15))]
noncomputable def dT241 : List ckI := [(0, 2000), ckTop, ckTop, ckTop, ckTop, ckTop, ckTop, ckTop, ckTop, ckTop, ckTop, ckTop, ckTop]
-- FarMachine.hours
noncomputable def k158 : ckCtr := (7, ([(0, (1, 0)), (1, (0, 0))], [], dC235, dT236, dG237, [], [], [], 0, 0), [([], [(0, 32)], dP238, [], [], dT3, dG239, [], [(17, 42, 0), (18, 43, 0)], [], 0, 0)], 7, 215, 0, 0)
noncomputable def k158_a : ckAs := [(28, [(745333, [(1, 0, 0, ([(0, (1, 0)), (1, (0, 0)), (2, (0, 35))], [], dP240, [], [], dT241, dG234, [], [(17, 45, 0), (18, 46, 0), (35, 0, 0)], [], 0, 0))])])]
noncomputable def k158_c : List (Nat × ckCtr) := [(8, k15), (22, k16), (37, k157)]
theorem k158_ok (l : Launch) : ckCtrOk l ckMT ckTW ckCL k158 := mt_7 (as := k158_a) (cs := k158_c) (gx := []) (f := 200000) rfl (ckHc (k15_ok l) (ckHc (k16_ok l) (ckHc (k157_ok l) (fun _ h => absurd h List.not_mem_nil)))) True.intro (by decide +kernel)
noncomputable def dT242 : List ckI := [ckTop, ckTop, ckTop, (318, 318), (1, 99), (0, 128000), ckTop, ckTop, ckTop, ckTop, ckTop, ckTop, ckTop, ckTop]
noncomputable def dG243 : List ckG := [([(48, ckTop), (49, (0, 47)), (55, ckTop), (56, ckTop), (58, ckTop), (59, ckTop), (60, ckTop), (61, ckTop), (62, ckTop), (63, ckTop), (64, ckTop), (65, ckTop), (66, ckTop), (67, ckTop), (68, ckTop), (76, ckTop), (77, (0, 30)), (197, ckTop), (198, (0, 60)), (318, ckTop)], [(55, 4), (58, 5), (60, 6), (61, 7), (62, 8), (63, 9), (64, 10), (65, 11), (66, 12), (67, 13)], [])]
noncomputable def dG244 : List ckG := [([(48, ckTop), (49, (0, 47)), (53, ckTop), (54, (0, 0)), (55, ckTop), (56, ckTop), (58, ckTop), (59, ckTop), (60, ckTop), (61, ckTop), (62, ckTop), (63, ckTop), (64, ckTop), (65, ckTop), (66, ckTop), (67, ckTop), (68, ckTop), (76, ckTop), (77, (0, 30)), (197, ckTop), (198, (0, 60)), (318, ckTop)], [(48, 2), (53, 14), (55, 4), (58, 5), (60, 6), (61, 7), (62, 8), (63, 9), (64, 10), (65, 11), (66, 12), (67, 13)], [])]
-- FarMachineModel.told
noncomputable def k159 : ckCtr := (58, ([(0, (1, 0)), (1, (0, 0)), (2, (0, 1)), (3, (0, 2))], [], [.inr (0, 3, 0)], dT242, dG243, [], [], [(0, 0, 2, 0, [1, 0, 47]), (0, 0, 1, 0, [0, 0, 47]), (1, 0, 0, 0, [])], 0, 0), [([], [], [(0, .inr (0, 3, 1))], [], [(0, (0, 0)), (1, (0, 47))], [], dG243, [], [], [(1, 1, 0, 0, []), (0, 0, 2, 0, [1, 0, 47]), (0, 0, 1, 0, [0, 0, 47]), (1, 0, 0, 0, [])], 0, 0), ([], [], [], [], [], [], [], [], [], [(0, 0, 2, 0, [1, 0, 47]), (0, 0, 1, 0, [0, 0, 47]), (1, 0, 0, 0, [])], 0, 0), ([], [], [(0, .inr (0, 3, 1))], [], [(0, (1, 1)), (2, (0, 47))], [(0, 0)], dG244, [], [], [(1, 1, 0, 0, []), (0, 0, 2, 0, [1, 0, 47]), (0, 0, 1, 0, [0, 0, 47]), (1, 0, 0, 0, [])], 0, 0)], 1, 80, 0, 0)
noncomputable def k159_a : ckAs := [(4, [(460378, [(5, 0, 0, ([], [], [], [], [], [], [], [], [], [(0, 0, 0, 0, [0, 1, 0, 0, 47])], 0, 0))])]), (14, [(393141, [(5, 0, 0, ([], [], [], [], [], [], [], [], [], [(0, 0, 0, 0, [0, 2, 1, 0, 47])], 0, 0))])])]
noncomputable def k159_c : List (Nat × ckCtr) := []
theorem k159_ok (l : Launch) : ckCtrOk l ckMT ckTW ckCL k159 := mt_58 (as := k159_a) (cs := k159_c) (gx := []) (f := 200000) rfl (fun _ h => absurd h List.not_mem_nil) True.intro (by decide +kernel)
noncomputable def dG245 : List ckG := [([(48, ckTop), (49, (0, 47)), (53, ckTop), (54, ckTop), (55, ckTop), (56, ckTop), (58, ckTop), (59, ckTop), (60, ckTop), (61, ckTop), (62, ckTop), (63, ckTop), (64, ckTop), (65, ckTop), (66, ckTop), (67, ckTop), (68, ckTop), (76, ckTop), (77, (0, 30)), (78, ckTop), (79, ckTop), (80, ckTop), (81, ckTop), (197, ckTop), (198, (0, 60)), (318, ckTop)], [(55, 1), (58, 2), (60, 3), (61, 4), (62, 5), (63, 6), (64, 7), (65, 8), (66, 9), (67, 10), (76, 12)], [])]
noncomputable def dG246 : List ckG := [([(48, ckTop), (49, (0, 47)), (53, ckTop), (54, ckTop), (55, ckTop), (56, ckTop), (58, ckTop), (59, ckTop), (60, ckTop), (61, ckTop), (62, ckTop), (63, ckTop), (64, ckTop), (65, ckTop), (66, ckTop), (67, ckTop), (68, ckTop), (76, ckTop), (77, (0, 30)), (78, ckTop), (79, ckTop), (80, ckTop), (81, ckTop), (197, ckTop), (198, (0, 60)), (318, ckTop)], [(55, 1), (58, 2), (60, 3), (61, 4), (62, 5), (63, 6), (64, 7), (65, 8), (66, 9), (67, 10)], [])]
-- FarMachineModel.comes
noncomputable def k160 : ckCtr := (59, ([(0, (1, 0))], [], [.inr (0, 0, 0)], dT183, dG184, [], [], [(1, 0, 0, 0, [])], 0, 0), [([], [(0, 11)], [(0, .inr (0, 0, 1))], [], [], [(0, 1), (0, 30)], dG245, [], [], [(1, 1, 0, 0, []), (1, 0, 0, 0, [])], 0, 0)], 2, 103, 0, 0)
noncomputable def k160_a : ckAs := [(6, [(545917, [(1, 0, 2, ([(0, (1, 0)), (1, (0, 14)), (2, (0, 15)), (3, (0, 16))], [], [(0, .inr (0, 0, 1))], [], [], [(0, 30), (0, 1), (0, 30)], dG246, [], [(14, 16, 0), (15, 16, 0)], [(1, 0, 0, 0, []), (1, 1, 0, 0, [])], 0, 0))])]), (52, [(30947, [(4, 3, 0, ([], [], [], [], [], [], [], [], [], [(0, 0, 0, 0, [16, 21, 20, 22, 19, 22, 0, 29, 28, 1, 27, 30])], 0, 0)), (4, 4, 0, ([], [], [], [], [], [], [], [], [], [(0, 0, 0, 0, [16, 21, 20, 22, 19, 22, 0, 32, 31, 1, 27, 33])], 0, 0))])]), (93, [(570284, [(4, 1, 0, ([], [], [], [], [], [], [], [], [], [(0, 0, 0, 0, [14, 31, 30, 32, 29, 33, 27, 35, 40, 39, 41, 38, 42, 36, 44, 49, 48, 50, 47, 51, 45, 53, 1, 2, 3, 4, 0, 16, 21, 20, 22, 19, 34, 27, 43, 36, 52, 45])], 0, 0)), (4, 2, 0, ([], [], [], [], [], [], [], [], [], [(0, 0, 0, 0, [14, 58, 57, 59, 56, 60, 54, 4, 5, 62])], 0, 0))])])]
noncomputable def k160_c : List (Nat × ckCtr) := [(52, k159)]
theorem k160_ok (l : Launch) : ckCtrOk l ckMT ckTW ckCL k160 := mt_59 (as := k160_a) (cs := k160_c) (gx := []) (f := 200000) rfl (ckHc (k159_ok l) (fun _ h => absurd h List.not_mem_nil)) True.intro (by decide +kernel)
