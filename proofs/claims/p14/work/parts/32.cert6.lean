/-! THE CHECKER: contracts with their certificates (printed by wip/gen2/p14gen.py) -/
noncomputable def dC518 : List ckC := [.inl (9, [(4, 10), (1, 1), (4, 11), (4, 12), (4, 13), (4, 14), (4, 15), (4, 16), (4, 17), (4, 18), (4, 19), (4, 20), (4, 21), (4, 22), (1, 2), (1, 3), (0, 1), (0, 2), (0, 3), (0, 4), (0, 5), (0, 6), (0, 7), (4, 23), (0, 8), (4, 24), (0, 9), (0, 10), (0, 11), (0, 12), (4, 25), (0, 13), (0, 14), (0, 15), (0, 16), (5, 0), (5, 0), (0, 17), (4, 26), (4, 27), (0, 18), (0, 19)]), .inr (0, 20, 0), .inr (0, 21, 1), .inr (0, 22, 2)]
noncomputable def dT519 : List ckI := [(0, 9), (0, 1), (0, 1), (0, 8), (0, 40), (0, 6), (0, 8), (0, 10), (0, 130000), ckTop, ckTop, ckTop, ckTop, (0, 30), ckTop, ckTop, ckTop, (0, 1), ckTop, (0, 1), (318, 318), (300, 300), (10, 10), (1, 99), (0, 128000)]
noncomputable def dG520 : List ckG := [([(48, ckTop), (49, (0, 47)), (55, ckTop), (56, ckTop), (58, ckTop), (59, ckTop), (76, ckTop), (77, (0, 30)), (197, ckTop), (198, (0, 60)), (318, ckTop)], [(55, 23), (58, 24)], []), ([(300, ckTop)], [], []), ([(10, (0, 30))], [], [])]
noncomputable def dP521 : List (Nat × ckC) := [(0, .inl (9, [(4, 10), (1, 1), (4, 11), (4, 12), (4, 13), (4, 14), (4, 15), (4, 16), (4, 17), (4, 18), (4, 19), (4, 20), (4, 21), (4, 22), (1, 2), (1, 3), (0, 1), (0, 2), (0, 3), (0, 4), (0, 5), (0, 6), (0, 7), (4, 23), (0, 8), (4, 24), (0, 9), (0, 10), (0, 11), (0, 12), (4, 25), (0, 13), (0, 26), (0, 27), (0, 28), (1, 2), (1, 1), (0, 29), (4, 26), (4, 27), (0, 18), (0, 19)]))]
-- FarMachineModel.isSo
noncomputable def k294 : ckCtr := (92, ([(0, (1, 0)), (1, (0, 0)), (2, (1, 1))], [], dC518, dT519, dG520, [], [], [(1, 0, 0, 0, [])], 0, 0), [([], [(0, 25)], dP521, [], [], [(0, 1), (0, 30), (0, 270), (0, 30), (0, 1)], [], [], [(25, 26, 0), (25, 28, 0), (29, 26, 0), (29, 28, 0)], [(1, 0, 0, 0, [])], 0, 0)], 38, 925, 0, 0)
noncomputable def k294_a : ckAs := []
noncomputable def k294_c : List (Nat × ckCtr) := [(16, k293)]
theorem k294_ok (l : Launch) : ckCtrOk l ckMT ckTW ckCL k294 := mt_92 (as := k294_a) (cs := k294_c) (gx := []) (f := 200000) rfl (ckHc (k293_ok l) (fun _ h => absurd h List.not_mem_nil)) True.intro (by decide +kernel)
noncomputable def dC522 : List ckC := [.inl (9, [(1, 1), (1, 2), (4, 10), (4, 11), (4, 12), (4, 13), (4, 14), (4, 15), (4, 16), (4, 17), (4, 18), (4, 19), (4, 20), (4, 21), (1, 3), (1, 4), (0, 1), (0, 2), (0, 3), (0, 4), (0, 5), (0, 6), (0, 7), (4, 22), (0, 8), (4, 23), (0, 9), (0, 10), (0, 11), (0, 12), (4, 24), (0, 13), (0, 14), (0, 15), (0, 16), (5, 0), (5, 0), (0, 17), (4, 25), (4, 26), (0, 18), (0, 19)]), .inr (0, 20, 0), .inr (0, 21, 1), .inr (0, 22, 2), .inr (0, 23, 3)]
noncomputable def dT523 : List ckI := [ckTop, (0, 1), (0, 1), (0, 8), (0, 40), (0, 6), (0, 8), (0, 10), (0, 126000), ckTop, ckTop, ckTop, ckTop, (0, 30), ckTop, ckTop, ckTop, (0, 1), ckTop, (0, 1), (7, 7), (318, 318), (300, 300), (10, 10), (1, 99), (0, 126000)]
noncomputable def dG524 : List ckG := [([(7, ckTop)], [], []), ([(48, ckTop), (49, (0, 47)), (50, ckTop), (51, ckTop), (52, ckTop), (54, ckTop), (55, ckTop), (56, ckTop), (57, ckTop), (58, ckTop), (59, ckTop), (76, ckTop), (77, (0, 30)), (197, ckTop), (198, (0, 60)), (318, ckTop)], [(55, 24), (58, 25)], []), ([(300, ckTop)], [], []), ([(10, (0, 30))], [], [])]
noncomputable def dP525 : List (Nat × ckC) := [(0, .inl (9, [(1, 1), (1, 2), (4, 10), (4, 11), (4, 12), (4, 13), (4, 14), (4, 15), (4, 16), (4, 17), (4, 18), (4, 19), (4, 20), (4, 21), (1, 3), (1, 4), (0, 1), (0, 2), (0, 3), (0, 4), (0, 5), (0, 6), (0, 7), (4, 22), (0, 8), (4, 23), (0, 9), (0, 10), (0, 11), (0, 12), (4, 24), (0, 13), (0, 27), (0, 28), (0, 29), (5, 0), (5, 0), (0, 30), (4, 25), (4, 26), (0, 18), (0, 19)])), (1, .inr (0, 20, 4))]
-- FarMachineModel.holds
noncomputable def k295 : ckCtr := (93, ([(0, (1, 0)), (1, (0, 0))], [], dC522, dT523, dG524, [], [], [(1, 1, 0, 0, [])], 0, 0), [([], [(0, 26)], dP525, [], [], [(-1, 1), ckTop, ckTop, ckTop, (0, 1)], [([(1, ckTop), (2, ckTop), (7, ckTop)], [], [])], [], [(26, 7, 0)], [(1, 1, 0, 0, [])], 0, 0)], 39, 947, 0, 0)
noncomputable def k295_a : ckAs := []
noncomputable def k295_c : List (Nat × ckCtr) := [(5, k253), (17, k294), (33, k22)]
theorem k295_ok (l : Launch) : ckCtrOk l ckMT ckTW ckCL k295 := mt_93 (as := k295_a) (cs := k295_c) (gx := []) (f := 200000) rfl (ckHc (k253_ok l) (ckHc (k294_ok l) (ckHc (k22_ok l) (fun _ h => absurd h List.not_mem_nil)))) True.intro (by decide +kernel)
-- FarMachine$Rows.hasRoom
noncomputable def k296 : ckCtr := (152, ([(0, (1, 0))], [], [.inl (3, [(4, 10), (0, 0), (0, 1)])], [ckTop, ckTop], [], [], [], [], 0, 0), [([], [(0, 2)], [], [], [(1, (0, 255))], [(1, 1)], [], [], [], [], 0, 0), ([], [(0, 2)], [], [], [], [(0, 0)], [], [], [], [], 0, 0)], 1, 80, 0, 0)
noncomputable def k296_a : ckAs := []
noncomputable def k296_c : List (Nat × ckCtr) := []
theorem k296_ok (l : Launch) : ckCtrOk l ckMT ckTW ckCL k296 := mt_152 (as := k296_a) (cs := k296_c) (gx := []) (f := 200000) rfl (fun _ h => absurd h List.not_mem_nil) True.intro (by decide +kernel)
-- FarMachine$Rows.begin
noncomputable def k297 : ckCtr := (153, ([(0, (1, 0))], [], [.inl (3, [(1, 1), (0, 0), (0, 1)]), .inr (1, 2, 0)], [ckTop, ckTop, (2048, 2048)], [([(2048, (0, 0))], [], [])], [], [], [], 0, 0), [([], [], [(0, .inl (3, [(1, 1), (0, 3), (0, 1)]))], [], [], [(0, 0)], [], [], [], [], 0, 0)], 2, 100, 0, 0)
noncomputable def k297_a : ckAs := [(7, [(367430, [(1, 0, 0, ([(0, (1, 0)), (1, (0, 5))], [], [], [], [], [(0, 8)], [], [], [], [], 0, 0))])])]
noncomputable def k297_c : List (Nat × ckCtr) := [(14, k296)]
theorem k297_ok (l : Launch) : ckCtrOk l ckMT ckTW ckCL k297 := mt_153 (as := k297_a) (cs := k297_c) (gx := []) (f := 200000) rfl (ckHc (k296_ok l) (fun _ h => absurd h List.not_mem_nil)) True.intro (by decide +kernel)
-- FarMachine$Rows.add
noncomputable def k298 : ckCtr := (154, ([(0, (1, 0)), (1, (0, 0))], [], [.inl (3, [(1, 1), (0, 1), (0, 2)]), .inr (1, 3, 0)], [ckTop, ckTop, ckTop, (2048, 2048)], [([(2048, (0, 0))], [], [])], [], [], [], 0, 0), [([], [], [], [], [], [], [], [], [], [], 0, 0), ([], [], [(0, .inl (3, [(1, 1), (0, 4), (0, 2)]))], [], [(1, (0, 59)), (2, (0, 255))], [(1, 60)], [], [], [(1, 4, (-1)), (4, 1, 1)], [], 0, 0), ([], [], [], [], [(1, (60, 2147483647)), (2, (0, 255))], [], [], [], [], [], 0, 0), ([], [], [], [], [(1, (-2147483648, -1)), (2, (0, 255))], [], [], [], [], [], 0, 0)], 2, 100, 0, 0)
noncomputable def k298_a : ckAs := []
noncomputable def k298_c : List (Nat × ckCtr) := [(1, k296)]
theorem k298_ok (l : Launch) : ckCtrOk l ckMT ckTW ckCL k298 := mt_154 (as := k298_a) (cs := k298_c) (gx := []) (f := 200000) rfl (ckHc (k296_ok l) (fun _ h => absurd h List.not_mem_nil)) True.intro (by decide +kernel)
noncomputable def dC526 : List ckC := [.inl (5, [(1, 2), (1, 3), (1, 4), (1, 5), (1, 6), (0, 0)]), .inr (0, 1, 0), .inr (0, 2, 1), .inr (0, 2, 2), .inr (0, 2, 3), .inr (0, 2, 4), .inr (0, 3, 5)]
-- FarMachine$Rules.firstTrue
noncomputable def k299 : ckCtr := (173, ([(0, (1, 0)), (1, (1, 1))], [], dC526, [(0, 10), (8, 8), (70, 70), (10, 10)], dG458, [], [], [], 0, 0), [([], [(0, 4)], [], [], [(0, (1, 10))], [(0, 9)], [], [], [(4, 0, (-1))], [], 0, 0), ([], [(0, 4)], [], [], [], [(-9, -9)], [], [], [], [], 0, 0)], 4, 151, 0, 0)
noncomputable def k299_a : ckAs := [(2, [(352605, [(1, 0, 0, ([(0, (1, 0)), (1, (1, 1)), (2, (0, 5))], [], [], [], [], [(0, 10)], [], [], [(5, 0, 0)], [], 0, 0))])])]
noncomputable def k299_c : List (Nat × ckCtr) := [(13, k251)]
theorem k299_ok (l : Launch) : ckCtrOk l ckMT ckTW ckCL k299 := mt_173 (as := k299_a) (cs := k299_c) (gx := []) (f := 200000) rfl (ckHc (k251_ok l) (fun _ h => absurd h List.not_mem_nil)) True.intro (by decide +kernel)
noncomputable def dC527 : List ckC := [.inl (6, [(1, 1), (4, 10), (1, 2), (1, 3), (1, 4), (0, 1), (0, 2), (0, 3), (0, 4), (0, 5)]), .inl (7, [(4, 11), (4, 12), (0, 6), (4, 13), (4, 14), (4, 15), (4, 16), (1, 5), (4, 17), (4, 18)]), .inl (2, [(1, 6), (1, 7), (1, 8), (0, 7), (0, 8), (0, 9), (0, 10), (0, 11), (0, 12), (0, 13), (0, 14), (0, 15), (0, 16), (0, 17), (0, 18), (0, 19)]), .inr (0, 20, 0), .inl (3, [(1, 9), (0, 21), (0, 22)]), .inl (5, [(1, 10), (1, 11), (1, 12), (1, 13), (1, 14), (0, 23)]), .inr (0, 24, 1), .inr (0, 20, 2), .inl (1, [(1, 15), (1, 16), (1, 17), (1, 18), (0, 25)]), .inr (1, 26, 3), .inr (0, 27, 4), .inr (0, 27, 5), .inr (0, 27, 6), .inr (0, 27, 7), .inr (0, 28, 8), .inr (0, 29, 9), .inr (0, 29, 10), .inr (0, 29, 11), .inr (0, 29, 12)]
noncomputable def dT528 : List ckI := [ckTop, ckTop, ckTop, ckTop, ckTop, (0, 1), (0, 1), ckTop, ckTop, ckTop, ckTop, ckTop, ckTop, ckTop, ckTop, ckTop, ckTop, ckTop, ckTop, ckTop, (8, 8), ckTop, ckTop, (0, 10), (48, 48), ckTop, (2048, 2048), (70, 70), (10, 10), (30, 30)]
noncomputable def dG529 : List ckG := [([(8, ckTop)], [], []), ([(48, ckTop)], [], []), ([(8, ckTop)], [], []), ([(2048, (0, 0))], [], []), ([(70, ckTop)], [], []), ([(70, ckTop)], [], []), ([(70, ckTop)], [], []), ([(70, ckTop)], [], []), ([(10, ckTop)], [], []), ([(30, ckTop)], [], []), ([(30, ckTop)], [], []), ([(30, ckTop)], [], []), ([(30, ckTop)], [], [])]
noncomputable def dP530 : List (Nat × ckC) := [(2, .inl (2, [(1, 6), (1, 7), (1, 8), (0, 31), (0, 32), (0, 33), (0, 34), (0, 35), (0, 36), (0, 37), (0, 14), (0, 15), (0, 16), (0, 17), (0, 38), (0, 39)])), (3, .inr (0, 20, 13)), (4, .inl (3, [(1, 9), (0, 40), (0, 22)])), (6, .inr (0, 24, 14)), (8, .inl (1, [(1, 15), (1, 16), (1, 17), (1, 18), (0, 41)])), (15, .inr (0, 29, 15)), (16, .inr (0, 29, 16)), (17, .inr (0, 29, 17)), (18, .inr (0, 29, 18))]
noncomputable def dT531 : List ckI := [ckTop, ckTop, ckTop, ckTop, ckTop, ckTop, ckTop, ckTop, ckTop, ckTop, (0, 60), ckTop]
noncomputable def dG532 : List ckG := [([(1, ckTop), (2, ckTop), (3, ckTop), (4, ckTop), (5, ckTop), (6, ckTop), (7, ckTop), (8, ckTop)], [], []), ([(48, ckTop)], [], []), ([(30, ckTop)], [], []), ([(30, ckTop)], [], []), ([(30, ckTop)], [], []), ([(30, ckTop)], [], [])]
noncomputable def dP533 : List (Nat × ckC) := [(2, .inl (2, [(1, 6), (1, 7), (1, 8), (0, 35), (0, 36), (0, 37), (0, 38), (0, 39), (0, 40), (0, 41), (0, 14), (0, 15), (0, 16), (0, 17), (0, 42), (0, 43)])), (3, .inr (0, 20, 13)), (4, .inl (3, [(1, 9), (0, 44), (0, 22)])), (6, .inr (0, 24, 14)), (8, .inl (1, [(1, 15), (1, 16), (1, 17), (1, 18), (0, 45)])), (15, .inr (0, 29, 15)), (16, .inr (0, 29, 16)), (17, .inr (0, 29, 17)), (18, .inr (0, 29, 18))]
noncomputable def dT534 : List ckI := [ckTop, (0, 2147483647), ckTop, ckTop, ckTop, ckTop, ckTop, ckTop, ckTop, ckTop, ckTop, (0, 60), ckTop]
-- FarMachine$Trials.goOn
noncomputable def k300 : ckCtr := (180, ([(0, (1, 0)), (1, (0, 0))], [], dC527, dT528, dG529, [], [], [], 0, 0), [([], [(0, 30)], dP530, [], [], dT531, dG532, [], [], [], 0, 0)], 6, 193, 0, 0)
noncomputable def k300_a : ckAs := [(12, [(359473, [(1, 0, 1, ([(0, (1, 0)), (1, (0, 0)), (2, (0, 33)), (3, (0, 34))], [], dP533, [], [], dT534, dG532, [], [(44, 34, 0)], [], 0, 0))])])]
noncomputable def k300_c : List (Nat × ckCtr) := [(7, k297), (21, k87), (40, k298), (57, k247), (71, k299)]
theorem k300_ok (l : Launch) : ckCtrOk l ckMT ckTW ckCL k300 := mt_180 (as := k300_a) (cs := k300_c) (gx := []) (f := 200000) rfl (ckHc (k297_ok l) (ckHc (k87_ok l) (ckHc (k298_ok l) (ckHc (k247_ok l) (ckHc (k299_ok l) (fun _ h => absurd h List.not_mem_nil)))))) True.intro (by decide +kernel)
noncomputable def dC535 : List ckC := [.inl (8, [(1, 1), (4, 10), (0, 2), (4, 11), (4, 12), (1, 2), (4, 13), (1, 3)]), .inl (7, [(4, 14), (1, 4), (0, 3), (4, 15), (4, 16), (1, 5), (1, 6), (1, 7), (4, 17), (4, 18)]), .inl (6, [(1, 1), (4, 11), (1, 8), (1, 9), (1, 10), (0, 4), (0, 5), (0, 6), (0, 7), (0, 8)]), .inr (0, 9, 0), .inl (2, [(1, 11), (1, 12), (1, 13), (0, 10), (0, 11), (0, 12), (0, 13), (0, 14), (0, 15), (0, 16), (0, 17), (0, 18), (0, 19), (0, 20), (0, 21), (0, 22)]), .inl (0, [(1, 14), (0, 23)]), .inl (0, [(1, 15), (0, 24)]), .inl (5, [(1, 16), (1, 17), (1, 18), (1, 19), (1, 20), (0, 25)]), .inl (2, [(1, 21), (1, 22), (1, 23), (0, 26), (0, 27), (0, 28), (0, 29), (0, 30), (0, 31), (0, 32), (0, 33), (0, 34), (0, 35), (0, 36), (0, 37), (0, 38)]), .inr (0, 39, 1), .inl (3, [(1, 24), (0, 40), (0, 41)]), .inr (0, 42, 2), .inr (0, 39, 3), .inl (1, [(1, 25), (1, 26), (1, 27), (1, 28), (0, 43)]), .inr (0, 39, 4), .inr (0, 39, 5), .inr (0, 44, 6), .inr (0, 44, 7), .inr (0, 44, 8), .inr (0, 44, 9), .inr (0, 45, 10), .inr (0, 42, 11), .inr (0, 39, 12), .inl (1, [(1, 29), (1, 30), (1, 31), (1, 32), (0, 46)]), .inr (1, 47, 13), .inr (0, 48, 14), .inr (0, 48, 15), .inr (0, 48, 16), .inr (0, 48, 17), .inr (0, 48, 18), .inr (0, 48, 19), .inr (0, 48, 20), .inr (0, 48, 21)]
noncomputable def dT536 : List ckI := [ckTop, ckTop, (0, 1), (0, 1), ckTop, ckTop, ckTop, ckTop, (0, 1), (7, 7), ckTop, ckTop, ckTop, ckTop, ckTop, ckTop, ckTop, ckTop, ckTop, ckTop, ckTop, ckTop, ckTop, ckTop, ckTop, (0, 10), ckTop, ckTop, ckTop, ckTop, ckTop, ckTop, ckTop, ckTop, ckTop, ckTop, ckTop, ckTop, ckTop, (8, 8), ckTop, ckTop, (48, 48), ckTop, (70, 70), (10, 10), ckTop, (2048, 2048), (30, 30)]
noncomputable def dG537 : List ckG := [([(7, ckTop)], [], []), ([(8, ckTop)], [], []), ([(48, ckTop)], [], []), ([(8, ckTop)], [], []), ([(8, ckTop)], [], []), ([(8, ckTop)], [], []), ([(70, ckTop)], [], []), ([(70, ckTop)], [], []), ([(70, ckTop)], [], []), ([(70, ckTop)], [], []), ([(10, ckTop)], [], []), ([(48, ckTop)], [], []), ([(8, ckTop)], [], []), ([(2048, (0, 0))], [], []), ([(30, ckTop)], [], []), ([(30, ckTop)], [], []), ([(30, ckTop)], [], []), ([(30, ckTop)], [], []), ([(30, ckTop)], [], []), ([(30, ckTop)], [], []), ([(30, ckTop)], [], []), ([(30, ckTop)], [], [])]
noncomputable def dP538 : List (Nat × ckC) := [(3, .inr (0, 9, 22)), (8, .inl (2, [(1, 21), (1, 22), (1, 23), (0, 50), (0, 51), (0, 52), (0, 53), (0, 54), (0, 55), (0, 56), (0, 57), (0, 58), (0, 59), (0, 60), (0, 61), (0, 62)])), (9, .inr (0, 39, 23)), (10, .inl (3, [(1, 24), (0, 63), (0, 41)])), (21, .inr (0, 42, 24)), (22, .inr (0, 39, 25)), (23, .inl (1, [(1, 29), (1, 30), (1, 31), (1, 32), (0, 64)])), (29, .inr (0, 48, 26)), (30, .inr (0, 48, 27)), (31, .inr (0, 48, 28)), (32, .inr (0, 48, 29))]
noncomputable def dT539 : List ckI := [ckTop, ckTop, ckTop, ckTop, ckTop, ckTop, ckTop, ckTop, ckTop, ckTop, ckTop, ckTop, ckTop, ckTop, ckTop, ckTop]
noncomputable def dG540 : List ckG := [([(7, ckTop)], [], []), ([(1, ckTop), (2, ckTop), (3, ckTop), (4, ckTop), (5, ckTop), (6, ckTop), (7, ckTop), (8, ckTop)], [], []), ([(48, ckTop)], [], []), ([(8, ckTop)], [], []), ([(30, ckTop)], [], []), ([(30, ckTop)], [], []), ([(30, ckTop)], [], []), ([(30, ckTop)], [], [])]
-- FarMachine.broken
noncomputable def k301 : ckCtr := (20, ([(0, (1, 0)), (1, (0, 0)), (2, (0, 1))], [], dC535, dT536, dG537, [], [], [], 0, 0), [([], [(0, 49)], dP538, [], [], dT539, dG540, [], [], [], 0, 0)], 7, 218, 0, 0)
noncomputable def k301_a : ckAs := []
noncomputable def k301_c : List (Nat × ckCtr) := [(3, k146), (8, k147), (18, k107), (27, k148), (35, k300)]
theorem k301_ok (l : Launch) : ckCtrOk l ckMT ckTW ckCL k301 := mt_20 (as := k301_a) (cs := k301_c) (gx := []) (f := 200000) rfl (ckHc (k146_ok l) (ckHc (k147_ok l) (ckHc (k107_ok l) (ckHc (k148_ok l) (ckHc (k300_ok l) (fun _ h => absurd h List.not_mem_nil)))))) True.intro (by decide +kernel)
-- FarMachineModel.told
noncomputable def k302 : ckCtr := (58, ([(0, (1, 0)), (1, (0, 0)), (2, (0, 1)), (3, (0, 2))], [], [.inr (0, 3, 0)], [ckTop, ckTop, ckTop, (318, 318), (1, 99), ckTop], dG140, [], [], [(0, 0, 2, 0, [1, 0, 47]), (0, 0, 1, 0, [0, 0, 47]), (1, 0, 0, 0, [])], 0, 0), [([], [], [(0, .inr (0, 3, 1))], [], [(0, (0, 0)), (1, (0, 47))], [], dG140, [], [], [(1, 1, 0, 0, []), (0, 0, 2, 0, [1, 0, 47]), (0, 0, 1, 0, [0, 0, 47]), (1, 0, 0, 0, [])], 0, 0), ([], [], [], [], [], [], [], [], [], [(0, 0, 2, 0, [1, 0, 47]), (0, 0, 1, 0, [0, 0, 47]), (1, 0, 0, 0, [])], 0, 0), ([], [], [(0, .inr (0, 3, 1))], [], [(0, (1, 1)), (2, (0, 47))], [(0, 0)], dG141, [], [], [(1, 1, 0, 0, []), (0, 0, 2, 0, [1, 0, 47]), (0, 0, 1, 0, [0, 0, 47]), (1, 0, 0, 0, [])], 0, 0)], 1, 80, 0, 0)
noncomputable def k302_a : ckAs := [(4, [(362955, [(5, 0, 0, ([], [], [], [], [], [], [], [], [], [(0, 0, 0, 0, [0, 1, 0, 0, 47])], 0, 0))])]), (14, [(140519, [(5, 0, 0, ([], [], [], [], [], [], [], [], [], [(0, 0, 0, 0, [0, 2, 1, 0, 47])], 0, 0))])])]
noncomputable def k302_c : List (Nat × ckCtr) := []
theorem k302_ok (l : Launch) : ckCtrOk l ckMT ckTW ckCL k302 := mt_58 (as := k302_a) (cs := k302_c) (gx := []) (f := 200000) rfl (fun _ h => absurd h List.not_mem_nil) True.intro (by decide +kernel)
-- FarMachineModel.comes
noncomputable def k303 : ckCtr := (59, ([(0, (1, 0))], [], [.inr (0, 0, 0)], [(318, 318), (1, 99), ckTop], dG83, [], [], [(1, 0, 0, 0, [])], 0, 0), [([], [(0, 3)], [(0, .inr (0, 0, 1))], [], [], [(0, 1), (0, 30)], dG142, [], [], [(1, 1, 0, 0, []), (1, 0, 0, 0, [])], 0, 0)], 2, 103, 0, 0)
noncomputable def k303_a : ckAs := [(6, [(118537, [(1, 0, 2, ([(0, (1, 0)), (1, (0, 6)), (2, (0, 7)), (3, (0, 8))], [], [(0, .inr (0, 0, 1))], [], [], [(0, 30), (0, 1), (0, 30)], dG143, [], [(6, 8, 0), (7, 8, 0)], [(1, 0, 0, 0, []), (1, 1, 0, 0, [])], 0, 0))])]), (52, [(532878, [(4, 3, 0, ([], [], [], [], [], [], [], [], [], [(0, 0, 0, 0, [8, 13, 12, 14, 11, 14, 0, 21, 20, 1, 19, 22])], 0, 0)), (4, 4, 0, ([], [], [], [], [], [], [], [], [], [(0, 0, 0, 0, [8, 13, 12, 14, 11, 14, 0, 24, 23, 1, 19, 25])], 0, 0))])]), (93, [(910277, [(4, 1, 0, ([], [], [], [], [], [], [], [], [], [(0, 0, 0, 0, [6, 23, 22, 24, 21, 25, 19, 27, 32, 31, 33, 30, 34, 28, 36, 41, 40, 42, 39, 43, 37, 45, 1, 2, 3, 4, 0, 8, 13, 12, 14, 11, 26, 19, 35, 28, 44, 37])], 0, 0)), (4, 2, 0, ([], [], [], [], [], [], [], [], [], [(0, 0, 0, 0, [6, 50, 49, 51, 48, 52, 46, 4, 5, 54])], 0, 0))])])]
noncomputable def k303_c : List (Nat × ckCtr) := [(52, k302)]
theorem k303_ok (l : Launch) : ckCtrOk l ckMT ckTW ckCL k303 := mt_59 (as := k303_a) (cs := k303_c) (gx := []) (f := 200000) rfl (ckHc (k302_ok l) (fun _ h => absurd h List.not_mem_nil)) True.intro (by decide +kernel)
-- FarMachineModel.has
noncomputable def k304 : ckCtr := (53, ([(0, (1, 0)), (1, (0, 0))], [], [.inr (0, 1, 0)], [(5, 5), (318, 318), (1, 99), ckTop], dG92, [], [], [(1, 0, 0, 0, [])], 0, 0), [([], [(0, 4)], [], [], [], [(1, 1)], [], [], [], [(1, 0, 0, 0, [])], 0, 0), ([], [(0, 4)], [], [], [], [(0, 0)], [], [], [], [(1, 0, 0, 0, [])], 0, 0)], 1, 80, 0, 0)
noncomputable def k304_a : ckAs := [(2, [(415007, [(1, 0, 0, ([(0, (1, 0)), (1, (0, 0)), (2, (0, 5))], [], [], [], [], [(0, 8)], [], [], [], [(1, 0, 0, 0, [])], 0, 0))])])]
noncomputable def k304_c : List (Nat × ckCtr) := []
theorem k304_ok (l : Launch) : ckCtrOk l ckMT ckTW ckCL k304 := mt_53 (as := k304_a) (cs := k304_c) (gx := []) (f := 200000) rfl (fun _ h => absurd h List.not_mem_nil) True.intro (by decide +kernel)
-- FarMachineModel.warmth
noncomputable def k305 : ckCtr := (54, ([(0, (1, 0))], [], [.inr (0, 0, 0)], [(318, 318), (1, 99), ckTop], dG83, [], [], [(1, 0, 0, 0, [])], 0, 0), [([], [(0, 3)], [], [], [], [ckTop], [], [], [], [(1, 0, 0, 0, [])], 0, 0), ([], [(0, 3)], [], [], [], [(0, 0)], [], [], [], [(1, 0, 0, 0, [])], 0, 0)], 1, 80, 0, 0)
noncomputable def k305_a : ckAs := [(2, [(17642, [(1, 0, 0, ([(0, (1, 0)), (1, (0, 4))], [], [], [], [], [(0, 8)], [], [], [], [(1, 0, 0, 0, [])], 0, 0))])])]
noncomputable def k305_c : List (Nat × ckCtr) := []
theorem k305_ok (l : Launch) : ckCtrOk l ckMT ckTW ckCL k305 := mt_54 (as := k305_a) (cs := k305_c) (gx := []) (f := 200000) rfl (fun _ h => absurd h List.not_mem_nil) True.intro (by decide +kernel)
-- FarMachineModel.ons
noncomputable def k306 : ckCtr := (52, ([(0, (1, 0))], [], [.inr (0, 0, 0)], [(318, 318), (1, 99), ckTop], dG83, [], [], [(1, 0, 0, 0, [])], 0, 0), [([], [(0, 3)], [], [], [], [ckTop], [], [], [], [(1, 0, 0, 0, [])], 0, 0)], 1, 80, 0, 0)
noncomputable def k306_a : ckAs := [(4, [(364546, [(1, 0, 1, ([(0, (1, 0)), (1, (0, 5)), (2, (0, 6))], [], [], [], [], [ckTop, (0, 8)], [], [], [], [(1, 0, 0, 0, [])], 0, 0))])])]
noncomputable def k306_c : List (Nat × ckCtr) := []
theorem k306_ok (l : Launch) : ckCtrOk l ckMT ckTW ckCL k306 := mt_52 (as := k306_a) (cs := k306_c) (gx := []) (f := 200000) rfl (fun _ h => absurd h List.not_mem_nil) True.intro (by decide +kernel)
-- FarMachineModel.power
noncomputable def k307 : ckCtr := (50, ([(0, (1, 0))], [], [.inr (0, 0, 0)], [(318, 318), (1, 99), ckTop], dG83, [], [], [(1, 0, 0, 0, [])], 0, 0), [([], [(0, 3)], [], [], [], [ckTop], [], [], [], [(1, 0, 0, 0, [])], 0, 0)], 2, 100, 0, 0)
noncomputable def k307_a : ckAs := [(4, [(364546, [(1, 0, 1, ([(0, (1, 0)), (1, (0, 5)), (2, (0, 6))], [], [], [], [], [ckTop, (0, 8)], [], [], [], [(1, 0, 0, 0, [])], 0, 0))])])]
noncomputable def k307_c : List (Nat × ckCtr) := [(23, k52)]
theorem k307_ok (l : Launch) : ckCtrOk l ckMT ckTW ckCL k307 := mt_50 (as := k307_a) (cs := k307_c) (gx := []) (f := 200000) rfl (ckHc (k52_ok l) (fun _ h => absurd h List.not_mem_nil)) True.intro (by decide +kernel)
-- FarMachineModel.feels
noncomputable def k308 : ckCtr := (55, ([(0, (1, 0)), (1, (0, 0))], [], [.inr (0, 1, 0)], [(0, 15), (318, 318), (1, 99), ckTop], dG92, [], [], [(1, 0, 0, 0, [])], 0, 0), [([], [(0, 4)], [], [], [], [ckTop], [], [], [], [(1, 0, 0, 0, [])], 0, 0)], 3, 122, 0, 0)
noncomputable def k308_a : ckAs := []
noncomputable def k308_c : List (Nat × ckCtr) := [(49, k305), (72, k306), (75, k64), (90, k307)]
theorem k308_ok (l : Launch) : ckCtrOk l ckMT ckTW ckCL k308 := mt_55 (as := k308_a) (cs := k308_c) (gx := []) (f := 200000) rfl (ckHc (k305_ok l) (ckHc (k306_ok l) (ckHc (k64_ok l) (ckHc (k307_ok l) (fun _ h => absurd h List.not_mem_nil))))) True.intro (by decide +kernel)
-- FarMachineModel.feels
noncomputable def k309 : ckCtr := (55, ([(0, (1, 0)), (1, (0, 0))], [], [.inr (0, 1, 0)], [(16, 31), (318, 318), (1, 99), ckTop], dG92, [], [], [(1, 0, 0, 0, [])], 0, 0), [([], [(0, 4)], [], [], [], [ckTop], [], [], [], [(1, 0, 0, 0, [])], 0, 0)], 1, 80, 0, 0)
noncomputable def k309_a : ckAs := []
noncomputable def k309_c : List (Nat × ckCtr) := []
theorem k309_ok (l : Launch) : ckCtrOk l ckMT ckTW ckCL k309 := mt_55 (as := k309_a) (cs := k309_c) (gx := []) (f := 200000) rfl (fun _ h => absurd h List.not_mem_nil) True.intro (by decide +kernel)
-- FarMachineModel.has
noncomputable def k310 : ckCtr := (53, ([(0, (1, 0)), (1, (0, 0))], [], [.inr (0, 1, 0)], [(1, 1), (318, 318), (1, 99), ckTop], dG92, [], [], [(1, 0, 0, 0, [])], 0, 0), [([], [(0, 0)], [], [], [], [], [], [], [], [(1, 0, 0, 0, [])], 0, 0), ([], [(0, 4)], [], [], [], [(0, 0)], [], [], [], [(1, 0, 0, 0, [])], 0, 0)], 1, 80, 0, 0)
noncomputable def k310_a : ckAs := [(2, [(862425, [(1, 0, 0, ([(0, (1, 0)), (1, (0, 0)), (2, (0, 5))], [], [], [], [], [(0, 8)], [], [], [], [(1, 0, 0, 0, [])], 0, 0))])])]
noncomputable def k310_c : List (Nat × ckCtr) := []
theorem k310_ok (l : Launch) : ckCtrOk l ckMT ckTW ckCL k310 := mt_53 (as := k310_a) (cs := k310_c) (gx := []) (f := 200000) rfl (fun _ h => absurd h List.not_mem_nil) True.intro (by decide +kernel)
noncomputable def dT541 : List ckI := [ckTop, (0, 1), (0, 1), (0, 8), (0, 40), (0, 6), (0, 8), (0, 10), (0, 60), ckTop, ckTop, ckTop, ckTop, (0, 30), ckTop, ckTop, ckTop, (0, 1), ckTop, (0, 1), (318, 318), (64, 64), (1, 99), ckTop]
-- FarMachineModel.sends
noncomputable def k311 : ckCtr := (56, ([(0, (1, 0)), (1, (1, 1)), (2, (0, 0))], [], dC251, dT541, dG146, [], [], [(1, 0, 0, 0, [])], 0, 0), [([], [], dP253, [], [], [(1, 61), (1, 60)], dG148, [], [(8, 24, (-1)), (24, 8, 1)], [(1, 0, 0, 0, []), (1, 2, 0, 0, [])], 0, 0)], 1, 80, 0, 0)
noncomputable def k311_a : ckAs := []
noncomputable def k311_c : List (Nat × ckCtr) := []
theorem k311_ok (l : Launch) : ckCtrOk l ckMT ckTW ckCL k311 := mt_56 (as := k311_a) (cs := k311_c) (gx := []) (f := 200000) rfl (fun _ h => absurd h List.not_mem_nil) True.intro (by decide +kernel)
noncomputable def dT542 : List ckI := [(0, 1), (0, 1), (0, 8), (0, 40), (0, 6), (0, 8), (0, 10), (0, 60), ckTop, ckTop, ckTop, ckTop, (0, 30), ckTop, ckTop, ckTop, (0, 1), ckTop, (0, 1), (318, 318), (64, 64), (1, 99), ckTop]
-- FarMachineModel.does
noncomputable def k312 : ckCtr := (57, ([(0, (1, 0)), (1, (1, 1))], [], dC254, dT542, dG151, [], [], [(1, 0, 0, 0, [])], 0, 0), [([], [(0, 23)], dP256, [], [], [(0, 1), (0, 61)], dG153, [], [(7, 24, 0), (24, 7, 1), (24, 23, 60)], [(1, 0, 0, 0, []), (1, 2, 0, 0, [])], 0, 0)], 4, 143, 0, 0)
noncomputable def k312_a : ckAs := []
noncomputable def k312_c : List (Nat × ckCtr) := [(118, k93), (151, k304), (183, k95), (218, k308), (218, k309), (226, k310), (253, k308), (253, k309), (256, k311)]
theorem k312_ok (l : Launch) : ckCtrOk l ckMT ckTW ckCL k312 := mt_57 (as := k312_a) (cs := k312_c) (gx := []) (f := 200000) rfl (ckHc (k93_ok l) (ckHc (k304_ok l) (ckHc (k95_ok l) (ckHc (k308_ok l) (ckHc (k309_ok l) (ckHc (k310_ok l) (ckHc (k308_ok l) (ckHc (k309_ok l) (ckHc (k311_ok l) (fun _ h => absurd h List.not_mem_nil)))))))))) True.intro (by decide +kernel)
-- FarMachineModel.warms
noncomputable def k313 : ckCtr := (51, ([(0, (1, 0))], [], [.inr (0, 0, 0)], [(318, 318), (1, 99), ckTop], dG83, [], [], [(1, 0, 0, 0, [])], 0, 0), [([], [(0, 3)], [], [], [], [ckTop], [], [], [], [(1, 0, 0, 0, [])], 0, 0)], 1, 80, 0, 0)
noncomputable def k313_a : ckAs := [(4, [(364546, [(1, 0, 1, ([(0, (1, 0)), (1, (0, 5)), (2, (0, 6))], [], [], [], [], [ckTop, (0, 8)], [], [], [], [(1, 0, 0, 0, [])], 0, 0))])])]
noncomputable def k313_c : List (Nat × ckCtr) := []
theorem k313_ok (l : Launch) : ckCtrOk l ckMT ckTW ckCL k313 := mt_51 (as := k313_a) (cs := k313_c) (gx := []) (f := 200000) rfl (fun _ h => absurd h List.not_mem_nil) True.intro (by decide +kernel)
noncomputable def dG543 : List ckG := [([(48, ckTop), (49, (0, 47)), (50, ckTop), (51, (0, 99)), (52, ckTop), (53, ckTop), (54, ckTop), (55, ckTop), (56, ckTop), (58, ckTop), (59, ckTop), (60, ckTop), (68, ckTop), (69, ckTop), (76, ckTop), (77, (0, 30)), (78, ckTop), (79, ckTop), (80, ckTop), (81, ckTop), (197, ckTop), (198, (0, 60)), (318, ckTop)], [(50, 26), (55, 21), (58, 24), (59, 25)], []), ([(64, ckTop)], [], [])]
-- FarMachineModel.hour
noncomputable def k314 : ckCtr := (60, ([(0, (1, 0)), (1, (1, 1))], [], dC254, dT542, dG151, [], [], [(1, 0, 0, 0, [])], 0, 0), [([], [], dP257, [], [], [(0, 61), ckTop, (-2147483648, 2147483646), (0, 99)], dG543, [], [(7, 23, 0), (23, 7, 1)], [(1, 2, 0, 0, []), (1, 0, 0, 0, [])], 0, 0)], 5, 166, 0, 0)
noncomputable def k314_a : ckAs := [(67, [(743930, [(1, 0, 0, ([(0, (1, 0)), (1, (1, 1)), (2, (0, 23)), (3, (0, 41))], [], [(1, .inr (0, 19, 5))], [], [], [(0, 8)], dG157, [], [], [(1, 4, 0, 0, []), (1, 5, 0, 0, []), (1, 3, 0, 0, []), (1, 2, 0, 0, []), (1, 0, 0, 0, [])], 0, 0))]), (127381, [(1, 0, 0, ([(0, (1, 0)), (1, (1, 1)), (2, (0, 23)), (3, (0, 47))], [], [(1, .inr (0, 19, 7))], [], [], [(0, 8)], dG158, [], [(7, 28, 0), (28, 7, 1)], [(1, 6, 0, 0, []), (1, 7, 0, 0, []), (1, 5, 0, 0, []), (1, 2, 0, 0, []), (1, 3, 0, 0, []), (1, 0, 0, 0, [])], 0, 0))]), (507700, [(1, 0, 0, ([(0, (1, 0)), (1, (1, 1)), (2, (0, 23)), (3, (0, 40))], [], [(1, .inr (0, 19, 6))], [], [(28, (0, 60))], [(0, 8)], dG159, [], [(7, 28, 0), (28, 7, 1)], [(1, 5, 0, 0, []), (1, 6, 0, 0, []), (1, 3, 0, 0, []), (1, 2, 0, 0, []), (1, 0, 0, 0, [])], 0, 0))])])]
noncomputable def k314_c : List (Nat × ckCtr) := [(1, k303), (25, k312), (52, k313), (61, k102)]
theorem k314_ok (l : Launch) : ckCtrOk l ckMT ckTW ckCL k314 := mt_60 (as := k314_a) (cs := k314_c) (gx := []) (f := 200000) rfl (ckHc (k303_ok l) (ckHc (k312_ok l) (ckHc (k313_ok l) (ckHc (k102_ok l) (fun _ h => absurd h List.not_mem_nil))))) True.intro (by decide +kernel)
noncomputable def dC544 : List ckC := [.inl (9, [(4, 10), (4, 11), (4, 12), (4, 13), (4, 14), (4, 15), (4, 16), (4, 17), (4, 18), (4, 19), (4, 20), (4, 21), (4, 22), (4, 23), (1, 1), (4, 24), (0, 0), (0, 1), (0, 2), (0, 3), (0, 4), (0, 5), (0, 6), (4, 25), (0, 7), (4, 26), (0, 8), (0, 9), (0, 10), (0, 11), (4, 27), (0, 12), (0, 13), (0, 14), (0, 15), (1, 1), (4, 14), (0, 16), (4, 28), (4, 29), (0, 17), (0, 18)]), .inr (0, 19, 0)]
noncomputable def dT545 : List ckI := [(0, 1), (0, 1), (0, 8), (0, 40), (0, 6), (0, 8), (0, 10), (0, 60), ckTop, ckTop, ckTop, ckTop, (0, 30), (0, 30), (0, 270), (0, 30), (0, 1), ckTop, (0, 1), (300, 300)]
-- FarMachineModel.sign
noncomputable def k315 : ckCtr := (83, ([(0, (1, 0))], [], dC544, dT545, [([(300, ckTop)], [], [])], [], [], [], 0, 0), [([], [(0, 20)], [], [], [], [(-1, -1)], [], [], [(15, 13, 0)], [], 0, 0), ([], [(0, 20)], [], [], [(13, (0, 29)), (15, (1, 30))], [ckTop], [], [], [(13, 15, (-1))], [], 0, 0)], 1, 80, 0, 0)
noncomputable def k315_a : ckAs := []
noncomputable def k315_c : List (Nat × ckCtr) := []
theorem k315_ok (l : Launch) : ckCtrOk l ckMT ckTW ckCL k315 := mt_83 (as := k315_a) (cs := k315_c) (gx := []) (f := 200000) rfl (fun _ h => absurd h List.not_mem_nil) True.intro (by decide +kernel)
noncomputable def dC546 : List ckC := [.inl (9, [(4, 10), (4, 11), (4, 12), (4, 13), (4, 14), (4, 15), (4, 16), (4, 17), (4, 18), (4, 19), (4, 20), (4, 21), (4, 22), (4, 23), (1, 1), (4, 24), (0, 1), (0, 2), (0, 3), (0, 4), (0, 5), (0, 6), (0, 7), (4, 25), (0, 8), (4, 26), (0, 9), (0, 10), (0, 11), (0, 12), (4, 27), (0, 13), (0, 14), (0, 15), (0, 16), (1, 1), (4, 14), (0, 17), (4, 28), (4, 29), (0, 18), (0, 19)]), .inr (0, 20, 0)]
noncomputable def dT547 : List ckI := [(33, 33), (0, 1), (0, 1), (0, 8), (0, 40), (0, 6), (0, 8), (0, 10), (0, 60), ckTop, ckTop, ckTop, ckTop, (0, 30), (0, 30), (0, 270), (0, 30), (0, 1), ckTop, (0, 1), (300, 300)]
noncomputable def dP548 : List (Nat × ckC) := [(0, .inl (9, [(4, 10), (4, 11), (4, 12), (4, 13), (4, 14), (4, 15), (4, 16), (4, 17), (4, 18), (4, 19), (4, 20), (4, 21), (4, 22), (4, 23), (1, 1), (4, 24), (0, 1), (0, 2), (0, 3), (0, 4), (0, 5), (0, 6), (0, 7), (4, 25), (0, 8), (4, 26), (0, 9), (0, 10), (0, 11), (0, 12), (4, 27), (0, 13), (0, 22), (0, 15), (0, 16), (1, 1), (4, 14), (0, 17), (4, 28), (4, 29), (0, 18), (0, 19)]))]
-- FarMachineModel.takes
noncomputable def k316 : ckCtr := (84, ([(0, (1, 0)), (1, (0, 0))], [], dC546, dT547, [([(300, ckTop)], [], [])], [], [], [], 0, 0), [([], [(0, 21)], [], [], [], [(0, 0)], [], [], [], [], 0, 0), ([], [(0, 21)], dP548, [], [(14, (0, 29)), (16, (1, 30)), (17, (1, 1))], [(1, 1), (1, 30)], [], [], [(14, 16, (-1)), (14, 22, (-1)), (22, 14, 1), (22, 16, 0)], [], 0, 0)], 2, 100, 0, 0)
noncomputable def k316_a : ckAs := []
noncomputable def k316_c : List (Nat × ckCtr) := [(8, k315)]
theorem k316_ok (l : Launch) : ckCtrOk l ckMT ckTW ckCL k316 := mt_84 (as := k316_a) (cs := k316_c) (gx := []) (f := 200000) rfl (ckHc (k315_ok l) (fun _ h => absurd h List.not_mem_nil)) True.intro (by decide +kernel)
noncomputable def dC549 : List ckC := [.inl (9, [(4, 10), (4, 11), (4, 12), (4, 13), (1, 1), (4, 14), (4, 15), (4, 16), (4, 17), (4, 18), (4, 19), (4, 20), (4, 21), (4, 22), (4, 23), (4, 24), (0, 1), (0, 2), (0, 3), (0, 4), (0, 5), (0, 6), (0, 7), (4, 25), (0, 8), (4, 26), (0, 9), (0, 10), (0, 11), (0, 12), (4, 27), (0, 13), (0, 14), (0, 15), (0, 16), (4, 23), (1, 1), (0, 17), (4, 28), (4, 29), (0, 18), (0, 19)]), .inr (0, 20, 0)]
noncomputable def dT550 : List ckI := [(-1, -1), (0, 1), (0, 1), (0, 8), (0, 40), (0, 6), (0, 8), (0, 10), (0, 60), ckTop, ckTop, ckTop, ckTop, (0, 30), (0, 30), (0, 270), (0, 30), (0, 1), ckTop, (0, 1), (318, 318), (1, 99), ckTop]
noncomputable def dP551 : List (Nat × ckC) := [(0, .inl (9, [(4, 10), (4, 11), (4, 12), (4, 13), (1, 1), (4, 14), (4, 15), (4, 16), (4, 17), (4, 18), (4, 19), (4, 20), (4, 21), (4, 22), (4, 23), (4, 24), (0, 1), (0, 2), (0, 3), (0, 4), (0, 5), (0, 6), (0, 7), (4, 25), (0, 8), (4, 26), (0, 9), (0, 10), (0, 11), (0, 12), (4, 27), (0, 13), (0, 24), (0, 15), (0, 16), (4, 23), (1, 1), (0, 23), (4, 28), (4, 29), (0, 18), (0, 19)]))]
-- FarMachineModel.letter
noncomputable def k317 : ckCtr := (89, ([(0, (1, 0)), (1, (0, 0))], [], dC549, dT550, dG364, [], [], [(1, 0, 0, 0, [])], 0, 0), [([], [(0, 23)], dP551, [], [], [(0, 0), (0, 30)], [], [], [(14, 24, 0), (24, 14, 0)], [(1, 0, 0, 0, [])], 0, 0)], 1, 80, 0, 0)
noncomputable def k317_a : ckAs := []
noncomputable def k317_c : List (Nat × ckCtr) := []
theorem k317_ok (l : Launch) : ckCtrOk l ckMT ckTW ckCL k317 := mt_89 (as := k317_a) (cs := k317_c) (gx := []) (f := 200000) rfl (fun _ h => absurd h List.not_mem_nil) True.intro (by decide +kernel)
noncomputable def dT552 : List ckI := [ckTop, (0, 1), (0, 1), (0, 8), (0, 40), (0, 6), (0, 8), (0, 10), (0, 60), ckTop, ckTop, ckTop, ckTop, (0, 30), (0, 29), (0, 270), (0, 30), (0, 1), ckTop, (0, 1), (318, 318), (1, 99), ckTop]
noncomputable def dP553 : List (Nat × ckC) := [(0, .inl (9, [(4, 10), (4, 11), (4, 12), (4, 13), (1, 1), (4, 14), (4, 15), (4, 16), (4, 17), (4, 18), (4, 19), (4, 20), (4, 21), (4, 22), (4, 23), (4, 24), (0, 1), (0, 2), (0, 3), (0, 4), (0, 5), (0, 6), (0, 7), (4, 25), (0, 8), (4, 26), (0, 9), (0, 10), (0, 11), (0, 12), (4, 27), (0, 13), (0, 24), (0, 15), (0, 16), (4, 23), (1, 1), (0, 25), (4, 28), (4, 29), (0, 18), (0, 19)]))]
-- FarMachineModel.letter
noncomputable def k318 : ckCtr := (89, ([(0, (1, 0)), (1, (0, 0))], [], dC549, dT552, dG364, [], [], [(1, 0, 0, 0, [])], 0, 0), [([], [(0, 23)], dP553, [], [], [ckTop, (0, 30), (0, 1)], [], [], [(14, 24, 0), (24, 14, 1), (25, 17, 0), (25, 24, 0)], [(1, 0, 0, 0, [])], 0, 0)], 3, 122, 0, 0)
noncomputable def k318_a : ckAs := []
noncomputable def k318_c : List (Nat × ckCtr) := [(171, k307), (179, k306), (182, k64)]
theorem k318_ok (l : Launch) : ckCtrOk l ckMT ckTW ckCL k318 := mt_89 (as := k318_a) (cs := k318_c) (gx := []) (f := 200000) rfl (ckHc (k307_ok l) (ckHc (k306_ok l) (ckHc (k64_ok l) (fun _ h => absurd h List.not_mem_nil)))) True.intro (by decide +kernel)
noncomputable def dT554 : List ckI := [(0, 1), (0, 1), (0, 8), (0, 40), (0, 6), (0, 8), (0, 10), (0, 60), ckTop, ckTop, ckTop, ckTop, (0, 30), (0, 29), (0, 270), (0, 30), (0, 1), ckTop, (0, 1), (300, 300)]
-- FarMachineModel.sign
noncomputable def k319 : ckCtr := (83, ([(0, (1, 0))], [], dC544, dT554, [([(300, ckTop)], [], [])], [], [], [], 0, 0), [([], [(0, 20)], [], [], [(15, (0, 29))], [(-1, -1)], [], [], [(15, 13, 0)], [], 0, 0), ([], [(0, 20)], [], [], [(15, (1, 30))], [ckTop], [], [], [(13, 15, (-1))], [], 0, 0)], 1, 80, 0, 0)
noncomputable def k319_a : ckAs := []
noncomputable def k319_c : List (Nat × ckCtr) := []
theorem k319_ok (l : Launch) : ckCtrOk l ckMT ckTW ckCL k319 := mt_83 (as := k319_a) (cs := k319_c) (gx := []) (f := 200000) rfl (fun _ h => absurd h List.not_mem_nil) True.intro (by decide +kernel)
noncomputable def dC555 : List ckC := [.inl (9, [(4, 10), (4, 11), (4, 12), (4, 13), (1, 1), (4, 14), (4, 15), (4, 16), (4, 17), (4, 18), (4, 19), (4, 20), (4, 21), (4, 22), (1, 2), (4, 23), (0, 0), (0, 1), (0, 2), (0, 3), (0, 4), (0, 5), (0, 6), (4, 24), (0, 7), (4, 25), (0, 8), (0, 9), (0, 10), (0, 11), (4, 26), (0, 12), (0, 13), (0, 14), (0, 15), (1, 2), (1, 1), (0, 16), (4, 27), (4, 28), (0, 17), (0, 18)]), .inr (0, 19, 0), .inr (0, 20, 1)]
noncomputable def dT556 : List ckI := [(0, 1), (0, 1), (0, 8), (0, 40), (0, 6), (0, 8), (0, 10), (0, 60), ckTop, ckTop, ckTop, ckTop, (0, 30), (0, 30), (0, 270), (0, 30), (0, 1), ckTop, (0, 1), (318, 318), (300, 300), (1, 99), ckTop]
noncomputable def dP557 : List (Nat × ckC) := [(0, .inl (9, [(4, 10), (4, 11), (4, 12), (4, 13), (1, 1), (4, 14), (4, 15), (4, 16), (4, 17), (4, 18), (4, 19), (4, 20), (4, 21), (4, 22), (1, 2), (4, 23), (0, 0), (0, 1), (0, 2), (0, 3), (0, 4), (0, 5), (0, 6), (4, 24), (0, 7), (4, 25), (0, 8), (0, 9), (0, 10), (0, 11), (4, 26), (0, 12), (0, 24), (0, 14), (0, 15), (1, 2), (1, 1), (0, 25), (4, 27), (4, 28), (0, 17), (0, 18)]))]
noncomputable def dP558 : List (Nat × ckC) := [(0, .inl (9, [(4, 10), (4, 11), (4, 12), (4, 13), (1, 1), (4, 14), (4, 15), (4, 16), (4, 17), (4, 18), (4, 19), (4, 20), (4, 21), (4, 22), (1, 2), (4, 23), (0, 0), (0, 1), (0, 2), (0, 3), (0, 4), (0, 5), (0, 6), (4, 24), (0, 7), (4, 25), (0, 8), (0, 9), (0, 10), (0, 11), (4, 26), (0, 12), (0, 31), (0, 14), (0, 15), (1, 2), (1, 1), (0, 16), (4, 27), (4, 28), (0, 17), (0, 18)]))]
noncomputable def dP559 : List (Nat × ckC) := [(0, .inl (9, [(4, 10), (4, 11), (4, 12), (4, 13), (1, 1), (4, 14), (4, 15), (4, 16), (4, 17), (4, 18), (4, 19), (4, 20), (4, 21), (4, 22), (1, 2), (4, 23), (0, 0), (0, 1), (0, 2), (0, 3), (0, 4), (0, 5), (0, 6), (4, 24), (0, 7), (4, 25), (0, 8), (0, 9), (0, 10), (0, 11), (4, 26), (0, 12), (0, 32), (0, 14), (0, 15), (1, 2), (1, 1), (0, 16), (4, 27), (4, 28), (0, 17), (0, 18)]))]
-- FarMachineModel.unit
noncomputable def k320 : ckCtr := (88, ([(0, (1, 0))], [], dC555, dT556, dG476, [], [], [(1, 0, 0, 0, [])], 0, 0), [([], [(0, 23)], dP557, [], [], [ckTop, (0, 30), (0, 1)], [], [], [(13, 24, 0), (25, 15, 0), (25, 16, 0), (25, 24, 0)], [(1, 0, 0, 0, [])], 0, 0)], 4, 143, 0, 0)
noncomputable def k320_a : ckAs := [(53, [(85860, [(1, 0, 1, ([(0, (1, 0)), (1, (0, 23)), (2, (0, 29)), (3, (0, 30))], [], dP558, [], [], [ckTop, (0, 3), (0, 30)], [], [], dZ374, [(1, 0, 0, 0, [])], 0, 0))]), (118536, [(1, 0, 1, ([(0, (1, 0)), (1, (0, 23)), (2, (0, 30)), (3, (0, 31))], [], dP559, [], [], [ckTop, (0, 3), (1, 30)], [], [], dZ376, [(1, 0, 0, 0, [])], 0, 0))])])]
noncomputable def k320_c : List (Nat × ckCtr) := [(10, k315), (21, k207), (29, k317), (29, k318), (59, k315), (62, k207), (73, k319)]
theorem k320_ok (l : Launch) : ckCtrOk l ckMT ckTW ckCL k320 := mt_88 (as := k320_a) (cs := k320_c) (gx := []) (f := 200000) rfl (ckHc (k315_ok l) (ckHc (k207_ok l) (ckHc (k317_ok l) (ckHc (k318_ok l) (ckHc (k315_ok l) (ckHc (k207_ok l) (ckHc (k319_ok l) (fun _ h => absurd h List.not_mem_nil)))))))) True.intro (by decide +kernel)
noncomputable def dT560 : List ckI := [(0, 1), (0, 1), (0, 8), (0, 40), (0, 6), (0, 8), (0, 10), (0, 60), ckTop, ckTop, ckTop, ckTop, (0, 30), (30, 30), (0, 270), (0, 30), (0, 1), ckTop, (0, 1), (318, 318), (300, 300), (1, 99), ckTop]
noncomputable def dP561 : List (Nat × ckC) := [(0, .inl (9, [(4, 10), (4, 11), (4, 12), (4, 13), (1, 1), (4, 14), (4, 15), (4, 16), (4, 17), (4, 18), (4, 19), (4, 20), (4, 21), (4, 22), (1, 2), (4, 23), (0, 0), (0, 1), (0, 2), (0, 3), (0, 4), (0, 5), (0, 6), (4, 24), (0, 7), (4, 25), (0, 8), (0, 9), (0, 10), (0, 11), (4, 26), (0, 12), (0, 13), (0, 14), (0, 15), (1, 2), (1, 1), (0, 23), (4, 27), (4, 28), (0, 17), (0, 18)]))]
-- FarMachineModel.test
noncomputable def k321 : ckCtr := (86, ([(0, (1, 0))], [], dC555, dT560, dG476, [], [], [(1, 0, 0, 0, [])], 0, 0), [([], [(0, 23)], dP561, [], [], [(0, 0)], [], [], [], [(1, 0, 0, 0, [])], 0, 0)], 5, 166, 0, 0)
noncomputable def k321_a : ckAs := []
noncomputable def k321_c : List (Nat × ckCtr) := [(3, k316), (23, k320), (28, k315)]
theorem k321_ok (l : Launch) : ckCtrOk l ckMT ckTW ckCL k321 := mt_86 (as := k321_a) (cs := k321_c) (gx := []) (f := 200000) rfl (ckHc (k316_ok l) (ckHc (k320_ok l) (ckHc (k315_ok l) (fun _ h => absurd h List.not_mem_nil)))) True.intro (by decide +kernel)
noncomputable def dT562 : List ckI := [(0, 1), (0, 1), (0, 8), (0, 40), (0, 6), (0, 8), (0, 10), (0, 60), ckTop, ckTop, ckTop, ckTop, (0, 30), (29, 30), (0, 270), (0, 30), (0, 1), ckTop, (0, 1), (318, 318), (300, 300), (1, 99), ckTop]
-- FarMachineModel.test
noncomputable def k322 : ckCtr := (86, ([(0, (1, 0))], [], dC555, dT562, dG476, [], [], [(1, 0, 0, 0, [])], 0, 0), [([], [(0, 23)], dP557, [], [], [(0, 1), (29, 30), (0, 1)], [], [], dZ380, [(1, 0, 0, 0, [])], 0, 0)], 6, 189, 0, 0)
noncomputable def k322_a : ckAs := []
noncomputable def k322_c : List (Nat × ckCtr) := [(3, k316), (10, k321), (23, k320), (28, k315), (75, k320)]
theorem k322_ok (l : Launch) : ckCtrOk l ckMT ckTW ckCL k322 := mt_86 (as := k322_a) (cs := k322_c) (gx := []) (f := 200000) rfl (ckHc (k316_ok l) (ckHc (k321_ok l) (ckHc (k320_ok l) (ckHc (k315_ok l) (ckHc (k320_ok l) (fun _ h => absurd h List.not_mem_nil)))))) True.intro (by decide +kernel)
noncomputable def dT563 : List ckI := [(0, 1), (0, 1), (0, 8), (0, 40), (0, 6), (0, 8), (0, 10), (0, 60), ckTop, ckTop, ckTop, ckTop, (0, 30), (28, 30), (0, 270), (0, 30), (0, 1), ckTop, (0, 1), (318, 318), (300, 300), (1, 99), ckTop]
-- FarMachineModel.test
noncomputable def k323 : ckCtr := (86, ([(0, (1, 0))], [], dC555, dT563, dG476, [], [], [(1, 0, 0, 0, [])], 0, 0), [([], [(0, 23)], dP557, [], [], [(0, 1), (28, 30), (0, 1)], [], [], dZ382, [(1, 0, 0, 0, [])], 0, 0)], 7, 212, 0, 0)
noncomputable def k323_a : ckAs := []
noncomputable def k323_c : List (Nat × ckCtr) := [(3, k316), (10, k322), (23, k320), (28, k315), (75, k320)]
theorem k323_ok (l : Launch) : ckCtrOk l ckMT ckTW ckCL k323 := mt_86 (as := k323_a) (cs := k323_c) (gx := []) (f := 200000) rfl (ckHc (k316_ok l) (ckHc (k322_ok l) (ckHc (k320_ok l) (ckHc (k315_ok l) (ckHc (k320_ok l) (fun _ h => absurd h List.not_mem_nil)))))) True.intro (by decide +kernel)
noncomputable def dT564 : List ckI := [(0, 1), (0, 1), (0, 8), (0, 40), (0, 6), (0, 8), (0, 10), (0, 60), ckTop, ckTop, ckTop, ckTop, (0, 30), (27, 30), (0, 270), (0, 30), (0, 1), ckTop, (0, 1), (318, 318), (300, 300), (1, 99), ckTop]
-- FarMachineModel.test
noncomputable def k324 : ckCtr := (86, ([(0, (1, 0))], [], dC555, dT564, dG476, [], [], [(1, 0, 0, 0, [])], 0, 0), [([], [(0, 23)], dP557, [], [], [(0, 1), (27, 30), (0, 1)], [], [], dZ384, [(1, 0, 0, 0, [])], 0, 0)], 8, 235, 0, 0)
noncomputable def k324_a : ckAs := []
noncomputable def k324_c : List (Nat × ckCtr) := [(3, k316), (10, k323), (23, k320), (28, k315), (75, k320)]
theorem k324_ok (l : Launch) : ckCtrOk l ckMT ckTW ckCL k324 := mt_86 (as := k324_a) (cs := k324_c) (gx := []) (f := 200000) rfl (ckHc (k316_ok l) (ckHc (k323_ok l) (ckHc (k320_ok l) (ckHc (k315_ok l) (ckHc (k320_ok l) (fun _ h => absurd h List.not_mem_nil)))))) True.intro (by decide +kernel)
noncomputable def dT565 : List ckI := [(0, 1), (0, 1), (0, 8), (0, 40), (0, 6), (0, 8), (0, 10), (0, 60), ckTop, ckTop, ckTop, ckTop, (0, 30), (26, 30), (0, 270), (0, 30), (0, 1), ckTop, (0, 1), (318, 318), (300, 300), (1, 99), ckTop]
-- FarMachineModel.test
noncomputable def k325 : ckCtr := (86, ([(0, (1, 0))], [], dC555, dT565, dG476, [], [], [(1, 0, 0, 0, [])], 0, 0), [([], [(0, 23)], dP557, [], [], [(0, 1), (26, 30), (0, 1)], [], [], dZ386, [(1, 0, 0, 0, [])], 0, 0)], 9, 258, 0, 0)
noncomputable def k325_a : ckAs := []
noncomputable def k325_c : List (Nat × ckCtr) := [(3, k316), (10, k324), (23, k320), (28, k315), (75, k320)]
theorem k325_ok (l : Launch) : ckCtrOk l ckMT ckTW ckCL k325 := mt_86 (as := k325_a) (cs := k325_c) (gx := []) (f := 200000) rfl (ckHc (k316_ok l) (ckHc (k324_ok l) (ckHc (k320_ok l) (ckHc (k315_ok l) (ckHc (k320_ok l) (fun _ h => absurd h List.not_mem_nil)))))) True.intro (by decide +kernel)
noncomputable def dT566 : List ckI := [(0, 1), (0, 1), (0, 8), (0, 40), (0, 6), (0, 8), (0, 10), (0, 60), ckTop, ckTop, ckTop, ckTop, (0, 30), (25, 30), (0, 270), (0, 30), (0, 1), ckTop, (0, 1), (318, 318), (300, 300), (1, 99), ckTop]
-- FarMachineModel.test
noncomputable def k326 : ckCtr := (86, ([(0, (1, 0))], [], dC555, dT566, dG476, [], [], [(1, 0, 0, 0, [])], 0, 0), [([], [(0, 23)], dP557, [], [], [(0, 1), (25, 30), (0, 1)], [], [], dZ388, [(1, 0, 0, 0, [])], 0, 0)], 10, 281, 0, 0)
noncomputable def k326_a : ckAs := []
noncomputable def k326_c : List (Nat × ckCtr) := [(3, k316), (10, k325), (23, k320), (28, k315), (75, k320)]
theorem k326_ok (l : Launch) : ckCtrOk l ckMT ckTW ckCL k326 := mt_86 (as := k326_a) (cs := k326_c) (gx := []) (f := 200000) rfl (ckHc (k316_ok l) (ckHc (k325_ok l) (ckHc (k320_ok l) (ckHc (k315_ok l) (ckHc (k320_ok l) (fun _ h => absurd h List.not_mem_nil)))))) True.intro (by decide +kernel)
noncomputable def dT567 : List ckI := [(0, 1), (0, 1), (0, 8), (0, 40), (0, 6), (0, 8), (0, 10), (0, 60), ckTop, ckTop, ckTop, ckTop, (0, 30), (24, 30), (0, 270), (0, 30), (0, 1), ckTop, (0, 1), (318, 318), (300, 300), (1, 99), ckTop]
-- FarMachineModel.test
noncomputable def k327 : ckCtr := (86, ([(0, (1, 0))], [], dC555, dT567, dG476, [], [], [(1, 0, 0, 0, [])], 0, 0), [([], [(0, 23)], dP557, [], [], [(0, 1), (24, 30), (0, 1)], [], [], dZ390, [(1, 0, 0, 0, [])], 0, 0)], 11, 304, 0, 0)
noncomputable def k327_a : ckAs := []
noncomputable def k327_c : List (Nat × ckCtr) := [(3, k316), (10, k326), (23, k320), (28, k315), (75, k320)]
theorem k327_ok (l : Launch) : ckCtrOk l ckMT ckTW ckCL k327 := mt_86 (as := k327_a) (cs := k327_c) (gx := []) (f := 200000) rfl (ckHc (k316_ok l) (ckHc (k326_ok l) (ckHc (k320_ok l) (ckHc (k315_ok l) (ckHc (k320_ok l) (fun _ h => absurd h List.not_mem_nil)))))) True.intro (by decide +kernel)
noncomputable def dT568 : List ckI := [(0, 1), (0, 1), (0, 8), (0, 40), (0, 6), (0, 8), (0, 10), (0, 60), ckTop, ckTop, ckTop, ckTop, (0, 30), (23, 30), (0, 270), (0, 30), (0, 1), ckTop, (0, 1), (318, 318), (300, 300), (1, 99), ckTop]
-- FarMachineModel.test
noncomputable def k328 : ckCtr := (86, ([(0, (1, 0))], [], dC555, dT568, dG476, [], [], [(1, 0, 0, 0, [])], 0, 0), [([], [(0, 23)], dP557, [], [], [(0, 1), (23, 30), (0, 1)], [], [], dZ392, [(1, 0, 0, 0, [])], 0, 0)], 12, 327, 0, 0)
noncomputable def k328_a : ckAs := []
noncomputable def k328_c : List (Nat × ckCtr) := [(3, k316), (10, k327), (23, k320), (28, k315), (75, k320)]
theorem k328_ok (l : Launch) : ckCtrOk l ckMT ckTW ckCL k328 := mt_86 (as := k328_a) (cs := k328_c) (gx := []) (f := 200000) rfl (ckHc (k316_ok l) (ckHc (k327_ok l) (ckHc (k320_ok l) (ckHc (k315_ok l) (ckHc (k320_ok l) (fun _ h => absurd h List.not_mem_nil)))))) True.intro (by decide +kernel)
noncomputable def dT569 : List ckI := [(0, 1), (0, 1), (0, 8), (0, 40), (0, 6), (0, 8), (0, 10), (0, 60), ckTop, ckTop, ckTop, ckTop, (0, 30), (22, 30), (0, 270), (0, 30), (0, 1), ckTop, (0, 1), (318, 318), (300, 300), (1, 99), ckTop]
-- FarMachineModel.test
noncomputable def k329 : ckCtr := (86, ([(0, (1, 0))], [], dC555, dT569, dG476, [], [], [(1, 0, 0, 0, [])], 0, 0), [([], [(0, 23)], dP557, [], [], [(0, 1), (22, 30), (0, 1)], [], [], dZ394, [(1, 0, 0, 0, [])], 0, 0)], 13, 350, 0, 0)
noncomputable def k329_a : ckAs := []
noncomputable def k329_c : List (Nat × ckCtr) := [(3, k316), (10, k328), (23, k320), (28, k315), (75, k320)]
theorem k329_ok (l : Launch) : ckCtrOk l ckMT ckTW ckCL k329 := mt_86 (as := k329_a) (cs := k329_c) (gx := []) (f := 200000) rfl (ckHc (k316_ok l) (ckHc (k328_ok l) (ckHc (k320_ok l) (ckHc (k315_ok l) (ckHc (k320_ok l) (fun _ h => absurd h List.not_mem_nil)))))) True.intro (by decide +kernel)
noncomputable def dT570 : List ckI := [(0, 1), (0, 1), (0, 8), (0, 40), (0, 6), (0, 8), (0, 10), (0, 60), ckTop, ckTop, ckTop, ckTop, (0, 30), (21, 30), (0, 270), (0, 30), (0, 1), ckTop, (0, 1), (318, 318), (300, 300), (1, 99), ckTop]
-- FarMachineModel.test
noncomputable def k330 : ckCtr := (86, ([(0, (1, 0))], [], dC555, dT570, dG476, [], [], [(1, 0, 0, 0, [])], 0, 0), [([], [(0, 23)], dP557, [], [], [(0, 1), (21, 30), (0, 1)], [], [], dZ396, [(1, 0, 0, 0, [])], 0, 0)], 14, 373, 0, 0)
noncomputable def k330_a : ckAs := []
noncomputable def k330_c : List (Nat × ckCtr) := [(3, k316), (10, k329), (23, k320), (28, k315), (75, k320)]
theorem k330_ok (l : Launch) : ckCtrOk l ckMT ckTW ckCL k330 := mt_86 (as := k330_a) (cs := k330_c) (gx := []) (f := 200000) rfl (ckHc (k316_ok l) (ckHc (k329_ok l) (ckHc (k320_ok l) (ckHc (k315_ok l) (ckHc (k320_ok l) (fun _ h => absurd h List.not_mem_nil)))))) True.intro (by decide +kernel)
noncomputable def dT571 : List ckI := [(0, 1), (0, 1), (0, 8), (0, 40), (0, 6), (0, 8), (0, 10), (0, 60), ckTop, ckTop, ckTop, ckTop, (0, 30), (20, 30), (0, 270), (0, 30), (0, 1), ckTop, (0, 1), (318, 318), (300, 300), (1, 99), ckTop]
-- FarMachineModel.test
noncomputable def k331 : ckCtr := (86, ([(0, (1, 0))], [], dC555, dT571, dG476, [], [], [(1, 0, 0, 0, [])], 0, 0), [([], [(0, 23)], dP557, [], [], [(0, 1), (20, 30), (0, 1)], [], [], dZ398, [(1, 0, 0, 0, [])], 0, 0)], 15, 396, 0, 0)
noncomputable def k331_a : ckAs := []
noncomputable def k331_c : List (Nat × ckCtr) := [(3, k316), (10, k330), (23, k320), (28, k315), (75, k320)]
theorem k331_ok (l : Launch) : ckCtrOk l ckMT ckTW ckCL k331 := mt_86 (as := k331_a) (cs := k331_c) (gx := []) (f := 200000) rfl (ckHc (k316_ok l) (ckHc (k330_ok l) (ckHc (k320_ok l) (ckHc (k315_ok l) (ckHc (k320_ok l) (fun _ h => absurd h List.not_mem_nil)))))) True.intro (by decide +kernel)
noncomputable def dT572 : List ckI := [(0, 1), (0, 1), (0, 8), (0, 40), (0, 6), (0, 8), (0, 10), (0, 60), ckTop, ckTop, ckTop, ckTop, (0, 30), (19, 30), (0, 270), (0, 30), (0, 1), ckTop, (0, 1), (318, 318), (300, 300), (1, 99), ckTop]
-- FarMachineModel.test
noncomputable def k332 : ckCtr := (86, ([(0, (1, 0))], [], dC555, dT572, dG476, [], [], [(1, 0, 0, 0, [])], 0, 0), [([], [(0, 23)], dP557, [], [], [(0, 1), (19, 30), (0, 1)], [], [], dZ400, [(1, 0, 0, 0, [])], 0, 0)], 16, 419, 0, 0)
noncomputable def k332_a : ckAs := []
noncomputable def k332_c : List (Nat × ckCtr) := [(3, k316), (10, k331), (23, k320), (28, k315), (75, k320)]
theorem k332_ok (l : Launch) : ckCtrOk l ckMT ckTW ckCL k332 := mt_86 (as := k332_a) (cs := k332_c) (gx := []) (f := 200000) rfl (ckHc (k316_ok l) (ckHc (k331_ok l) (ckHc (k320_ok l) (ckHc (k315_ok l) (ckHc (k320_ok l) (fun _ h => absurd h List.not_mem_nil)))))) True.intro (by decide +kernel)
noncomputable def dT573 : List ckI := [(0, 1), (0, 1), (0, 8), (0, 40), (0, 6), (0, 8), (0, 10), (0, 60), ckTop, ckTop, ckTop, ckTop, (0, 30), (18, 30), (0, 270), (0, 30), (0, 1), ckTop, (0, 1), (318, 318), (300, 300), (1, 99), ckTop]
-- FarMachineModel.test
noncomputable def k333 : ckCtr := (86, ([(0, (1, 0))], [], dC555, dT573, dG476, [], [], [(1, 0, 0, 0, [])], 0, 0), [([], [(0, 23)], dP557, [], [], [(0, 1), (18, 30), (0, 1)], [], [], dZ402, [(1, 0, 0, 0, [])], 0, 0)], 17, 442, 0, 0)
noncomputable def k333_a : ckAs := []
noncomputable def k333_c : List (Nat × ckCtr) := [(3, k316), (10, k332), (23, k320), (28, k315), (75, k320)]
theorem k333_ok (l : Launch) : ckCtrOk l ckMT ckTW ckCL k333 := mt_86 (as := k333_a) (cs := k333_c) (gx := []) (f := 200000) rfl (ckHc (k316_ok l) (ckHc (k332_ok l) (ckHc (k320_ok l) (ckHc (k315_ok l) (ckHc (k320_ok l) (fun _ h => absurd h List.not_mem_nil)))))) True.intro (by decide +kernel)
noncomputable def dT574 : List ckI := [(0, 1), (0, 1), (0, 8), (0, 40), (0, 6), (0, 8), (0, 10), (0, 60), ckTop, ckTop, ckTop, ckTop, (0, 30), (17, 30), (0, 270), (0, 30), (0, 1), ckTop, (0, 1), (318, 318), (300, 300), (1, 99), ckTop]
-- FarMachineModel.test
noncomputable def k334 : ckCtr := (86, ([(0, (1, 0))], [], dC555, dT574, dG476, [], [], [(1, 0, 0, 0, [])], 0, 0), [([], [(0, 23)], dP557, [], [], [(0, 1), (17, 30), (0, 1)], [], [], dZ404, [(1, 0, 0, 0, [])], 0, 0)], 18, 465, 0, 0)
noncomputable def k334_a : ckAs := []
noncomputable def k334_c : List (Nat × ckCtr) := [(3, k316), (10, k333), (23, k320), (28, k315), (75, k320)]
theorem k334_ok (l : Launch) : ckCtrOk l ckMT ckTW ckCL k334 := mt_86 (as := k334_a) (cs := k334_c) (gx := []) (f := 200000) rfl (ckHc (k316_ok l) (ckHc (k333_ok l) (ckHc (k320_ok l) (ckHc (k315_ok l) (ckHc (k320_ok l) (fun _ h => absurd h List.not_mem_nil)))))) True.intro (by decide +kernel)
noncomputable def dT575 : List ckI := [(0, 1), (0, 1), (0, 8), (0, 40), (0, 6), (0, 8), (0, 10), (0, 60), ckTop, ckTop, ckTop, ckTop, (0, 30), (16, 30), (0, 270), (0, 30), (0, 1), ckTop, (0, 1), (318, 318), (300, 300), (1, 99), ckTop]
-- FarMachineModel.test
noncomputable def k335 : ckCtr := (86, ([(0, (1, 0))], [], dC555, dT575, dG476, [], [], [(1, 0, 0, 0, [])], 0, 0), [([], [(0, 23)], dP557, [], [], [(0, 1), (16, 30), (0, 1)], [], [], dZ406, [(1, 0, 0, 0, [])], 0, 0)], 19, 488, 0, 0)
noncomputable def k335_a : ckAs := []
noncomputable def k335_c : List (Nat × ckCtr) := [(3, k316), (10, k334), (23, k320), (28, k315), (75, k320)]
theorem k335_ok (l : Launch) : ckCtrOk l ckMT ckTW ckCL k335 := mt_86 (as := k335_a) (cs := k335_c) (gx := []) (f := 200000) rfl (ckHc (k316_ok l) (ckHc (k334_ok l) (ckHc (k320_ok l) (ckHc (k315_ok l) (ckHc (k320_ok l) (fun _ h => absurd h List.not_mem_nil)))))) True.intro (by decide +kernel)
noncomputable def dT576 : List ckI := [(0, 1), (0, 1), (0, 8), (0, 40), (0, 6), (0, 8), (0, 10), (0, 60), ckTop, ckTop, ckTop, ckTop, (0, 30), (15, 30), (0, 270), (0, 30), (0, 1), ckTop, (0, 1), (318, 318), (300, 300), (1, 99), ckTop]
-- FarMachineModel.test
noncomputable def k336 : ckCtr := (86, ([(0, (1, 0))], [], dC555, dT576, dG476, [], [], [(1, 0, 0, 0, [])], 0, 0), [([], [(0, 23)], dP557, [], [], [(0, 1), (15, 30), (0, 1)], [], [], dZ408, [(1, 0, 0, 0, [])], 0, 0)], 20, 511, 0, 0)
noncomputable def k336_a : ckAs := []
noncomputable def k336_c : List (Nat × ckCtr) := [(3, k316), (10, k335), (23, k320), (28, k315), (75, k320)]
theorem k336_ok (l : Launch) : ckCtrOk l ckMT ckTW ckCL k336 := mt_86 (as := k336_a) (cs := k336_c) (gx := []) (f := 200000) rfl (ckHc (k316_ok l) (ckHc (k335_ok l) (ckHc (k320_ok l) (ckHc (k315_ok l) (ckHc (k320_ok l) (fun _ h => absurd h List.not_mem_nil)))))) True.intro (by decide +kernel)
noncomputable def dT577 : List ckI := [(0, 1), (0, 1), (0, 8), (0, 40), (0, 6), (0, 8), (0, 10), (0, 60), ckTop, ckTop, ckTop, ckTop, (0, 30), (14, 30), (0, 270), (0, 30), (0, 1), ckTop, (0, 1), (318, 318), (300, 300), (1, 99), ckTop]
-- FarMachineModel.test
noncomputable def k337 : ckCtr := (86, ([(0, (1, 0))], [], dC555, dT577, dG476, [], [], [(1, 0, 0, 0, [])], 0, 0), [([], [(0, 23)], dP557, [], [], [(0, 1), (14, 30), (0, 1)], [], [], dZ410, [(1, 0, 0, 0, [])], 0, 0)], 21, 534, 0, 0)
noncomputable def k337_a : ckAs := []
noncomputable def k337_c : List (Nat × ckCtr) := [(3, k316), (10, k336), (23, k320), (28, k315), (75, k320)]
theorem k337_ok (l : Launch) : ckCtrOk l ckMT ckTW ckCL k337 := mt_86 (as := k337_a) (cs := k337_c) (gx := []) (f := 200000) rfl (ckHc (k316_ok l) (ckHc (k336_ok l) (ckHc (k320_ok l) (ckHc (k315_ok l) (ckHc (k320_ok l) (fun _ h => absurd h List.not_mem_nil)))))) True.intro (by decide +kernel)
noncomputable def dT578 : List ckI := [(0, 1), (0, 1), (0, 8), (0, 40), (0, 6), (0, 8), (0, 10), (0, 60), ckTop, ckTop, ckTop, ckTop, (0, 30), (13, 30), (0, 270), (0, 30), (0, 1), ckTop, (0, 1), (318, 318), (300, 300), (1, 99), ckTop]
-- FarMachineModel.test
noncomputable def k338 : ckCtr := (86, ([(0, (1, 0))], [], dC555, dT578, dG476, [], [], [(1, 0, 0, 0, [])], 0, 0), [([], [(0, 23)], dP557, [], [], [(0, 1), (13, 30), (0, 1)], [], [], dZ412, [(1, 0, 0, 0, [])], 0, 0)], 22, 557, 0, 0)
noncomputable def k338_a : ckAs := []
noncomputable def k338_c : List (Nat × ckCtr) := [(3, k316), (10, k337), (23, k320), (28, k315), (75, k320)]
theorem k338_ok (l : Launch) : ckCtrOk l ckMT ckTW ckCL k338 := mt_86 (as := k338_a) (cs := k338_c) (gx := []) (f := 200000) rfl (ckHc (k316_ok l) (ckHc (k337_ok l) (ckHc (k320_ok l) (ckHc (k315_ok l) (ckHc (k320_ok l) (fun _ h => absurd h List.not_mem_nil)))))) True.intro (by decide +kernel)
noncomputable def dT579 : List ckI := [(0, 1), (0, 1), (0, 8), (0, 40), (0, 6), (0, 8), (0, 10), (0, 60), ckTop, ckTop, ckTop, ckTop, (0, 30), (12, 30), (0, 270), (0, 30), (0, 1), ckTop, (0, 1), (318, 318), (300, 300), (1, 99), ckTop]
-- FarMachineModel.test
noncomputable def k339 : ckCtr := (86, ([(0, (1, 0))], [], dC555, dT579, dG476, [], [], [(1, 0, 0, 0, [])], 0, 0), [([], [(0, 23)], dP557, [], [], [(0, 1), (12, 30), (0, 1)], [], [], dZ414, [(1, 0, 0, 0, [])], 0, 0)], 23, 580, 0, 0)
noncomputable def k339_a : ckAs := []
noncomputable def k339_c : List (Nat × ckCtr) := [(3, k316), (10, k338), (23, k320), (28, k315), (75, k320)]
theorem k339_ok (l : Launch) : ckCtrOk l ckMT ckTW ckCL k339 := mt_86 (as := k339_a) (cs := k339_c) (gx := []) (f := 200000) rfl (ckHc (k316_ok l) (ckHc (k338_ok l) (ckHc (k320_ok l) (ckHc (k315_ok l) (ckHc (k320_ok l) (fun _ h => absurd h List.not_mem_nil)))))) True.intro (by decide +kernel)
noncomputable def dT580 : List ckI := [(0, 1), (0, 1), (0, 8), (0, 40), (0, 6), (0, 8), (0, 10), (0, 60), ckTop, ckTop, ckTop, ckTop, (0, 30), (11, 30), (0, 270), (0, 30), (0, 1), ckTop, (0, 1), (318, 318), (300, 300), (1, 99), ckTop]
-- FarMachineModel.test
noncomputable def k340 : ckCtr := (86, ([(0, (1, 0))], [], dC555, dT580, dG476, [], [], [(1, 0, 0, 0, [])], 0, 0), [([], [(0, 23)], dP557, [], [], [(0, 1), (11, 30), (0, 1)], [], [], dZ416, [(1, 0, 0, 0, [])], 0, 0)], 24, 603, 0, 0)
noncomputable def k340_a : ckAs := []
noncomputable def k340_c : List (Nat × ckCtr) := [(3, k316), (10, k339), (23, k320), (28, k315), (75, k320)]
theorem k340_ok (l : Launch) : ckCtrOk l ckMT ckTW ckCL k340 := mt_86 (as := k340_a) (cs := k340_c) (gx := []) (f := 200000) rfl (ckHc (k316_ok l) (ckHc (k339_ok l) (ckHc (k320_ok l) (ckHc (k315_ok l) (ckHc (k320_ok l) (fun _ h => absurd h List.not_mem_nil)))))) True.intro (by decide +kernel)
noncomputable def dT581 : List ckI := [(0, 1), (0, 1), (0, 8), (0, 40), (0, 6), (0, 8), (0, 10), (0, 60), ckTop, ckTop, ckTop, ckTop, (0, 30), (10, 30), (0, 270), (0, 30), (0, 1), ckTop, (0, 1), (318, 318), (300, 300), (1, 99), ckTop]
-- FarMachineModel.test
noncomputable def k341 : ckCtr := (86, ([(0, (1, 0))], [], dC555, dT581, dG476, [], [], [(1, 0, 0, 0, [])], 0, 0), [([], [(0, 23)], dP557, [], [], [(0, 1), (10, 30), (0, 1)], [], [], dZ418, [(1, 0, 0, 0, [])], 0, 0)], 25, 626, 0, 0)
noncomputable def k341_a : ckAs := []
noncomputable def k341_c : List (Nat × ckCtr) := [(3, k316), (10, k340), (23, k320), (28, k315), (75, k320)]
theorem k341_ok (l : Launch) : ckCtrOk l ckMT ckTW ckCL k341 := mt_86 (as := k341_a) (cs := k341_c) (gx := []) (f := 200000) rfl (ckHc (k316_ok l) (ckHc (k340_ok l) (ckHc (k320_ok l) (ckHc (k315_ok l) (ckHc (k320_ok l) (fun _ h => absurd h List.not_mem_nil)))))) True.intro (by decide +kernel)
noncomputable def dT582 : List ckI := [(0, 1), (0, 1), (0, 8), (0, 40), (0, 6), (0, 8), (0, 10), (0, 60), ckTop, ckTop, ckTop, ckTop, (0, 30), (9, 30), (0, 270), (0, 30), (0, 1), ckTop, (0, 1), (318, 318), (300, 300), (1, 99), ckTop]
-- FarMachineModel.test
noncomputable def k342 : ckCtr := (86, ([(0, (1, 0))], [], dC555, dT582, dG476, [], [], [(1, 0, 0, 0, [])], 0, 0), [([], [(0, 23)], dP557, [], [], [(0, 1), (9, 30), (0, 1)], [], [], dZ420, [(1, 0, 0, 0, [])], 0, 0)], 26, 649, 0, 0)
noncomputable def k342_a : ckAs := []
noncomputable def k342_c : List (Nat × ckCtr) := [(3, k316), (10, k341), (23, k320), (28, k315), (75, k320)]
theorem k342_ok (l : Launch) : ckCtrOk l ckMT ckTW ckCL k342 := mt_86 (as := k342_a) (cs := k342_c) (gx := []) (f := 200000) rfl (ckHc (k316_ok l) (ckHc (k341_ok l) (ckHc (k320_ok l) (ckHc (k315_ok l) (ckHc (k320_ok l) (fun _ h => absurd h List.not_mem_nil)))))) True.intro (by decide +kernel)
noncomputable def dT583 : List ckI := [(0, 1), (0, 1), (0, 8), (0, 40), (0, 6), (0, 8), (0, 10), (0, 60), ckTop, ckTop, ckTop, ckTop, (0, 30), (8, 30), (0, 270), (0, 30), (0, 1), ckTop, (0, 1), (318, 318), (300, 300), (1, 99), ckTop]
-- FarMachineModel.test
noncomputable def k343 : ckCtr := (86, ([(0, (1, 0))], [], dC555, dT583, dG476, [], [], [(1, 0, 0, 0, [])], 0, 0), [([], [(0, 23)], dP557, [], [], [(0, 1), (8, 30), (0, 1)], [], [], dZ422, [(1, 0, 0, 0, [])], 0, 0)], 27, 672, 0, 0)
noncomputable def k343_a : ckAs := []
noncomputable def k343_c : List (Nat × ckCtr) := [(3, k316), (10, k342), (23, k320), (28, k315), (75, k320)]
theorem k343_ok (l : Launch) : ckCtrOk l ckMT ckTW ckCL k343 := mt_86 (as := k343_a) (cs := k343_c) (gx := []) (f := 200000) rfl (ckHc (k316_ok l) (ckHc (k342_ok l) (ckHc (k320_ok l) (ckHc (k315_ok l) (ckHc (k320_ok l) (fun _ h => absurd h List.not_mem_nil)))))) True.intro (by decide +kernel)
noncomputable def dT584 : List ckI := [(0, 1), (0, 1), (0, 8), (0, 40), (0, 6), (0, 8), (0, 10), (0, 60), ckTop, ckTop, ckTop, ckTop, (0, 30), (7, 30), (0, 270), (0, 30), (0, 1), ckTop, (0, 1), (318, 318), (300, 300), (1, 99), ckTop]
-- FarMachineModel.test
noncomputable def k344 : ckCtr := (86, ([(0, (1, 0))], [], dC555, dT584, dG476, [], [], [(1, 0, 0, 0, [])], 0, 0), [([], [(0, 23)], dP557, [], [], [(0, 1), (7, 30), (0, 1)], [], [], dZ424, [(1, 0, 0, 0, [])], 0, 0)], 28, 695, 0, 0)
noncomputable def k344_a : ckAs := []
noncomputable def k344_c : List (Nat × ckCtr) := [(3, k316), (10, k343), (23, k320), (28, k315), (75, k320)]
theorem k344_ok (l : Launch) : ckCtrOk l ckMT ckTW ckCL k344 := mt_86 (as := k344_a) (cs := k344_c) (gx := []) (f := 200000) rfl (ckHc (k316_ok l) (ckHc (k343_ok l) (ckHc (k320_ok l) (ckHc (k315_ok l) (ckHc (k320_ok l) (fun _ h => absurd h List.not_mem_nil)))))) True.intro (by decide +kernel)
noncomputable def dT585 : List ckI := [(0, 1), (0, 1), (0, 8), (0, 40), (0, 6), (0, 8), (0, 10), (0, 60), ckTop, ckTop, ckTop, ckTop, (0, 30), (6, 30), (0, 270), (0, 30), (0, 1), ckTop, (0, 1), (318, 318), (300, 300), (1, 99), ckTop]
-- FarMachineModel.test
noncomputable def k345 : ckCtr := (86, ([(0, (1, 0))], [], dC555, dT585, dG476, [], [], [(1, 0, 0, 0, [])], 0, 0), [([], [(0, 23)], dP557, [], [], [(0, 1), (6, 30), (0, 1)], [], [], dZ426, [(1, 0, 0, 0, [])], 0, 0)], 29, 718, 0, 0)
noncomputable def k345_a : ckAs := []
noncomputable def k345_c : List (Nat × ckCtr) := [(3, k316), (10, k344), (23, k320), (28, k315), (75, k320)]
theorem k345_ok (l : Launch) : ckCtrOk l ckMT ckTW ckCL k345 := mt_86 (as := k345_a) (cs := k345_c) (gx := []) (f := 200000) rfl (ckHc (k316_ok l) (ckHc (k344_ok l) (ckHc (k320_ok l) (ckHc (k315_ok l) (ckHc (k320_ok l) (fun _ h => absurd h List.not_mem_nil)))))) True.intro (by decide +kernel)
