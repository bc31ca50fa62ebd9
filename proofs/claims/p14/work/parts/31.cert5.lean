/-! THE CHECKER: contracts with their certificates (printed by wip/gen2/p14gen.py) -/
noncomputable def dT435 : List ckI := [(0, 1), (0, 1), (0, 8), (0, 40), (0, 6), (0, 8), (0, 10), (0, 130000), ckTop, ckTop, ckTop, ckTop, (0, 30), (1, 30), (0, 0), (0, 30), (0, 1), ckTop, (0, 1), (318, 318), (30, 30), (1, 99), (0, 128000)]
noncomputable def dZ436 : List ckZ := [(13, 24, 0), (23, 15, 0), (23, 16, 0), (23, 24, (-1)), (25, 15, 0), (25, 16, 0), (25, 24, (-1))]
-- FarMachineModel.test
noncomputable def k241 : ckCtr := (86, ([(0, (1, 0))], [], dC369, dT435, dG371, [], [], [(1, 0, 0, 0, [])], 0, 0), [([], [(0, 23)], dP372, [], [], [(0, 1), (1, 30), (0, 1)], [], [], dZ436, [(1, 0, 0, 0, [])], 0, 0)], 34, 833, 0, 0)
noncomputable def k241_a : ckAs := []
noncomputable def k241_c : List (Nat × ckCtr) := [(3, k206), (10, k240), (23, k211), (28, k205), (75, k211)]
theorem k241_ok (l : Launch) : ckCtrOk l ckMT ckTW ckCL k241 := mt_86 (as := k241_a) (cs := k241_c) (gx := []) (f := 200000) rfl (ckHc (k206_ok l) (ckHc (k240_ok l) (ckHc (k211_ok l) (ckHc (k205_ok l) (ckHc (k211_ok l) (fun _ h => absurd h List.not_mem_nil)))))) True.intro (by decide +kernel)
noncomputable def dZ437 : List ckZ := [(13, 24, 0), (23, 15, 0), (23, 16, 0), (23, 24, 0), (25, 15, 0), (25, 16, 0), (25, 24, 0)]
-- FarMachineModel.test
noncomputable def k242 : ckCtr := (86, ([(0, (1, 0))], [], dC369, dT370, dG371, [], [], [(1, 0, 0, 0, [])], 0, 0), [([], [(0, 23)], dP372, [], [], [(0, 1), (0, 30), (0, 1)], [], [], dZ437, [(1, 0, 0, 0, [])], 0, 0)], 35, 856, 0, 0)
noncomputable def k242_a : ckAs := []
noncomputable def k242_c : List (Nat × ckCtr) := [(3, k206), (10, k241), (23, k211), (28, k205), (75, k211)]
theorem k242_ok (l : Launch) : ckCtrOk l ckMT ckTW ckCL k242 := mt_86 (as := k242_a) (cs := k242_c) (gx := []) (f := 200000) rfl (ckHc (k206_ok l) (ckHc (k241_ok l) (ckHc (k211_ok l) (ckHc (k205_ok l) (ckHc (k211_ok l) (fun _ h => absurd h List.not_mem_nil)))))) True.intro (by decide +kernel)
noncomputable def dT438 : List ckI := [(38, 38), (0, 1), (0, 1), (0, 8), (0, 40), (0, 6), (0, 8), (0, 10), (0, 130000), ckTop, ckTop, ckTop, ckTop, (0, 30), (0, 30), (0, 0), (0, 30), (0, 1), ckTop, (0, 1), (30, 30)]
-- FarMachineModel.takes
noncomputable def k243 : ckCtr := (84, ([(0, (1, 0)), (1, (0, 0))], [], dC359, dT438, [([(30, ckTop)], [], [])], [], [], [], 0, 0), [([], [(0, 15)], [], [], [], [], [], [], [], [], 0, 0), ([], [(0, 21)], dP361, [], [(14, (0, 29)), (16, (1, 30)), (17, (1, 1))], [(1, 1), (1, 30)], [], [], [(14, 16, (-1)), (14, 22, (-1)), (22, 14, 1), (22, 16, 0)], [], 0, 0)], 2, 100, 0, 0)
noncomputable def k243_a : ckAs := []
noncomputable def k243_c : List (Nat × ckCtr) := [(8, k205)]
theorem k243_ok (l : Launch) : ckCtrOk l ckMT ckTW ckCL k243 := mt_84 (as := k243_a) (cs := k243_c) (gx := []) (f := 200000) rfl (ckHc (k205_ok l) (fun _ h => absurd h List.not_mem_nil)) True.intro (by decide +kernel)
noncomputable def dT439 : List ckI := [(0, 1), (0, 1), (0, 8), (0, 40), (0, 6), (0, 8), (0, 10), (0, 130000), ckTop, ckTop, ckTop, ckTop, (0, 30), (0, 0), (0, 0), (0, 30), (0, 1), ckTop, (0, 1), (318, 318), (30, 30), (1, 99), (0, 128000)]
noncomputable def dZ440 : List ckZ := [(23, 15, 0), (23, 16, 0), (23, 24, 0), (25, 15, 0), (25, 16, 0), (25, 24, 0)]
noncomputable def dP441 : List (Nat × ckC) := [(0, .inl (9, [(4, 10), (1, 1), (4, 11), (4, 12), (4, 13), (4, 14), (4, 15), (4, 16), (4, 17), (4, 18), (4, 19), (4, 20), (4, 21), (4, 22), (4, 23), (4, 24), (0, 0), (0, 1), (0, 2), (0, 3), (0, 4), (0, 5), (0, 6), (4, 25), (0, 7), (4, 26), (0, 8), (0, 9), (0, 10), (0, 11), (1, 2), (0, 12), (0, 27), (0, 14), (0, 15), (1, 2), (1, 1), (0, 28), (4, 27), (4, 28), (0, 17), (0, 18)]))]
noncomputable def dZ442 : List ckZ := [(23, 15, 0), (23, 16, 0), (23, 24, 0), (23, 27, 0), (24, 27, 0), (25, 15, 0), (25, 16, 0), (25, 24, 0), (25, 27, 0), (26, 15, 0), (26, 16, 0), (26, 23, 0), (26, 24, 0), (26, 27, 0), (27, 24, 29), (28, 15, 0), (28, 16, 0), (28, 24, 0), (28, 25, 0), (28, 27, 0)]
-- FarMachineModel.and
noncomputable def k244 : ckCtr := (85, ([(0, (1, 0))], [], dC369, dT439, dG371, [], [], [(1, 0, 0, 0, [])], 0, 0), [([], [(0, 23)], dP372, [], [], [(0, 1), (0, 30), (0, 1)], [], [], dZ440, [(1, 0, 0, 0, [])], 0, 0)], 36, 879, 0, 0)
noncomputable def k244_a : ckAs := [(5, [(286651, [(1, 0, 1, ([(0, (1, 0)), (1, (0, 26))], [], dP441, [], [], [(0, 1), (0, 30), (0, 1)], [], [], dZ442, [(1, 0, 0, 0, [])], 0, 0))])])]
noncomputable def k244_c : List (Nat × ckCtr) := [(1, k242), (8, k243), (15, k241)]
theorem k244_ok (l : Launch) : ckCtrOk l ckMT ckTW ckCL k244 := mt_85 (as := k244_a) (cs := k244_c) (gx := []) (f := 200000) rfl (ckHc (k242_ok l) (ckHc (k243_ok l) (ckHc (k241_ok l) (fun _ h => absurd h List.not_mem_nil)))) True.intro (by decide +kernel)
noncomputable def dC443 : List ckC := [.inl (9, [(4, 10), (1, 2), (4, 11), (4, 12), (4, 13), (4, 14), (4, 15), (4, 16), (4, 17), (4, 18), (4, 19), (4, 20), (4, 21), (4, 22), (4, 23), (4, 24), (0, 2), (0, 3), (0, 4), (0, 5), (0, 6), (0, 7), (0, 8), (4, 25), (0, 9), (4, 26), (0, 10), (0, 11), (0, 12), (0, 13), (1, 1), (0, 14), (0, 15), (0, 16), (0, 17), (5, 0), (5, 0), (0, 18), (4, 27), (4, 28), (0, 19), (0, 20)]), .inr (0, 21, 0), .inr (0, 22, 1)]
noncomputable def dT444 : List ckI := [(0, 0), (0, 30), (0, 1), (0, 1), (0, 8), (0, 40), (0, 6), (0, 8), (0, 10), (0, 130000), ckTop, ckTop, ckTop, ckTop, (0, 30), ckTop, ckTop, ckTop, (0, 1), ckTop, (0, 1), (30, 30), (318, 318), (1, 99), (0, 128000)]
noncomputable def dG445 : List ckG := [([(30, ckTop)], [], []), ([(48, ckTop), (49, (0, 47)), (55, ckTop), (56, ckTop), (58, ckTop), (59, ckTop), (76, ckTop), (77, (0, 30)), (197, ckTop), (198, (0, 60)), (318, ckTop)], [(55, 23), (58, 24)], [])]
noncomputable def dP446 : List (Nat × ckC) := [(0, .inl (9, [(4, 10), (1, 2), (4, 11), (4, 12), (4, 13), (4, 14), (4, 15), (4, 16), (4, 17), (4, 18), (4, 19), (4, 20), (4, 21), (4, 22), (4, 23), (4, 24), (0, 2), (0, 3), (0, 4), (0, 5), (0, 6), (0, 7), (0, 8), (4, 25), (0, 9), (4, 26), (0, 10), (0, 11), (0, 12), (0, 13), (1, 1), (0, 14), (0, 26), (0, 0), (0, 1), (1, 1), (1, 2), (0, 27), (4, 27), (4, 28), (0, 19), (0, 20)]))]
-- FarMachineModel.goesThrough
noncomputable def k245 : ckCtr := (90, ([(0, (1, 0)), (1, (1, 1)), (2, (0, 0)), (3, (0, 1)), (4, (1, 2))], [], dC443, dT444, dG445, [], [], [(1, 1, 0, 0, [])], 0, 0), [([], [(0, 25)], dP446, [], [], [(0, 1), (0, 30), (0, 1)], [], [], [(25, 1, 0), (25, 26, 0), (27, 1, 0), (27, 26, 0)], [(1, 1, 0, 0, [])], 0, 0)], 37, 901, 0, 0)
noncomputable def k245_a : ckAs := []
noncomputable def k245_c : List (Nat × ckCtr) := [(32, k244)]
theorem k245_ok (l : Launch) : ckCtrOk l ckMT ckTW ckCL k245 := mt_90 (as := k245_a) (cs := k245_c) (gx := []) (f := 200000) rfl (ckHc (k244_ok l) (fun _ h => absurd h List.not_mem_nil)) True.intro (by decide +kernel)
noncomputable def dC447 : List ckC := [.inl (9, [(1, 1), (1, 2), (4, 10), (4, 11), (4, 12), (4, 13), (4, 14), (4, 15), (4, 16), (4, 17), (4, 18), (4, 19), (4, 20), (4, 21), (1, 3), (1, 4), (0, 0), (0, 1), (0, 2), (0, 3), (0, 4), (0, 5), (0, 6), (4, 22), (0, 7), (4, 23), (0, 8), (0, 9), (0, 10), (0, 11), (1, 5), (0, 12), (0, 13), (0, 14), (0, 15), (5, 0), (5, 0), (0, 16), (4, 24), (4, 25), (0, 17), (0, 18)]), .inr (0, 19, 0), .inr (0, 20, 1), .inr (0, 21, 2), .inr (0, 22, 3), .inr (0, 23, 4)]
noncomputable def dT448 : List ckI := [(0, 1), (0, 1), (0, 8), (0, 40), (0, 6), (0, 8), (0, 10), (0, 126000), ckTop, ckTop, ckTop, ckTop, (0, 30), ckTop, ckTop, ckTop, (0, 1), ckTop, (0, 1), (7, 7), (318, 318), (300, 300), (10, 10), (30, 30), (1, 99), (0, 126000)]
noncomputable def dG449 : List ckG := [([(7, ckTop)], [], []), ([(48, ckTop), (49, (0, 47)), (50, ckTop), (51, ckTop), (52, ckTop), (54, ckTop), (55, ckTop), (56, ckTop), (57, ckTop), (58, ckTop), (59, ckTop), (76, ckTop), (77, (0, 30)), (197, ckTop), (198, (0, 60)), (318, ckTop)], [(55, 24), (58, 25)], []), ([(300, ckTop)], [], []), ([(10, (0, 30))], [], []), ([(30, ckTop)], [], [])]
noncomputable def dP450 : List (Nat × ckC) := [(0, .inl (9, [(1, 1), (1, 2), (4, 10), (4, 11), (4, 12), (4, 13), (4, 14), (4, 15), (4, 16), (4, 17), (4, 18), (4, 19), (4, 20), (4, 21), (1, 3), (1, 4), (0, 0), (0, 1), (0, 2), (0, 3), (0, 4), (0, 5), (0, 27), (4, 22), (0, 7), (4, 23), (0, 8), (0, 9), (0, 10), (0, 11), (1, 5), (0, 28), (0, 29), (0, 30), (0, 31), (5, 0), (5, 0), (0, 32), (4, 24), (4, 25), (0, 17), (0, 18)])), (1, .inr (0, 19, 5)), (3, .inr (0, 21, 6)), (4, .inr (0, 22, 7))]
noncomputable def dG451 : List ckG := [([(6, ckTop), (7, ckTop)], [], []), ([(300, ckTop)], [], []), ([(10, (0, 30))], [], [])]
noncomputable def dZ452 : List ckZ := [(6, 26, 59), (6, 27, 0), (26, 6, 0), (26, 12, 8), (26, 27, (-1)), (26, 32, 8), (27, 6, 1), (27, 26, 59), (28, 6, 20), (28, 12, 0), (28, 26, 50), (28, 27, 20)]
-- FarMachineModel.rule
noncomputable def k246 : ckCtr := (91, ([(0, (1, 0))], [], dC447, dT448, dG449, [], [], [(1, 1, 0, 0, [])], 0, 0), [([], [(0, 26)], dP450, [], [], [(-50, 9), (0, 10), (0, 30), ckTop, ckTop, ckTop, (0, 1)], dG451, [], dZ452, [(1, 1, 0, 0, [])], 0, 0)], 38, 925, 0, 0)
noncomputable def k246_a : ckAs := [(83, [(153422, [(1, 0, 0, ([(0, (1, 0)), (1, (0, 28)), (2, (0, 31)), (3, (0, 12)), (4, (0, 34))], [], [(3, .inr (0, 21, 5))], [], [], [(0, 30)], [([(300, ckTop)], [], [])], [], [(12, 29, 0), (29, 12, 0), (34, 12, 0), (34, 29, 0)], [(1, 1, 0, 0, [])], 0, 0))])])]
noncomputable def k246_c : List (Nat × ckCtr) := [(12, k23), (30, k245)]
theorem k246_ok (l : Launch) : ckCtrOk l ckMT ckTW ckCL k246 := mt_91 (as := k246_a) (cs := k246_c) (gx := []) (f := 200000) rfl (ckHc (k23_ok l) (ckHc (k245_ok l) (fun _ h => absurd h List.not_mem_nil))) True.intro (by decide +kernel)
noncomputable def dC453 : List ckC := [.inl (2, [(4, 10), (1, 2), (4, 11), (0, 0), (0, 1), (0, 2), (0, 3), (0, 4), (0, 5), (0, 6), (0, 7), (0, 8), (0, 9), (0, 10), (0, 11), (0, 12)]), .inr (0, 13, 0), .inr (0, 13, 1)]
noncomputable def dG454 : List ckG := [([(1, ckTop), (2, ckTop), (3, ckTop), (4, ckTop), (5, ckTop), (6, ckTop), (7, ckTop), (8, (0, 63))], [(0, 3), (1, 4), (2, 5), (3, 2), (4, 1), (5, 16), (6, 15), (7, 14)], [])]
-- FarMachine$Machine.readInto
noncomputable def k247 : ckCtr := (147, ([(0, (1, 0)), (1, (1, 1))], [], dC453, dT80, [([(8, ckTop)], [], []), ([(8, ckTop)], [], [])], [], [], [], 0, 0), [([], [], [(1, .inr (0, 13, 2))], [], [], [(0, 63), ckTop, ckTop], dG454, [], [], [], 0, 0)], 3, 126, 0, 0)
noncomputable def k247_a : ckAs := []
noncomputable def k247_c : List (Nat × ckCtr) := [(59, k48), (70, k60)]
theorem k247_ok (l : Launch) : ckCtrOk l ckMT ckTW ckCL k247 := mt_147 (as := k247_a) (cs := k247_c) (gx := []) (f := 200000) rfl (ckHc (k48_ok l) (ckHc (k60_ok l) (fun _ h => absurd h List.not_mem_nil))) True.intro (by decide +kernel)
-- FarMachine$Rules.sizeOf
noncomputable def k248 : ckCtr := (168, ([(0, (1, 0)), (1, (0, 0))], [], dC338, [ckTop, (0, 10), (10, 10)], [([(10, ckTop)], [], [])], [], [], [], 0, 0), [([], [(0, 3)], [], [], [(0, (0, 9))], [ckTop], [], [], [], [], 0, 0), ([], [(0, 3)], [], [], [], [(0, 0)], [], [], [], [], 0, 0)], 1, 80, 0, 0)
noncomputable def k248_a : ckAs := []
noncomputable def k248_c : List (Nat × ckCtr) := []
theorem k248_ok (l : Launch) : ckCtrOk l ckMT ckTW ckCL k248 := mt_168 (as := k248_a) (cs := k248_c) (gx := []) (f := 200000) rfl (fun _ h => absurd h List.not_mem_nil) True.intro (by decide +kernel)
-- FarMachine$Rules.valueOf
noncomputable def k249 : ckCtr := (175, ([(0, (0, 0)), (1, (1, 0))], [], [.inr (0, 1, 0)], [ckTop, (8, 8)], [([(8, ckTop)], [], [])], [], [], [], 0, 0), [([], [(0, 2)], [], [], [], [ckTop], [], [], [], [], 0, 0), ([], [(0, 0)], [], [], [], [], [], [], [], [], 0, 0)], 1, 80, 0, 0)
noncomputable def k249_a : ckAs := []
noncomputable def k249_c : List (Nat × ckCtr) := []
theorem k249_ok (l : Launch) : ckCtrOk l ckMT ckTW ckCL k249 := mt_175 (as := k249_a) (cs := k249_c) (gx := []) (f := 200000) rfl (fun _ h => absurd h List.not_mem_nil) True.intro (by decide +kernel)
noncomputable def dC455 : List ckC := [.inl (5, [(1, 2), (1, 3), (1, 4), (1, 5), (4, 10), (0, 1)]), .inr (0, 2, 0), .inr (0, 3, 1), .inr (0, 3, 2), .inr (0, 3, 3), .inr (0, 3, 4)]
noncomputable def dG456 : List ckG := [([(8, ckTop)], [], []), ([(70, ckTop)], [], []), ([(70, ckTop)], [], []), ([(70, ckTop)], [], []), ([(70, ckTop)], [], [])]
-- FarMachine$Rules.isTestTrue
noncomputable def k250 : ckCtr := (174, ([(0, (1, 0)), (1, (0, 0)), (2, (1, 1))], [], dC455, [ckTop, (0, 10), (8, 8), (70, 70)], dG456, [], [], [], 0, 0), [([], [(0, 4)], [], [], [], [(0, 0)], [], [], [], [], 0, 0), ([], [(0, 4)], [], [], [(0, (0, 69))], [(1, 1)], [], [], [], [], 0, 0)], 2, 102, 0, 0)
noncomputable def k250_a : ckAs := []
noncomputable def k250_c : List (Nat × ckCtr) := [(22, k249), (33, k249)]
theorem k250_ok (l : Launch) : ckCtrOk l ckMT ckTW ckCL k250 := mt_174 (as := k250_a) (cs := k250_c) (gx := []) (f := 200000) rfl (ckHc (k249_ok l) (ckHc (k249_ok l) (fun _ h => absurd h List.not_mem_nil))) True.intro (by decide +kernel)
noncomputable def dC457 : List ckC := [.inl (5, [(1, 2), (1, 3), (1, 4), (1, 5), (1, 6), (0, 1)]), .inr (0, 2, 0), .inr (0, 3, 1), .inr (0, 3, 2), .inr (0, 3, 3), .inr (0, 3, 4), .inr (0, 4, 5)]
noncomputable def dG458 : List ckG := [([(8, ckTop)], [], []), ([(70, ckTop)], [], []), ([(70, ckTop)], [], []), ([(70, ckTop)], [], []), ([(70, ckTop)], [], []), ([(10, ckTop)], [], [])]
-- FarMachine$Rules.isTrue
noncomputable def k251 : ckCtr := (172, ([(0, (1, 0)), (1, (0, 0)), (2, (1, 1))], [], dC457, [ckTop, (0, 10), (8, 8), (70, 70), (10, 10)], dG458, [], [], [], 0, 0), [([], [(0, 5)], [], [], [], [(1, 1)], [], [], [], [], 0, 0), ([], [(0, 5)], [], [], [(0, (0, 9))], [(0, 0)], [], [], [], [], 0, 0)], 3, 127, 0, 0)
noncomputable def k251_a : ckAs := [(9, [(97688, [(1, 0, 0, ([(0, (1, 0)), (1, (0, 0)), (2, (1, 1)), (3, (0, 5)), (4, (0, 7))], [], [], [], [], [(0, 2147483647)], [], [], [], [], 0, 0))])])]
noncomputable def k251_c : List (Nat × ckCtr) := [(2, k248), (24, k250)]
theorem k251_ok (l : Launch) : ckCtrOk l ckMT ckTW ckCL k251 := mt_172 (as := k251_a) (cs := k251_c) (gx := []) (f := 200000) rfl (ckHc (k248_ok l) (ckHc (k250_ok l) (fun _ h => absurd h List.not_mem_nil))) True.intro (by decide +kernel)
noncomputable def dC459 : List ckC := [.inl (8, [(1, 1), (4, 10), (0, 1), (4, 11), (4, 12), (4, 13), (1, 2), (1, 3)]), .inl (7, [(1, 4), (4, 14), (0, 2), (4, 15), (4, 16), (4, 17), (4, 18), (1, 5), (4, 19), (4, 20)]), .inr (0, 3, 0), .inr (0, 4, 1), .inl (2, [(4, 21), (1, 6), (4, 22), (0, 5), (0, 6), (0, 7), (0, 8), (0, 9), (0, 10), (0, 11), (0, 12), (0, 13), (0, 14), (0, 15), (0, 16), (0, 17)]), .inl (5, [(1, 7), (1, 8), (1, 9), (1, 10), (1, 11), (0, 18)]), .inr (0, 3, 2), .inr (0, 19, 3), .inr (0, 19, 4), .inr (0, 19, 5), .inr (0, 19, 6), .inr (0, 20, 7)]
noncomputable def dT460 : List ckI := [ckTop, (0, 1), (0, 1), (8, 8), (7, 7), ckTop, ckTop, ckTop, ckTop, ckTop, ckTop, ckTop, ckTop, ckTop, ckTop, ckTop, ckTop, ckTop, (0, 10), (70, 70), (10, 10)]
noncomputable def dG461 : List ckG := [([(8, ckTop)], [], []), ([(7, ckTop)], [], []), ([(8, ckTop)], [], []), ([(70, ckTop)], [], []), ([(70, ckTop)], [], []), ([(70, ckTop)], [], []), ([(70, ckTop)], [], []), ([(10, ckTop)], [], [])]
noncomputable def dG462 : List ckG := [([(1, ckTop), (2, ckTop), (3, ckTop), (4, ckTop), (5, ckTop), (6, ckTop), (7, ckTop), (8, ckTop)], [], []), ([(1, ckTop), (2, ckTop), (7, ckTop)], [], [])]
-- FarMachine.holds
noncomputable def k252 : ckCtr := (19, ([(0, (1, 0)), (1, (0, 0))], [], dC459, dT460, dG461, [], [], [], 0, 0), [([], [(0, 21)], [(2, .inr (0, 3, 8)), (3, .inr (0, 4, 9))], [], [], [(-1, 1)], dG462, [], [(21, 18, 0)], [], 0, 0)], 4, 151, 0, 0)
noncomputable def k252_a : ckAs := []
noncomputable def k252_c : List (Nat × ckCtr) := [(20, k14), (35, k247), (50, k251)]
theorem k252_ok (l : Launch) : ckCtrOk l ckMT ckTW ckCL k252 := mt_19 (as := k252_a) (cs := k252_c) (gx := []) (f := 200000) rfl (ckHc (k14_ok l) (ckHc (k247_ok l) (ckHc (k251_ok l) (fun _ h => absurd h List.not_mem_nil)))) True.intro (by decide +kernel)
-- FarMachineModel.isIn
noncomputable def k253 : ckCtr := (45, ([(0, (0, 0)), (1, (0, 1))], [], [], [ckTop, (0, 10)], [], [], [], [], 0, 0), [([], [(0, 2)], [], [], [(0, (0, 9)), (1, (1, 10))], [(1, 1)], [], [], [(0, 1, (-1))], [], 0, 0), ([], [(0, 2)], [], [], [(0, (0, 2147483647))], [(0, 0)], [], [], [(1, 0, 0)], [], 0, 0), ([], [(0, 2)], [], [], [(0, (-2147483648, -1))], [(0, 0)], [], [], [], [], 0, 0)], 1, 80, 0, 0)
noncomputable def k253_a : ckAs := []
noncomputable def k253_c : List (Nat × ckCtr) := []
theorem k253_ok (l : Launch) : ckCtrOk l ckMT ckTW ckCL k253 := mt_45 (as := k253_a) (cs := k253_c) (gx := []) (f := 200000) rfl (fun _ h => absurd h List.not_mem_nil) True.intro (by decide +kernel)
noncomputable def dC463 : List ckC := [.inl (9, [(4, 10), (4, 11), (4, 12), (4, 13), (4, 14), (4, 15), (4, 16), (4, 17), (4, 18), (4, 19), (4, 20), (4, 21), (4, 22), (4, 23), (1, 1), (4, 24), (0, 0), (0, 1), (0, 2), (0, 3), (0, 4), (0, 5), (0, 6), (4, 25), (0, 7), (4, 26), (0, 8), (0, 9), (0, 10), (0, 11), (4, 27), (0, 12), (0, 13), (0, 14), (0, 15), (1, 1), (4, 11), (0, 16), (4, 28), (4, 29), (0, 17), (0, 18)]), .inr (0, 19, 0)]
noncomputable def dT464 : List ckI := [(0, 1), (0, 1), (0, 8), (0, 40), (0, 6), (0, 8), (0, 10), (0, 130000), ckTop, ckTop, ckTop, ckTop, (0, 30), (0, 30), (0, 270), (0, 30), (0, 1), ckTop, (0, 1), (300, 300)]
-- FarMachineModel.sign
noncomputable def k254 : ckCtr := (83, ([(0, (1, 0))], [], dC463, dT464, [([(300, ckTop)], [], [])], [], [], [], 0, 0), [([], [(0, 20)], [], [], [], [(-1, -1)], [], [], [(15, 13, 0)], [], 0, 0), ([], [(0, 20)], [], [], [(13, (0, 29)), (15, (1, 30))], [ckTop], [], [], [(13, 15, (-1))], [], 0, 0)], 1, 80, 0, 0)
noncomputable def k254_a : ckAs := []
noncomputable def k254_c : List (Nat × ckCtr) := []
theorem k254_ok (l : Launch) : ckCtrOk l ckMT ckTW ckCL k254 := mt_83 (as := k254_a) (cs := k254_c) (gx := []) (f := 200000) rfl (fun _ h => absurd h List.not_mem_nil) True.intro (by decide +kernel)
noncomputable def dC465 : List ckC := [.inl (9, [(4, 10), (4, 11), (4, 12), (4, 13), (4, 14), (4, 15), (4, 16), (4, 17), (4, 18), (4, 19), (4, 20), (4, 21), (4, 22), (4, 23), (1, 1), (4, 24), (0, 1), (0, 2), (0, 3), (0, 4), (0, 5), (0, 6), (0, 7), (4, 25), (0, 8), (4, 26), (0, 9), (0, 10), (0, 11), (0, 12), (4, 27), (0, 13), (0, 14), (0, 15), (0, 16), (1, 1), (4, 11), (0, 17), (4, 28), (4, 29), (0, 18), (0, 19)]), .inr (0, 20, 0)]
noncomputable def dT466 : List ckI := [(33, 33), (0, 1), (0, 1), (0, 8), (0, 40), (0, 6), (0, 8), (0, 10), (0, 130000), ckTop, ckTop, ckTop, ckTop, (0, 30), (0, 30), (0, 270), (0, 30), (0, 1), ckTop, (0, 1), (300, 300)]
noncomputable def dP467 : List (Nat × ckC) := [(0, .inl (9, [(4, 10), (4, 11), (4, 12), (4, 13), (4, 14), (4, 15), (4, 16), (4, 17), (4, 18), (4, 19), (4, 20), (4, 21), (4, 22), (4, 23), (1, 1), (4, 24), (0, 1), (0, 2), (0, 3), (0, 4), (0, 5), (0, 6), (0, 7), (4, 25), (0, 8), (4, 26), (0, 9), (0, 10), (0, 11), (0, 12), (4, 27), (0, 13), (0, 22), (0, 15), (0, 16), (1, 1), (4, 11), (0, 17), (4, 28), (4, 29), (0, 18), (0, 19)]))]
-- FarMachineModel.takes
noncomputable def k255 : ckCtr := (84, ([(0, (1, 0)), (1, (0, 0))], [], dC465, dT466, [([(300, ckTop)], [], [])], [], [], [], 0, 0), [([], [(0, 21)], [], [], [], [(0, 0)], [], [], [], [], 0, 0), ([], [(0, 21)], dP467, [], [(14, (0, 29)), (16, (1, 30)), (17, (1, 1))], [(1, 1), (1, 30)], [], [], [(14, 16, (-1)), (14, 22, (-1)), (22, 14, 1), (22, 16, 0)], [], 0, 0)], 2, 100, 0, 0)
noncomputable def k255_a : ckAs := []
noncomputable def k255_c : List (Nat × ckCtr) := [(8, k254)]
theorem k255_ok (l : Launch) : ckCtrOk l ckMT ckTW ckCL k255 := mt_84 (as := k255_a) (cs := k255_c) (gx := []) (f := 200000) rfl (ckHc (k254_ok l) (fun _ h => absurd h List.not_mem_nil)) True.intro (by decide +kernel)
noncomputable def dC468 : List ckC := [.inl (9, [(4, 10), (1, 1), (4, 11), (4, 12), (4, 13), (4, 14), (4, 15), (4, 16), (4, 17), (4, 18), (4, 19), (4, 20), (4, 21), (4, 22), (4, 23), (4, 24), (0, 1), (0, 2), (0, 3), (0, 4), (0, 5), (0, 6), (0, 7), (4, 25), (0, 8), (4, 26), (0, 9), (0, 10), (0, 11), (0, 12), (4, 27), (0, 13), (0, 14), (0, 15), (0, 16), (4, 23), (1, 1), (0, 17), (4, 28), (4, 29), (0, 18), (0, 19)]), .inr (0, 20, 0)]
noncomputable def dT469 : List ckI := [(-1, -1), (0, 1), (0, 1), (0, 8), (0, 40), (0, 6), (0, 8), (0, 10), (0, 130000), ckTop, ckTop, ckTop, ckTop, (0, 30), (0, 30), (0, 270), (0, 30), (0, 1), ckTop, (0, 1), (318, 318), (1, 99), (0, 128000)]
noncomputable def dP470 : List (Nat × ckC) := [(0, .inl (9, [(4, 10), (1, 1), (4, 11), (4, 12), (4, 13), (4, 14), (4, 15), (4, 16), (4, 17), (4, 18), (4, 19), (4, 20), (4, 21), (4, 22), (4, 23), (4, 24), (0, 1), (0, 2), (0, 3), (0, 4), (0, 5), (0, 6), (0, 7), (4, 25), (0, 8), (4, 26), (0, 9), (0, 10), (0, 11), (0, 12), (4, 27), (0, 13), (0, 24), (0, 15), (0, 16), (4, 23), (1, 1), (0, 23), (4, 28), (4, 29), (0, 18), (0, 19)]))]
-- FarMachineModel.letter
noncomputable def k256 : ckCtr := (89, ([(0, (1, 0)), (1, (0, 0))], [], dC468, dT469, dG364, [], [], [(1, 0, 0, 0, [])], 0, 0), [([], [(0, 23)], dP470, [], [], [(0, 0), (0, 30)], [], [], [(14, 24, 0), (24, 14, 0)], [(1, 0, 0, 0, [])], 0, 0)], 1, 80, 0, 0)
noncomputable def k256_a : ckAs := []
noncomputable def k256_c : List (Nat × ckCtr) := []
theorem k256_ok (l : Launch) : ckCtrOk l ckMT ckTW ckCL k256 := mt_89 (as := k256_a) (cs := k256_c) (gx := []) (f := 200000) rfl (fun _ h => absurd h List.not_mem_nil) True.intro (by decide +kernel)
noncomputable def dT471 : List ckI := [ckTop, (0, 1), (0, 1), (0, 8), (0, 40), (0, 6), (0, 8), (0, 10), (0, 130000), ckTop, ckTop, ckTop, ckTop, (0, 30), (0, 29), (0, 270), (0, 30), (0, 1), ckTop, (0, 1), (318, 318), (1, 99), (0, 128000)]
noncomputable def dP472 : List (Nat × ckC) := [(0, .inl (9, [(4, 10), (1, 1), (4, 11), (4, 12), (4, 13), (4, 14), (4, 15), (4, 16), (4, 17), (4, 18), (4, 19), (4, 20), (4, 21), (4, 22), (4, 23), (4, 24), (0, 1), (0, 2), (0, 3), (0, 4), (0, 5), (0, 6), (0, 7), (4, 25), (0, 8), (4, 26), (0, 9), (0, 10), (0, 11), (0, 12), (4, 27), (0, 13), (0, 24), (0, 15), (0, 16), (4, 23), (1, 1), (0, 25), (4, 28), (4, 29), (0, 18), (0, 19)]))]
-- FarMachineModel.letter
noncomputable def k257 : ckCtr := (89, ([(0, (1, 0)), (1, (0, 0))], [], dC468, dT471, dG364, [], [], [(1, 0, 0, 0, [])], 0, 0), [([], [(0, 23)], dP472, [], [], [ckTop, (0, 30), (0, 1)], [], [], [(14, 24, 0), (24, 14, 1), (25, 17, 0), (25, 24, 0)], [(1, 0, 0, 0, [])], 0, 0)], 3, 122, 0, 0)
noncomputable def k257_a : ckAs := []
noncomputable def k257_c : List (Nat × ckCtr) := [(171, k53), (179, k54), (182, k64)]
theorem k257_ok (l : Launch) : ckCtrOk l ckMT ckTW ckCL k257 := mt_89 (as := k257_a) (cs := k257_c) (gx := []) (f := 200000) rfl (ckHc (k53_ok l) (ckHc (k54_ok l) (ckHc (k64_ok l) (fun _ h => absurd h List.not_mem_nil)))) True.intro (by decide +kernel)
noncomputable def dT473 : List ckI := [(0, 1), (0, 1), (0, 8), (0, 40), (0, 6), (0, 8), (0, 10), (0, 130000), ckTop, ckTop, ckTop, ckTop, (0, 30), (0, 29), (0, 270), (0, 30), (0, 1), ckTop, (0, 1), (300, 300)]
-- FarMachineModel.sign
noncomputable def k258 : ckCtr := (83, ([(0, (1, 0))], [], dC463, dT473, [([(300, ckTop)], [], [])], [], [], [], 0, 0), [([], [(0, 20)], [], [], [(15, (0, 29))], [(-1, -1)], [], [], [(15, 13, 0)], [], 0, 0), ([], [(0, 20)], [], [], [(15, (1, 30))], [ckTop], [], [], [(13, 15, (-1))], [], 0, 0)], 1, 80, 0, 0)
noncomputable def k258_a : ckAs := []
noncomputable def k258_c : List (Nat × ckCtr) := []
theorem k258_ok (l : Launch) : ckCtrOk l ckMT ckTW ckCL k258 := mt_83 (as := k258_a) (cs := k258_c) (gx := []) (f := 200000) rfl (fun _ h => absurd h List.not_mem_nil) True.intro (by decide +kernel)
noncomputable def dC474 : List ckC := [.inl (9, [(4, 10), (1, 1), (4, 11), (4, 12), (4, 13), (4, 14), (4, 15), (4, 16), (4, 17), (4, 18), (4, 19), (4, 20), (4, 21), (4, 22), (1, 2), (4, 23), (0, 0), (0, 1), (0, 2), (0, 3), (0, 4), (0, 5), (0, 6), (4, 24), (0, 7), (4, 25), (0, 8), (0, 9), (0, 10), (0, 11), (4, 26), (0, 12), (0, 13), (0, 14), (0, 15), (1, 2), (1, 1), (0, 16), (4, 27), (4, 28), (0, 17), (0, 18)]), .inr (0, 19, 0), .inr (0, 20, 1)]
noncomputable def dT475 : List ckI := [(0, 1), (0, 1), (0, 8), (0, 40), (0, 6), (0, 8), (0, 10), (0, 130000), ckTop, ckTop, ckTop, ckTop, (0, 30), (0, 30), (0, 270), (0, 30), (0, 1), ckTop, (0, 1), (318, 318), (300, 300), (1, 99), (0, 128000)]
noncomputable def dG476 : List ckG := [([(48, ckTop), (49, (0, 47)), (55, ckTop), (56, ckTop), (58, ckTop), (59, ckTop), (76, ckTop), (77, (0, 30)), (197, ckTop), (198, (0, 60)), (318, ckTop)], [(55, 21), (58, 22)], []), ([(300, ckTop)], [], [])]
noncomputable def dP477 : List (Nat × ckC) := [(0, .inl (9, [(4, 10), (1, 1), (4, 11), (4, 12), (4, 13), (4, 14), (4, 15), (4, 16), (4, 17), (4, 18), (4, 19), (4, 20), (4, 21), (4, 22), (1, 2), (4, 23), (0, 0), (0, 1), (0, 2), (0, 3), (0, 4), (0, 5), (0, 6), (4, 24), (0, 7), (4, 25), (0, 8), (0, 9), (0, 10), (0, 11), (4, 26), (0, 12), (0, 24), (0, 14), (0, 15), (1, 2), (1, 1), (0, 25), (4, 27), (4, 28), (0, 17), (0, 18)]))]
noncomputable def dP478 : List (Nat × ckC) := [(0, .inl (9, [(4, 10), (1, 1), (4, 11), (4, 12), (4, 13), (4, 14), (4, 15), (4, 16), (4, 17), (4, 18), (4, 19), (4, 20), (4, 21), (4, 22), (1, 2), (4, 23), (0, 0), (0, 1), (0, 2), (0, 3), (0, 4), (0, 5), (0, 6), (4, 24), (0, 7), (4, 25), (0, 8), (0, 9), (0, 10), (0, 11), (4, 26), (0, 12), (0, 31), (0, 14), (0, 15), (1, 2), (1, 1), (0, 16), (4, 27), (4, 28), (0, 17), (0, 18)]))]
noncomputable def dP479 : List (Nat × ckC) := [(0, .inl (9, [(4, 10), (1, 1), (4, 11), (4, 12), (4, 13), (4, 14), (4, 15), (4, 16), (4, 17), (4, 18), (4, 19), (4, 20), (4, 21), (4, 22), (1, 2), (4, 23), (0, 0), (0, 1), (0, 2), (0, 3), (0, 4), (0, 5), (0, 6), (4, 24), (0, 7), (4, 25), (0, 8), (0, 9), (0, 10), (0, 11), (4, 26), (0, 12), (0, 32), (0, 14), (0, 15), (1, 2), (1, 1), (0, 16), (4, 27), (4, 28), (0, 17), (0, 18)]))]
-- FarMachineModel.unit
noncomputable def k259 : ckCtr := (88, ([(0, (1, 0))], [], dC474, dT475, dG476, [], [], [(1, 0, 0, 0, [])], 0, 0), [([], [(0, 23)], dP477, [], [], [ckTop, (0, 30), (0, 1)], [], [], [(13, 24, 0), (25, 15, 0), (25, 16, 0), (25, 24, 0)], [(1, 0, 0, 0, [])], 0, 0)], 4, 143, 0, 0)
noncomputable def k259_a : ckAs := [(53, [(622232, [(1, 0, 1, ([(0, (1, 0)), (1, (0, 23)), (2, (0, 29)), (3, (0, 30))], [], dP478, [], [], [ckTop, (0, 3), (0, 30)], [], [], dZ374, [(1, 0, 0, 0, [])], 0, 0))]), (746020, [(1, 0, 1, ([(0, (1, 0)), (1, (0, 23)), (2, (0, 30)), (3, (0, 31))], [], dP479, [], [], [ckTop, (0, 3), (1, 30)], [], [], dZ376, [(1, 0, 0, 0, [])], 0, 0))])])]
noncomputable def k259_c : List (Nat × ckCtr) := [(10, k254), (21, k207), (29, k256), (29, k257), (59, k254), (62, k207), (73, k258)]
theorem k259_ok (l : Launch) : ckCtrOk l ckMT ckTW ckCL k259 := mt_88 (as := k259_a) (cs := k259_c) (gx := []) (f := 200000) rfl (ckHc (k254_ok l) (ckHc (k207_ok l) (ckHc (k256_ok l) (ckHc (k257_ok l) (ckHc (k254_ok l) (ckHc (k207_ok l) (ckHc (k258_ok l) (fun _ h => absurd h List.not_mem_nil)))))))) True.intro (by decide +kernel)
noncomputable def dT480 : List ckI := [(0, 1), (0, 1), (0, 8), (0, 40), (0, 6), (0, 8), (0, 10), (0, 130000), ckTop, ckTop, ckTop, ckTop, (0, 30), (30, 30), (0, 270), (0, 30), (0, 1), ckTop, (0, 1), (318, 318), (300, 300), (1, 99), (0, 128000)]
noncomputable def dP481 : List (Nat × ckC) := [(0, .inl (9, [(4, 10), (1, 1), (4, 11), (4, 12), (4, 13), (4, 14), (4, 15), (4, 16), (4, 17), (4, 18), (4, 19), (4, 20), (4, 21), (4, 22), (1, 2), (4, 23), (0, 0), (0, 1), (0, 2), (0, 3), (0, 4), (0, 5), (0, 6), (4, 24), (0, 7), (4, 25), (0, 8), (0, 9), (0, 10), (0, 11), (4, 26), (0, 12), (0, 13), (0, 14), (0, 15), (1, 2), (1, 1), (0, 23), (4, 27), (4, 28), (0, 17), (0, 18)]))]
-- FarMachineModel.test
noncomputable def k260 : ckCtr := (86, ([(0, (1, 0))], [], dC474, dT480, dG476, [], [], [(1, 0, 0, 0, [])], 0, 0), [([], [(0, 23)], dP481, [], [], [(0, 0)], [], [], [], [(1, 0, 0, 0, [])], 0, 0)], 5, 166, 0, 0)
noncomputable def k260_a : ckAs := []
noncomputable def k260_c : List (Nat × ckCtr) := [(3, k255), (23, k259), (28, k254)]
theorem k260_ok (l : Launch) : ckCtrOk l ckMT ckTW ckCL k260 := mt_86 (as := k260_a) (cs := k260_c) (gx := []) (f := 200000) rfl (ckHc (k255_ok l) (ckHc (k259_ok l) (ckHc (k254_ok l) (fun _ h => absurd h List.not_mem_nil)))) True.intro (by decide +kernel)
noncomputable def dT482 : List ckI := [(0, 1), (0, 1), (0, 8), (0, 40), (0, 6), (0, 8), (0, 10), (0, 130000), ckTop, ckTop, ckTop, ckTop, (0, 30), (29, 30), (0, 270), (0, 30), (0, 1), ckTop, (0, 1), (318, 318), (300, 300), (1, 99), (0, 128000)]
-- FarMachineModel.test
noncomputable def k261 : ckCtr := (86, ([(0, (1, 0))], [], dC474, dT482, dG476, [], [], [(1, 0, 0, 0, [])], 0, 0), [([], [(0, 23)], dP477, [], [], [(0, 1), (29, 30), (0, 1)], [], [], dZ380, [(1, 0, 0, 0, [])], 0, 0)], 6, 189, 0, 0)
noncomputable def k261_a : ckAs := []
noncomputable def k261_c : List (Nat × ckCtr) := [(3, k255), (10, k260), (23, k259), (28, k254), (75, k259)]
theorem k261_ok (l : Launch) : ckCtrOk l ckMT ckTW ckCL k261 := mt_86 (as := k261_a) (cs := k261_c) (gx := []) (f := 200000) rfl (ckHc (k255_ok l) (ckHc (k260_ok l) (ckHc (k259_ok l) (ckHc (k254_ok l) (ckHc (k259_ok l) (fun _ h => absurd h List.not_mem_nil)))))) True.intro (by decide +kernel)
noncomputable def dT483 : List ckI := [(0, 1), (0, 1), (0, 8), (0, 40), (0, 6), (0, 8), (0, 10), (0, 130000), ckTop, ckTop, ckTop, ckTop, (0, 30), (28, 30), (0, 270), (0, 30), (0, 1), ckTop, (0, 1), (318, 318), (300, 300), (1, 99), (0, 128000)]
-- FarMachineModel.test
noncomputable def k262 : ckCtr := (86, ([(0, (1, 0))], [], dC474, dT483, dG476, [], [], [(1, 0, 0, 0, [])], 0, 0), [([], [(0, 23)], dP477, [], [], [(0, 1), (28, 30), (0, 1)], [], [], dZ382, [(1, 0, 0, 0, [])], 0, 0)], 7, 212, 0, 0)
noncomputable def k262_a : ckAs := []
noncomputable def k262_c : List (Nat × ckCtr) := [(3, k255), (10, k261), (23, k259), (28, k254), (75, k259)]
theorem k262_ok (l : Launch) : ckCtrOk l ckMT ckTW ckCL k262 := mt_86 (as := k262_a) (cs := k262_c) (gx := []) (f := 200000) rfl (ckHc (k255_ok l) (ckHc (k261_ok l) (ckHc (k259_ok l) (ckHc (k254_ok l) (ckHc (k259_ok l) (fun _ h => absurd h List.not_mem_nil)))))) True.intro (by decide +kernel)
noncomputable def dT484 : List ckI := [(0, 1), (0, 1), (0, 8), (0, 40), (0, 6), (0, 8), (0, 10), (0, 130000), ckTop, ckTop, ckTop, ckTop, (0, 30), (27, 30), (0, 270), (0, 30), (0, 1), ckTop, (0, 1), (318, 318), (300, 300), (1, 99), (0, 128000)]
-- FarMachineModel.test
noncomputable def k263 : ckCtr := (86, ([(0, (1, 0))], [], dC474, dT484, dG476, [], [], [(1, 0, 0, 0, [])], 0, 0), [([], [(0, 23)], dP477, [], [], [(0, 1), (27, 30), (0, 1)], [], [], dZ384, [(1, 0, 0, 0, [])], 0, 0)], 8, 235, 0, 0)
noncomputable def k263_a : ckAs := []
noncomputable def k263_c : List (Nat × ckCtr) := [(3, k255), (10, k262), (23, k259), (28, k254), (75, k259)]
theorem k263_ok (l : Launch) : ckCtrOk l ckMT ckTW ckCL k263 := mt_86 (as := k263_a) (cs := k263_c) (gx := []) (f := 200000) rfl (ckHc (k255_ok l) (ckHc (k262_ok l) (ckHc (k259_ok l) (ckHc (k254_ok l) (ckHc (k259_ok l) (fun _ h => absurd h List.not_mem_nil)))))) True.intro (by decide +kernel)
noncomputable def dT485 : List ckI := [(0, 1), (0, 1), (0, 8), (0, 40), (0, 6), (0, 8), (0, 10), (0, 130000), ckTop, ckTop, ckTop, ckTop, (0, 30), (26, 30), (0, 270), (0, 30), (0, 1), ckTop, (0, 1), (318, 318), (300, 300), (1, 99), (0, 128000)]
-- FarMachineModel.test
noncomputable def k264 : ckCtr := (86, ([(0, (1, 0))], [], dC474, dT485, dG476, [], [], [(1, 0, 0, 0, [])], 0, 0), [([], [(0, 23)], dP477, [], [], [(0, 1), (26, 30), (0, 1)], [], [], dZ386, [(1, 0, 0, 0, [])], 0, 0)], 9, 258, 0, 0)
noncomputable def k264_a : ckAs := []
noncomputable def k264_c : List (Nat × ckCtr) := [(3, k255), (10, k263), (23, k259), (28, k254), (75, k259)]
theorem k264_ok (l : Launch) : ckCtrOk l ckMT ckTW ckCL k264 := mt_86 (as := k264_a) (cs := k264_c) (gx := []) (f := 200000) rfl (ckHc (k255_ok l) (ckHc (k263_ok l) (ckHc (k259_ok l) (ckHc (k254_ok l) (ckHc (k259_ok l) (fun _ h => absurd h List.not_mem_nil)))))) True.intro (by decide +kernel)
noncomputable def dT486 : List ckI := [(0, 1), (0, 1), (0, 8), (0, 40), (0, 6), (0, 8), (0, 10), (0, 130000), ckTop, ckTop, ckTop, ckTop, (0, 30), (25, 30), (0, 270), (0, 30), (0, 1), ckTop, (0, 1), (318, 318), (300, 300), (1, 99), (0, 128000)]
-- FarMachineModel.test
noncomputable def k265 : ckCtr := (86, ([(0, (1, 0))], [], dC474, dT486, dG476, [], [], [(1, 0, 0, 0, [])], 0, 0), [([], [(0, 23)], dP477, [], [], [(0, 1), (25, 30), (0, 1)], [], [], dZ388, [(1, 0, 0, 0, [])], 0, 0)], 10, 281, 0, 0)
noncomputable def k265_a : ckAs := []
noncomputable def k265_c : List (Nat × ckCtr) := [(3, k255), (10, k264), (23, k259), (28, k254), (75, k259)]
theorem k265_ok (l : Launch) : ckCtrOk l ckMT ckTW ckCL k265 := mt_86 (as := k265_a) (cs := k265_c) (gx := []) (f := 200000) rfl (ckHc (k255_ok l) (ckHc (k264_ok l) (ckHc (k259_ok l) (ckHc (k254_ok l) (ckHc (k259_ok l) (fun _ h => absurd h List.not_mem_nil)))))) True.intro (by decide +kernel)
noncomputable def dT487 : List ckI := [(0, 1), (0, 1), (0, 8), (0, 40), (0, 6), (0, 8), (0, 10), (0, 130000), ckTop, ckTop, ckTop, ckTop, (0, 30), (24, 30), (0, 270), (0, 30), (0, 1), ckTop, (0, 1), (318, 318), (300, 300), (1, 99), (0, 128000)]
-- FarMachineModel.test
noncomputable def k266 : ckCtr := (86, ([(0, (1, 0))], [], dC474, dT487, dG476, [], [], [(1, 0, 0, 0, [])], 0, 0), [([], [(0, 23)], dP477, [], [], [(0, 1), (24, 30), (0, 1)], [], [], dZ390, [(1, 0, 0, 0, [])], 0, 0)], 11, 304, 0, 0)
noncomputable def k266_a : ckAs := []
noncomputable def k266_c : List (Nat × ckCtr) := [(3, k255), (10, k265), (23, k259), (28, k254), (75, k259)]
theorem k266_ok (l : Launch) : ckCtrOk l ckMT ckTW ckCL k266 := mt_86 (as := k266_a) (cs := k266_c) (gx := []) (f := 200000) rfl (ckHc (k255_ok l) (ckHc (k265_ok l) (ckHc (k259_ok l) (ckHc (k254_ok l) (ckHc (k259_ok l) (fun _ h => absurd h List.not_mem_nil)))))) True.intro (by decide +kernel)
noncomputable def dT488 : List ckI := [(0, 1), (0, 1), (0, 8), (0, 40), (0, 6), (0, 8), (0, 10), (0, 130000), ckTop, ckTop, ckTop, ckTop, (0, 30), (23, 30), (0, 270), (0, 30), (0, 1), ckTop, (0, 1), (318, 318), (300, 300), (1, 99), (0, 128000)]
-- FarMachineModel.test
noncomputable def k267 : ckCtr := (86, ([(0, (1, 0))], [], dC474, dT488, dG476, [], [], [(1, 0, 0, 0, [])], 0, 0), [([], [(0, 23)], dP477, [], [], [(0, 1), (23, 30), (0, 1)], [], [], dZ392, [(1, 0, 0, 0, [])], 0, 0)], 12, 327, 0, 0)
noncomputable def k267_a : ckAs := []
noncomputable def k267_c : List (Nat × ckCtr) := [(3, k255), (10, k266), (23, k259), (28, k254), (75, k259)]
theorem k267_ok (l : Launch) : ckCtrOk l ckMT ckTW ckCL k267 := mt_86 (as := k267_a) (cs := k267_c) (gx := []) (f := 200000) rfl (ckHc (k255_ok l) (ckHc (k266_ok l) (ckHc (k259_ok l) (ckHc (k254_ok l) (ckHc (k259_ok l) (fun _ h => absurd h List.not_mem_nil)))))) True.intro (by decide +kernel)
noncomputable def dT489 : List ckI := [(0, 1), (0, 1), (0, 8), (0, 40), (0, 6), (0, 8), (0, 10), (0, 130000), ckTop, ckTop, ckTop, ckTop, (0, 30), (22, 30), (0, 270), (0, 30), (0, 1), ckTop, (0, 1), (318, 318), (300, 300), (1, 99), (0, 128000)]
-- FarMachineModel.test
noncomputable def k268 : ckCtr := (86, ([(0, (1, 0))], [], dC474, dT489, dG476, [], [], [(1, 0, 0, 0, [])], 0, 0), [([], [(0, 23)], dP477, [], [], [(0, 1), (22, 30), (0, 1)], [], [], dZ394, [(1, 0, 0, 0, [])], 0, 0)], 13, 350, 0, 0)
noncomputable def k268_a : ckAs := []
noncomputable def k268_c : List (Nat × ckCtr) := [(3, k255), (10, k267), (23, k259), (28, k254), (75, k259)]
theorem k268_ok (l : Launch) : ckCtrOk l ckMT ckTW ckCL k268 := mt_86 (as := k268_a) (cs := k268_c) (gx := []) (f := 200000) rfl (ckHc (k255_ok l) (ckHc (k267_ok l) (ckHc (k259_ok l) (ckHc (k254_ok l) (ckHc (k259_ok l) (fun _ h => absurd h List.not_mem_nil)))))) True.intro (by decide +kernel)
noncomputable def dT490 : List ckI := [(0, 1), (0, 1), (0, 8), (0, 40), (0, 6), (0, 8), (0, 10), (0, 130000), ckTop, ckTop, ckTop, ckTop, (0, 30), (21, 30), (0, 270), (0, 30), (0, 1), ckTop, (0, 1), (318, 318), (300, 300), (1, 99), (0, 128000)]
-- FarMachineModel.test
noncomputable def k269 : ckCtr := (86, ([(0, (1, 0))], [], dC474, dT490, dG476, [], [], [(1, 0, 0, 0, [])], 0, 0), [([], [(0, 23)], dP477, [], [], [(0, 1), (21, 30), (0, 1)], [], [], dZ396, [(1, 0, 0, 0, [])], 0, 0)], 14, 373, 0, 0)
noncomputable def k269_a : ckAs := []
noncomputable def k269_c : List (Nat × ckCtr) := [(3, k255), (10, k268), (23, k259), (28, k254), (75, k259)]
theorem k269_ok (l : Launch) : ckCtrOk l ckMT ckTW ckCL k269 := mt_86 (as := k269_a) (cs := k269_c) (gx := []) (f := 200000) rfl (ckHc (k255_ok l) (ckHc (k268_ok l) (ckHc (k259_ok l) (ckHc (k254_ok l) (ckHc (k259_ok l) (fun _ h => absurd h List.not_mem_nil)))))) True.intro (by decide +kernel)
noncomputable def dT491 : List ckI := [(0, 1), (0, 1), (0, 8), (0, 40), (0, 6), (0, 8), (0, 10), (0, 130000), ckTop, ckTop, ckTop, ckTop, (0, 30), (20, 30), (0, 270), (0, 30), (0, 1), ckTop, (0, 1), (318, 318), (300, 300), (1, 99), (0, 128000)]
-- FarMachineModel.test
noncomputable def k270 : ckCtr := (86, ([(0, (1, 0))], [], dC474, dT491, dG476, [], [], [(1, 0, 0, 0, [])], 0, 0), [([], [(0, 23)], dP477, [], [], [(0, 1), (20, 30), (0, 1)], [], [], dZ398, [(1, 0, 0, 0, [])], 0, 0)], 15, 396, 0, 0)
noncomputable def k270_a : ckAs := []
noncomputable def k270_c : List (Nat × ckCtr) := [(3, k255), (10, k269), (23, k259), (28, k254), (75, k259)]
theorem k270_ok (l : Launch) : ckCtrOk l ckMT ckTW ckCL k270 := mt_86 (as := k270_a) (cs := k270_c) (gx := []) (f := 200000) rfl (ckHc (k255_ok l) (ckHc (k269_ok l) (ckHc (k259_ok l) (ckHc (k254_ok l) (ckHc (k259_ok l) (fun _ h => absurd h List.not_mem_nil)))))) True.intro (by decide +kernel)
noncomputable def dT492 : List ckI := [(0, 1), (0, 1), (0, 8), (0, 40), (0, 6), (0, 8), (0, 10), (0, 130000), ckTop, ckTop, ckTop, ckTop, (0, 30), (19, 30), (0, 270), (0, 30), (0, 1), ckTop, (0, 1), (318, 318), (300, 300), (1, 99), (0, 128000)]
-- FarMachineModel.test
noncomputable def k271 : ckCtr := (86, ([(0, (1, 0))], [], dC474, dT492, dG476, [], [], [(1, 0, 0, 0, [])], 0, 0), [([], [(0, 23)], dP477, [], [], [(0, 1), (19, 30), (0, 1)], [], [], dZ400, [(1, 0, 0, 0, [])], 0, 0)], 16, 419, 0, 0)
noncomputable def k271_a : ckAs := []
noncomputable def k271_c : List (Nat × ckCtr) := [(3, k255), (10, k270), (23, k259), (28, k254), (75, k259)]
theorem k271_ok (l : Launch) : ckCtrOk l ckMT ckTW ckCL k271 := mt_86 (as := k271_a) (cs := k271_c) (gx := []) (f := 200000) rfl (ckHc (k255_ok l) (ckHc (k270_ok l) (ckHc (k259_ok l) (ckHc (k254_ok l) (ckHc (k259_ok l) (fun _ h => absurd h List.not_mem_nil)))))) True.intro (by decide +kernel)
noncomputable def dT493 : List ckI := [(0, 1), (0, 1), (0, 8), (0, 40), (0, 6), (0, 8), (0, 10), (0, 130000), ckTop, ckTop, ckTop, ckTop, (0, 30), (18, 30), (0, 270), (0, 30), (0, 1), ckTop, (0, 1), (318, 318), (300, 300), (1, 99), (0, 128000)]
-- FarMachineModel.test
noncomputable def k272 : ckCtr := (86, ([(0, (1, 0))], [], dC474, dT493, dG476, [], [], [(1, 0, 0, 0, [])], 0, 0), [([], [(0, 23)], dP477, [], [], [(0, 1), (18, 30), (0, 1)], [], [], dZ402, [(1, 0, 0, 0, [])], 0, 0)], 17, 442, 0, 0)
noncomputable def k272_a : ckAs := []
noncomputable def k272_c : List (Nat × ckCtr) := [(3, k255), (10, k271), (23, k259), (28, k254), (75, k259)]
theorem k272_ok (l : Launch) : ckCtrOk l ckMT ckTW ckCL k272 := mt_86 (as := k272_a) (cs := k272_c) (gx := []) (f := 200000) rfl (ckHc (k255_ok l) (ckHc (k271_ok l) (ckHc (k259_ok l) (ckHc (k254_ok l) (ckHc (k259_ok l) (fun _ h => absurd h List.not_mem_nil)))))) True.intro (by decide +kernel)
noncomputable def dT494 : List ckI := [(0, 1), (0, 1), (0, 8), (0, 40), (0, 6), (0, 8), (0, 10), (0, 130000), ckTop, ckTop, ckTop, ckTop, (0, 30), (17, 30), (0, 270), (0, 30), (0, 1), ckTop, (0, 1), (318, 318), (300, 300), (1, 99), (0, 128000)]
-- FarMachineModel.test
noncomputable def k273 : ckCtr := (86, ([(0, (1, 0))], [], dC474, dT494, dG476, [], [], [(1, 0, 0, 0, [])], 0, 0), [([], [(0, 23)], dP477, [], [], [(0, 1), (17, 30), (0, 1)], [], [], dZ404, [(1, 0, 0, 0, [])], 0, 0)], 18, 465, 0, 0)
noncomputable def k273_a : ckAs := []
noncomputable def k273_c : List (Nat × ckCtr) := [(3, k255), (10, k272), (23, k259), (28, k254), (75, k259)]
theorem k273_ok (l : Launch) : ckCtrOk l ckMT ckTW ckCL k273 := mt_86 (as := k273_a) (cs := k273_c) (gx := []) (f := 200000) rfl (ckHc (k255_ok l) (ckHc (k272_ok l) (ckHc (k259_ok l) (ckHc (k254_ok l) (ckHc (k259_ok l) (fun _ h => absurd h List.not_mem_nil)))))) True.intro (by decide +kernel)
noncomputable def dT495 : List ckI := [(0, 1), (0, 1), (0, 8), (0, 40), (0, 6), (0, 8), (0, 10), (0, 130000), ckTop, ckTop, ckTop, ckTop, (0, 30), (16, 30), (0, 270), (0, 30), (0, 1), ckTop, (0, 1), (318, 318), (300, 300), (1, 99), (0, 128000)]
-- FarMachineModel.test
noncomputable def k274 : ckCtr := (86, ([(0, (1, 0))], [], dC474, dT495, dG476, [], [], [(1, 0, 0, 0, [])], 0, 0), [([], [(0, 23)], dP477, [], [], [(0, 1), (16, 30), (0, 1)], [], [], dZ406, [(1, 0, 0, 0, [])], 0, 0)], 19, 488, 0, 0)
noncomputable def k274_a : ckAs := []
noncomputable def k274_c : List (Nat × ckCtr) := [(3, k255), (10, k273), (23, k259), (28, k254), (75, k259)]
theorem k274_ok (l : Launch) : ckCtrOk l ckMT ckTW ckCL k274 := mt_86 (as := k274_a) (cs := k274_c) (gx := []) (f := 200000) rfl (ckHc (k255_ok l) (ckHc (k273_ok l) (ckHc (k259_ok l) (ckHc (k254_ok l) (ckHc (k259_ok l) (fun _ h => absurd h List.not_mem_nil)))))) True.intro (by decide +kernel)
noncomputable def dT496 : List ckI := [(0, 1), (0, 1), (0, 8), (0, 40), (0, 6), (0, 8), (0, 10), (0, 130000), ckTop, ckTop, ckTop, ckTop, (0, 30), (15, 30), (0, 270), (0, 30), (0, 1), ckTop, (0, 1), (318, 318), (300, 300), (1, 99), (0, 128000)]
-- FarMachineModel.test
noncomputable def k275 : ckCtr := (86, ([(0, (1, 0))], [], dC474, dT496, dG476, [], [], [(1, 0, 0, 0, [])], 0, 0), [([], [(0, 23)], dP477, [], [], [(0, 1), (15, 30), (0, 1)], [], [], dZ408, [(1, 0, 0, 0, [])], 0, 0)], 20, 511, 0, 0)
noncomputable def k275_a : ckAs := []
noncomputable def k275_c : List (Nat × ckCtr) := [(3, k255), (10, k274), (23, k259), (28, k254), (75, k259)]
theorem k275_ok (l : Launch) : ckCtrOk l ckMT ckTW ckCL k275 := mt_86 (as := k275_a) (cs := k275_c) (gx := []) (f := 200000) rfl (ckHc (k255_ok l) (ckHc (k274_ok l) (ckHc (k259_ok l) (ckHc (k254_ok l) (ckHc (k259_ok l) (fun _ h => absurd h List.not_mem_nil)))))) True.intro (by decide +kernel)
noncomputable def dT497 : List ckI := [(0, 1), (0, 1), (0, 8), (0, 40), (0, 6), (0, 8), (0, 10), (0, 130000), ckTop, ckTop, ckTop, ckTop, (0, 30), (14, 30), (0, 270), (0, 30), (0, 1), ckTop, (0, 1), (318, 318), (300, 300), (1, 99), (0, 128000)]
-- FarMachineModel.test
noncomputable def k276 : ckCtr := (86, ([(0, (1, 0))], [], dC474, dT497, dG476, [], [], [(1, 0, 0, 0, [])], 0, 0), [([], [(0, 23)], dP477, [], [], [(0, 1), (14, 30), (0, 1)], [], [], dZ410, [(1, 0, 0, 0, [])], 0, 0)], 21, 534, 0, 0)
noncomputable def k276_a : ckAs := []
noncomputable def k276_c : List (Nat × ckCtr) := [(3, k255), (10, k275), (23, k259), (28, k254), (75, k259)]
theorem k276_ok (l : Launch) : ckCtrOk l ckMT ckTW ckCL k276 := mt_86 (as := k276_a) (cs := k276_c) (gx := []) (f := 200000) rfl (ckHc (k255_ok l) (ckHc (k275_ok l) (ckHc (k259_ok l) (ckHc (k254_ok l) (ckHc (k259_ok l) (fun _ h => absurd h List.not_mem_nil)))))) True.intro (by decide +kernel)
noncomputable def dT498 : List ckI := [(0, 1), (0, 1), (0, 8), (0, 40), (0, 6), (0, 8), (0, 10), (0, 130000), ckTop, ckTop, ckTop, ckTop, (0, 30), (13, 30), (0, 270), (0, 30), (0, 1), ckTop, (0, 1), (318, 318), (300, 300), (1, 99), (0, 128000)]
-- FarMachineModel.test
noncomputable def k277 : ckCtr := (86, ([(0, (1, 0))], [], dC474, dT498, dG476, [], [], [(1, 0, 0, 0, [])], 0, 0), [([], [(0, 23)], dP477, [], [], [(0, 1), (13, 30), (0, 1)], [], [], dZ412, [(1, 0, 0, 0, [])], 0, 0)], 22, 557, 0, 0)
noncomputable def k277_a : ckAs := []
noncomputable def k277_c : List (Nat × ckCtr) := [(3, k255), (10, k276), (23, k259), (28, k254), (75, k259)]
theorem k277_ok (l : Launch) : ckCtrOk l ckMT ckTW ckCL k277 := mt_86 (as := k277_a) (cs := k277_c) (gx := []) (f := 200000) rfl (ckHc (k255_ok l) (ckHc (k276_ok l) (ckHc (k259_ok l) (ckHc (k254_ok l) (ckHc (k259_ok l) (fun _ h => absurd h List.not_mem_nil)))))) True.intro (by decide +kernel)
noncomputable def dT499 : List ckI := [(0, 1), (0, 1), (0, 8), (0, 40), (0, 6), (0, 8), (0, 10), (0, 130000), ckTop, ckTop, ckTop, ckTop, (0, 30), (12, 30), (0, 270), (0, 30), (0, 1), ckTop, (0, 1), (318, 318), (300, 300), (1, 99), (0, 128000)]
-- FarMachineModel.test
noncomputable def k278 : ckCtr := (86, ([(0, (1, 0))], [], dC474, dT499, dG476, [], [], [(1, 0, 0, 0, [])], 0, 0), [([], [(0, 23)], dP477, [], [], [(0, 1), (12, 30), (0, 1)], [], [], dZ414, [(1, 0, 0, 0, [])], 0, 0)], 23, 580, 0, 0)
noncomputable def k278_a : ckAs := []
noncomputable def k278_c : List (Nat × ckCtr) := [(3, k255), (10, k277), (23, k259), (28, k254), (75, k259)]
theorem k278_ok (l : Launch) : ckCtrOk l ckMT ckTW ckCL k278 := mt_86 (as := k278_a) (cs := k278_c) (gx := []) (f := 200000) rfl (ckHc (k255_ok l) (ckHc (k277_ok l) (ckHc (k259_ok l) (ckHc (k254_ok l) (ckHc (k259_ok l) (fun _ h => absurd h List.not_mem_nil)))))) True.intro (by decide +kernel)
noncomputable def dT500 : List ckI := [(0, 1), (0, 1), (0, 8), (0, 40), (0, 6), (0, 8), (0, 10), (0, 130000), ckTop, ckTop, ckTop, ckTop, (0, 30), (11, 30), (0, 270), (0, 30), (0, 1), ckTop, (0, 1), (318, 318), (300, 300), (1, 99), (0, 128000)]
-- FarMachineModel.test
noncomputable def k279 : ckCtr := (86, ([(0, (1, 0))], [], dC474, dT500, dG476, [], [], [(1, 0, 0, 0, [])], 0, 0), [([], [(0, 23)], dP477, [], [], [(0, 1), (11, 30), (0, 1)], [], [], dZ416, [(1, 0, 0, 0, [])], 0, 0)], 24, 603, 0, 0)
noncomputable def k279_a : ckAs := []
noncomputable def k279_c : List (Nat × ckCtr) := [(3, k255), (10, k278), (23, k259), (28, k254), (75, k259)]
theorem k279_ok (l : Launch) : ckCtrOk l ckMT ckTW ckCL k279 := mt_86 (as := k279_a) (cs := k279_c) (gx := []) (f := 200000) rfl (ckHc (k255_ok l) (ckHc (k278_ok l) (ckHc (k259_ok l) (ckHc (k254_ok l) (ckHc (k259_ok l) (fun _ h => absurd h List.not_mem_nil)))))) True.intro (by decide +kernel)
noncomputable def dT501 : List ckI := [(0, 1), (0, 1), (0, 8), (0, 40), (0, 6), (0, 8), (0, 10), (0, 130000), ckTop, ckTop, ckTop, ckTop, (0, 30), (10, 30), (0, 270), (0, 30), (0, 1), ckTop, (0, 1), (318, 318), (300, 300), (1, 99), (0, 128000)]
-- FarMachineModel.test
noncomputable def k280 : ckCtr := (86, ([(0, (1, 0))], [], dC474, dT501, dG476, [], [], [(1, 0, 0, 0, [])], 0, 0), [([], [(0, 23)], dP477, [], [], [(0, 1), (10, 30), (0, 1)], [], [], dZ418, [(1, 0, 0, 0, [])], 0, 0)], 25, 626, 0, 0)
noncomputable def k280_a : ckAs := []
noncomputable def k280_c : List (Nat × ckCtr) := [(3, k255), (10, k279), (23, k259), (28, k254), (75, k259)]
theorem k280_ok (l : Launch) : ckCtrOk l ckMT ckTW ckCL k280 := mt_86 (as := k280_a) (cs := k280_c) (gx := []) (f := 200000) rfl (ckHc (k255_ok l) (ckHc (k279_ok l) (ckHc (k259_ok l) (ckHc (k254_ok l) (ckHc (k259_ok l) (fun _ h => absurd h List.not_mem_nil)))))) True.intro (by decide +kernel)
noncomputable def dT502 : List ckI := [(0, 1), (0, 1), (0, 8), (0, 40), (0, 6), (0, 8), (0, 10), (0, 130000), ckTop, ckTop, ckTop, ckTop, (0, 30), (9, 30), (0, 270), (0, 30), (0, 1), ckTop, (0, 1), (318, 318), (300, 300), (1, 99), (0, 128000)]
-- FarMachineModel.test
noncomputable def k281 : ckCtr := (86, ([(0, (1, 0))], [], dC474, dT502, dG476, [], [], [(1, 0, 0, 0, [])], 0, 0), [([], [(0, 23)], dP477, [], [], [(0, 1), (9, 30), (0, 1)], [], [], dZ420, [(1, 0, 0, 0, [])], 0, 0)], 26, 649, 0, 0)
noncomputable def k281_a : ckAs := []
noncomputable def k281_c : List (Nat × ckCtr) := [(3, k255), (10, k280), (23, k259), (28, k254), (75, k259)]
theorem k281_ok (l : Launch) : ckCtrOk l ckMT ckTW ckCL k281 := mt_86 (as := k281_a) (cs := k281_c) (gx := []) (f := 200000) rfl (ckHc (k255_ok l) (ckHc (k280_ok l) (ckHc (k259_ok l) (ckHc (k254_ok l) (ckHc (k259_ok l) (fun _ h => absurd h List.not_mem_nil)))))) True.intro (by decide +kernel)
noncomputable def dT503 : List ckI := [(0, 1), (0, 1), (0, 8), (0, 40), (0, 6), (0, 8), (0, 10), (0, 130000), ckTop, ckTop, ckTop, ckTop, (0, 30), (8, 30), (0, 270), (0, 30), (0, 1), ckTop, (0, 1), (318, 318), (300, 300), (1, 99), (0, 128000)]
-- FarMachineModel.test
noncomputable def k282 : ckCtr := (86, ([(0, (1, 0))], [], dC474, dT503, dG476, [], [], [(1, 0, 0, 0, [])], 0, 0), [([], [(0, 23)], dP477, [], [], [(0, 1), (8, 30), (0, 1)], [], [], dZ422, [(1, 0, 0, 0, [])], 0, 0)], 27, 672, 0, 0)
noncomputable def k282_a : ckAs := []
noncomputable def k282_c : List (Nat × ckCtr) := [(3, k255), (10, k281), (23, k259), (28, k254), (75, k259)]
theorem k282_ok (l : Launch) : ckCtrOk l ckMT ckTW ckCL k282 := mt_86 (as := k282_a) (cs := k282_c) (gx := []) (f := 200000) rfl (ckHc (k255_ok l) (ckHc (k281_ok l) (ckHc (k259_ok l) (ckHc (k254_ok l) (ckHc (k259_ok l) (fun _ h => absurd h List.not_mem_nil)))))) True.intro (by decide +kernel)
noncomputable def dT504 : List ckI := [(0, 1), (0, 1), (0, 8), (0, 40), (0, 6), (0, 8), (0, 10), (0, 130000), ckTop, ckTop, ckTop, ckTop, (0, 30), (7, 30), (0, 270), (0, 30), (0, 1), ckTop, (0, 1), (318, 318), (300, 300), (1, 99), (0, 128000)]
-- FarMachineModel.test
noncomputable def k283 : ckCtr := (86, ([(0, (1, 0))], [], dC474, dT504, dG476, [], [], [(1, 0, 0, 0, [])], 0, 0), [([], [(0, 23)], dP477, [], [], [(0, 1), (7, 30), (0, 1)], [], [], dZ424, [(1, 0, 0, 0, [])], 0, 0)], 28, 695, 0, 0)
noncomputable def k283_a : ckAs := []
noncomputable def k283_c : List (Nat × ckCtr) := [(3, k255), (10, k282), (23, k259), (28, k254), (75, k259)]
theorem k283_ok (l : Launch) : ckCtrOk l ckMT ckTW ckCL k283 := mt_86 (as := k283_a) (cs := k283_c) (gx := []) (f := 200000) rfl (ckHc (k255_ok l) (ckHc (k282_ok l) (ckHc (k259_ok l) (ckHc (k254_ok l) (ckHc (k259_ok l) (fun _ h => absurd h List.not_mem_nil)))))) True.intro (by decide +kernel)
noncomputable def dT505 : List ckI := [(0, 1), (0, 1), (0, 8), (0, 40), (0, 6), (0, 8), (0, 10), (0, 130000), ckTop, ckTop, ckTop, ckTop, (0, 30), (6, 30), (0, 270), (0, 30), (0, 1), ckTop, (0, 1), (318, 318), (300, 300), (1, 99), (0, 128000)]
-- FarMachineModel.test
noncomputable def k284 : ckCtr := (86, ([(0, (1, 0))], [], dC474, dT505, dG476, [], [], [(1, 0, 0, 0, [])], 0, 0), [([], [(0, 23)], dP477, [], [], [(0, 1), (6, 30), (0, 1)], [], [], dZ426, [(1, 0, 0, 0, [])], 0, 0)], 29, 718, 0, 0)
noncomputable def k284_a : ckAs := []
noncomputable def k284_c : List (Nat × ckCtr) := [(3, k255), (10, k283), (23, k259), (28, k254), (75, k259)]
theorem k284_ok (l : Launch) : ckCtrOk l ckMT ckTW ckCL k284 := mt_86 (as := k284_a) (cs := k284_c) (gx := []) (f := 200000) rfl (ckHc (k255_ok l) (ckHc (k283_ok l) (ckHc (k259_ok l) (ckHc (k254_ok l) (ckHc (k259_ok l) (fun _ h => absurd h List.not_mem_nil)))))) True.intro (by decide +kernel)
noncomputable def dT506 : List ckI := [(0, 1), (0, 1), (0, 8), (0, 40), (0, 6), (0, 8), (0, 10), (0, 130000), ckTop, ckTop, ckTop, ckTop, (0, 30), (5, 30), (0, 270), (0, 30), (0, 1), ckTop, (0, 1), (318, 318), (300, 300), (1, 99), (0, 128000)]
-- FarMachineModel.test
noncomputable def k285 : ckCtr := (86, ([(0, (1, 0))], [], dC474, dT506, dG476, [], [], [(1, 0, 0, 0, [])], 0, 0), [([], [(0, 23)], dP477, [], [], [(0, 1), (5, 30), (0, 1)], [], [], dZ428, [(1, 0, 0, 0, [])], 0, 0)], 30, 741, 0, 0)
noncomputable def k285_a : ckAs := []
noncomputable def k285_c : List (Nat × ckCtr) := [(3, k255), (10, k284), (23, k259), (28, k254), (75, k259)]
theorem k285_ok (l : Launch) : ckCtrOk l ckMT ckTW ckCL k285 := mt_86 (as := k285_a) (cs := k285_c) (gx := []) (f := 200000) rfl (ckHc (k255_ok l) (ckHc (k284_ok l) (ckHc (k259_ok l) (ckHc (k254_ok l) (ckHc (k259_ok l) (fun _ h => absurd h List.not_mem_nil)))))) True.intro (by decide +kernel)
noncomputable def dT507 : List ckI := [(0, 1), (0, 1), (0, 8), (0, 40), (0, 6), (0, 8), (0, 10), (0, 130000), ckTop, ckTop, ckTop, ckTop, (0, 30), (4, 30), (0, 270), (0, 30), (0, 1), ckTop, (0, 1), (318, 318), (300, 300), (1, 99), (0, 128000)]
-- FarMachineModel.test
noncomputable def k286 : ckCtr := (86, ([(0, (1, 0))], [], dC474, dT507, dG476, [], [], [(1, 0, 0, 0, [])], 0, 0), [([], [(0, 23)], dP477, [], [], [(0, 1), (4, 30), (0, 1)], [], [], dZ430, [(1, 0, 0, 0, [])], 0, 0)], 31, 764, 0, 0)
noncomputable def k286_a : ckAs := []
noncomputable def k286_c : List (Nat × ckCtr) := [(3, k255), (10, k285), (23, k259), (28, k254), (75, k259)]
theorem k286_ok (l : Launch) : ckCtrOk l ckMT ckTW ckCL k286 := mt_86 (as := k286_a) (cs := k286_c) (gx := []) (f := 200000) rfl (ckHc (k255_ok l) (ckHc (k285_ok l) (ckHc (k259_ok l) (ckHc (k254_ok l) (ckHc (k259_ok l) (fun _ h => absurd h List.not_mem_nil)))))) True.intro (by decide +kernel)
noncomputable def dT508 : List ckI := [(0, 1), (0, 1), (0, 8), (0, 40), (0, 6), (0, 8), (0, 10), (0, 130000), ckTop, ckTop, ckTop, ckTop, (0, 30), (3, 30), (0, 270), (0, 30), (0, 1), ckTop, (0, 1), (318, 318), (300, 300), (1, 99), (0, 128000)]
-- FarMachineModel.test
noncomputable def k287 : ckCtr := (86, ([(0, (1, 0))], [], dC474, dT508, dG476, [], [], [(1, 0, 0, 0, [])], 0, 0), [([], [(0, 23)], dP477, [], [], [(0, 1), (3, 30), (0, 1)], [], [], dZ432, [(1, 0, 0, 0, [])], 0, 0)], 32, 787, 0, 0)
noncomputable def k287_a : ckAs := []
noncomputable def k287_c : List (Nat × ckCtr) := [(3, k255), (10, k286), (23, k259), (28, k254), (75, k259)]
theorem k287_ok (l : Launch) : ckCtrOk l ckMT ckTW ckCL k287 := mt_86 (as := k287_a) (cs := k287_c) (gx := []) (f := 200000) rfl (ckHc (k255_ok l) (ckHc (k286_ok l) (ckHc (k259_ok l) (ckHc (k254_ok l) (ckHc (k259_ok l) (fun _ h => absurd h List.not_mem_nil)))))) True.intro (by decide +kernel)
noncomputable def dT509 : List ckI := [(0, 1), (0, 1), (0, 8), (0, 40), (0, 6), (0, 8), (0, 10), (0, 130000), ckTop, ckTop, ckTop, ckTop, (0, 30), (2, 30), (0, 270), (0, 30), (0, 1), ckTop, (0, 1), (318, 318), (300, 300), (1, 99), (0, 128000)]
-- FarMachineModel.test
noncomputable def k288 : ckCtr := (86, ([(0, (1, 0))], [], dC474, dT509, dG476, [], [], [(1, 0, 0, 0, [])], 0, 0), [([], [(0, 23)], dP477, [], [], [(0, 1), (2, 30), (0, 1)], [], [], dZ434, [(1, 0, 0, 0, [])], 0, 0)], 33, 810, 0, 0)
noncomputable def k288_a : ckAs := []
noncomputable def k288_c : List (Nat × ckCtr) := [(3, k255), (10, k287), (23, k259), (28, k254), (75, k259)]
theorem k288_ok (l : Launch) : ckCtrOk l ckMT ckTW ckCL k288 := mt_86 (as := k288_a) (cs := k288_c) (gx := []) (f := 200000) rfl (ckHc (k255_ok l) (ckHc (k287_ok l) (ckHc (k259_ok l) (ckHc (k254_ok l) (ckHc (k259_ok l) (fun _ h => absurd h List.not_mem_nil)))))) True.intro (by decide +kernel)
noncomputable def dT510 : List ckI := [(0, 1), (0, 1), (0, 8), (0, 40), (0, 6), (0, 8), (0, 10), (0, 130000), ckTop, ckTop, ckTop, ckTop, (0, 30), (1, 30), (0, 270), (0, 30), (0, 1), ckTop, (0, 1), (318, 318), (300, 300), (1, 99), (0, 128000)]
-- FarMachineModel.test
noncomputable def k289 : ckCtr := (86, ([(0, (1, 0))], [], dC474, dT510, dG476, [], [], [(1, 0, 0, 0, [])], 0, 0), [([], [(0, 23)], dP477, [], [], [(0, 1), (1, 30), (0, 1)], [], [], dZ436, [(1, 0, 0, 0, [])], 0, 0)], 34, 833, 0, 0)
noncomputable def k289_a : ckAs := []
noncomputable def k289_c : List (Nat × ckCtr) := [(3, k255), (10, k288), (23, k259), (28, k254), (75, k259)]
theorem k289_ok (l : Launch) : ckCtrOk l ckMT ckTW ckCL k289 := mt_86 (as := k289_a) (cs := k289_c) (gx := []) (f := 200000) rfl (ckHc (k255_ok l) (ckHc (k288_ok l) (ckHc (k259_ok l) (ckHc (k254_ok l) (ckHc (k259_ok l) (fun _ h => absurd h List.not_mem_nil)))))) True.intro (by decide +kernel)
-- FarMachineModel.test
noncomputable def k290 : ckCtr := (86, ([(0, (1, 0))], [], dC474, dT475, dG476, [], [], [(1, 0, 0, 0, [])], 0, 0), [([], [(0, 23)], dP477, [], [], [(0, 1), (0, 30), (0, 1)], [], [], dZ437, [(1, 0, 0, 0, [])], 0, 0)], 35, 856, 0, 0)
noncomputable def k290_a : ckAs := []
noncomputable def k290_c : List (Nat × ckCtr) := [(3, k255), (10, k289), (23, k259), (28, k254), (75, k259)]
theorem k290_ok (l : Launch) : ckCtrOk l ckMT ckTW ckCL k290 := mt_86 (as := k290_a) (cs := k290_c) (gx := []) (f := 200000) rfl (ckHc (k255_ok l) (ckHc (k289_ok l) (ckHc (k259_ok l) (ckHc (k254_ok l) (ckHc (k259_ok l) (fun _ h => absurd h List.not_mem_nil)))))) True.intro (by decide +kernel)
noncomputable def dT511 : List ckI := [(38, 38), (0, 1), (0, 1), (0, 8), (0, 40), (0, 6), (0, 8), (0, 10), (0, 130000), ckTop, ckTop, ckTop, ckTop, (0, 30), (0, 30), (0, 270), (0, 30), (0, 1), ckTop, (0, 1), (300, 300)]
-- FarMachineModel.takes
noncomputable def k291 : ckCtr := (84, ([(0, (1, 0)), (1, (0, 0))], [], dC465, dT511, [([(300, ckTop)], [], [])], [], [], [], 0, 0), [([], [(0, 21)], [], [], [], [(0, 0)], [], [], [], [], 0, 0), ([], [(0, 21)], dP467, [], [(14, (0, 29)), (16, (1, 30)), (17, (1, 1))], [(1, 1), (1, 30)], [], [], [(14, 16, (-1)), (14, 22, (-1)), (22, 14, 1), (22, 16, 0)], [], 0, 0)], 2, 100, 0, 0)
noncomputable def k291_a : ckAs := []
noncomputable def k291_c : List (Nat × ckCtr) := [(8, k254)]
theorem k291_ok (l : Launch) : ckCtrOk l ckMT ckTW ckCL k291 := mt_84 (as := k291_a) (cs := k291_c) (gx := []) (f := 200000) rfl (ckHc (k254_ok l) (fun _ h => absurd h List.not_mem_nil)) True.intro (by decide +kernel)
noncomputable def dT512 : List ckI := [(0, 1), (0, 1), (0, 8), (0, 40), (0, 6), (0, 8), (0, 10), (0, 130000), ckTop, ckTop, ckTop, ckTop, (0, 30), (0, 0), (0, 270), (0, 30), (0, 1), ckTop, (0, 1), (318, 318), (300, 300), (1, 99), (0, 128000)]
noncomputable def dP513 : List (Nat × ckC) := [(0, .inl (9, [(4, 10), (1, 1), (4, 11), (4, 12), (4, 13), (4, 14), (4, 15), (4, 16), (4, 17), (4, 18), (4, 19), (4, 20), (4, 21), (4, 22), (1, 2), (4, 23), (0, 0), (0, 1), (0, 2), (0, 3), (0, 4), (0, 5), (0, 6), (4, 24), (0, 7), (4, 25), (0, 8), (0, 9), (0, 10), (0, 11), (4, 26), (0, 12), (0, 27), (0, 14), (0, 15), (1, 2), (1, 1), (0, 28), (4, 27), (4, 28), (0, 17), (0, 18)]))]
-- FarMachineModel.and
noncomputable def k292 : ckCtr := (85, ([(0, (1, 0))], [], dC474, dT512, dG476, [], [], [(1, 0, 0, 0, [])], 0, 0), [([], [(0, 23)], dP477, [], [], [(0, 1), (0, 30), (0, 1)], [], [], dZ440, [(1, 0, 0, 0, [])], 0, 0)], 36, 879, 0, 0)
noncomputable def k292_a : ckAs := [(5, [(827992, [(1, 0, 1, ([(0, (1, 0)), (1, (0, 26))], [], dP513, [], [], [(0, 1), (0, 30), (0, 1)], [], [], dZ442, [(1, 0, 0, 0, [])], 0, 0))])])]
noncomputable def k292_c : List (Nat × ckCtr) := [(1, k290), (8, k291), (15, k289)]
theorem k292_ok (l : Launch) : ckCtrOk l ckMT ckTW ckCL k292 := mt_85 (as := k292_a) (cs := k292_c) (gx := []) (f := 200000) rfl (ckHc (k290_ok l) (ckHc (k291_ok l) (ckHc (k289_ok l) (fun _ h => absurd h List.not_mem_nil)))) True.intro (by decide +kernel)
noncomputable def dC514 : List ckC := [.inl (9, [(4, 10), (1, 2), (4, 11), (4, 12), (4, 13), (4, 14), (4, 15), (4, 16), (4, 17), (4, 18), (4, 19), (4, 20), (4, 21), (4, 22), (1, 1), (4, 23), (0, 2), (0, 3), (0, 4), (0, 5), (0, 6), (0, 7), (0, 8), (4, 24), (0, 9), (4, 25), (0, 10), (0, 11), (0, 12), (0, 13), (4, 26), (0, 14), (0, 15), (0, 16), (0, 17), (5, 0), (5, 0), (0, 18), (4, 27), (4, 28), (0, 19), (0, 20)]), .inr (0, 21, 0), .inr (0, 22, 1)]
noncomputable def dT515 : List ckI := [(0, 270), (0, 30), (0, 1), (0, 1), (0, 8), (0, 40), (0, 6), (0, 8), (0, 10), (0, 130000), ckTop, ckTop, ckTop, ckTop, (0, 30), ckTop, ckTop, ckTop, (0, 1), ckTop, (0, 1), (300, 300), (318, 318), (1, 99), (0, 128000)]
noncomputable def dG516 : List ckG := [([(300, ckTop)], [], []), ([(48, ckTop), (49, (0, 47)), (55, ckTop), (56, ckTop), (58, ckTop), (59, ckTop), (76, ckTop), (77, (0, 30)), (197, ckTop), (198, (0, 60)), (318, ckTop)], [(55, 23), (58, 24)], [])]
noncomputable def dP517 : List (Nat × ckC) := [(0, .inl (9, [(4, 10), (1, 2), (4, 11), (4, 12), (4, 13), (4, 14), (4, 15), (4, 16), (4, 17), (4, 18), (4, 19), (4, 20), (4, 21), (4, 22), (1, 1), (4, 23), (0, 2), (0, 3), (0, 4), (0, 5), (0, 6), (0, 7), (0, 8), (4, 24), (0, 9), (4, 25), (0, 10), (0, 11), (0, 12), (0, 13), (4, 26), (0, 14), (0, 26), (0, 0), (0, 1), (1, 1), (1, 2), (0, 27), (4, 27), (4, 28), (0, 19), (0, 20)]))]
-- FarMachineModel.goesThrough
noncomputable def k293 : ckCtr := (90, ([(0, (1, 0)), (1, (1, 1)), (2, (0, 0)), (3, (0, 1)), (4, (1, 2))], [], dC514, dT515, dG516, [], [], [(1, 1, 0, 0, [])], 0, 0), [([], [(0, 25)], dP517, [], [], [(0, 1), (0, 30), (0, 1)], [], [], [(25, 1, 0), (25, 26, 0), (27, 1, 0), (27, 26, 0)], [(1, 1, 0, 0, [])], 0, 0)], 37, 901, 0, 0)
noncomputable def k293_a : ckAs := []
noncomputable def k293_c : List (Nat × ckCtr) := [(32, k292)]
theorem k293_ok (l : Launch) : ckCtrOk l ckMT ckTW ckCL k293 := mt_90 (as := k293_a) (cs := k293_c) (gx := []) (f := 200000) rfl (ckHc (k292_ok l) (fun _ h => absurd h List.not_mem_nil)) True.intro (by decide +kernel)
