/-! THE CHECKER: contracts with their certificates (printed by wip/gen2/p14gen.py) -/
noncomputable def dT438 : List ckI := [(0, 1), (0, 1), ckTop, ckTop, ckTop, ckTop, ckTop, ckTop, ckTop, ckTop, ckTop, ckTop, ckTop, (2, 30), (0, 0), (0, 30), (0, 1), ckTop, (0, 1), (318, 318), (30, 30)]
noncomputable def dZ439 : List ckZ := [(13, 22, 0), (21, 15, 0), (21, 16, 0), (21, 22, (-2)), (23, 15, 0), (23, 16, 0), (23, 22, (-2))]
-- FarMachineModel.test
noncomputable def k242 : ckCtr := (86, ([(0, (1, 0))], [], dC374, dT438, dG376, [], [], [(1, 0, 0, 0, [])], 0, 0), [([], [(0, 21)], dP377, [], [], [(0, 1), (2, 30), (0, 1)], [], [], dZ439, [(1, 0, 0, 0, [])], 0, 0)], 33, 810, 0, 0)
noncomputable def k242_a : ckAs := []
noncomputable def k242_c : List (Nat × ckCtr) := [(3, k206), (10, k241), (23, k213), (28, k205), (75, k213)]
theorem k242_ok (l : Launch) : ckCtrOk l ckMT ckTW ckCL k242 := mt_86 (as := k242_a) (cs := k242_c) (gx := []) (f := 200000) rfl (ckHc (k206_ok l) (ckHc (k241_ok l) (ckHc (k213_ok l) (ckHc (k205_ok l) (ckHc (k213_ok l) (fun _ h => absurd h List.not_mem_nil)))))) True.intro (by decide +kernel)
noncomputable def dT440 : List ckI := [(0, 1), (0, 1), ckTop, ckTop, ckTop, ckTop, ckTop, ckTop, ckTop, ckTop, ckTop, ckTop, ckTop, (1, 30), (0, 0), (0, 30), (0, 1), ckTop, (0, 1), (318, 318), (30, 30)]
noncomputable def dZ441 : List ckZ := [(13, 22, 0), (21, 15, 0), (21, 16, 0), (21, 22, (-1)), (23, 15, 0), (23, 16, 0), (23, 22, (-1))]
-- FarMachineModel.test
noncomputable def k243 : ckCtr := (86, ([(0, (1, 0))], [], dC374, dT440, dG376, [], [], [(1, 0, 0, 0, [])], 0, 0), [([], [(0, 21)], dP377, [], [], [(0, 1), (1, 30), (0, 1)], [], [], dZ441, [(1, 0, 0, 0, [])], 0, 0)], 34, 833, 0, 0)
noncomputable def k243_a : ckAs := []
noncomputable def k243_c : List (Nat × ckCtr) := [(3, k206), (10, k242), (23, k213), (28, k205), (75, k213)]
theorem k243_ok (l : Launch) : ckCtrOk l ckMT ckTW ckCL k243 := mt_86 (as := k243_a) (cs := k243_c) (gx := []) (f := 200000) rfl (ckHc (k206_ok l) (ckHc (k242_ok l) (ckHc (k213_ok l) (ckHc (k205_ok l) (ckHc (k213_ok l) (fun _ h => absurd h List.not_mem_nil)))))) True.intro (by decide +kernel)
noncomputable def dZ442 : List ckZ := [(13, 22, 0), (21, 15, 0), (21, 16, 0), (21, 22, 0), (23, 15, 0), (23, 16, 0), (23, 22, 0)]
-- FarMachineModel.test
noncomputable def k244 : ckCtr := (86, ([(0, (1, 0))], [], dC374, dT375, dG376, [], [], [(1, 0, 0, 0, [])], 0, 0), [([], [(0, 21)], dP377, [], [], [(0, 1), (0, 30), (0, 1)], [], [], dZ442, [(1, 0, 0, 0, [])], 0, 0)], 35, 856, 0, 0)
noncomputable def k244_a : ckAs := []
noncomputable def k244_c : List (Nat × ckCtr) := [(3, k206), (10, k243), (23, k213), (28, k205), (75, k213)]
theorem k244_ok (l : Launch) : ckCtrOk l ckMT ckTW ckCL k244 := mt_86 (as := k244_a) (cs := k244_c) (gx := []) (f := 200000) rfl (ckHc (k206_ok l) (ckHc (k243_ok l) (ckHc (k213_ok l) (ckHc (k205_ok l) (ckHc (k213_ok l) (fun _ h => absurd h List.not_mem_nil)))))) True.intro (by decide +kernel)
noncomputable def dT443 : List ckI := [(38, 38), (0, 1), (0, 1), ckTop, ckTop, ckTop, ckTop, ckTop, ckTop, ckTop, ckTop, ckTop, ckTop, ckTop, (0, 30), (0, 0), (0, 30), (0, 1), ckTop, (0, 1), (30, 30)]
-- FarMachineModel.takes
noncomputable def k245 : ckCtr := (84, ([(0, (1, 0)), (1, (0, 0))], [], dC364, dT443, [([(30, ckTop)], [], [])], [], [], [], 0, 0), [([], [(0, 15)], [], [], [], [], [], [], [], [], 0, 0), ([], [(0, 21)], dP366, [], [(14, (0, 29)), (16, (1, 30)), (17, (1, 1))], [(1, 1), (1, 30)], [], [], [(14, 16, (-1)), (14, 22, (-1)), (22, 14, 1), (22, 16, 0)], [], 0, 0)], 2, 100, 0, 0)
noncomputable def k245_a : ckAs := []
noncomputable def k245_c : List (Nat × ckCtr) := [(8, k205)]
theorem k245_ok (l : Launch) : ckCtrOk l ckMT ckTW ckCL k245 := mt_84 (as := k245_a) (cs := k245_c) (gx := []) (f := 200000) rfl (ckHc (k205_ok l) (fun _ h => absurd h List.not_mem_nil)) True.intro (by decide +kernel)
noncomputable def dT444 : List ckI := [(0, 1), (0, 1), ckTop, ckTop, ckTop, ckTop, ckTop, ckTop, ckTop, ckTop, ckTop, ckTop, ckTop, (0, 0), (0, 0), (0, 30), (0, 1), ckTop, (0, 1), (318, 318), (30, 30)]
noncomputable def dZ445 : List ckZ := [(21, 15, 0), (21, 16, 0), (21, 22, 0), (23, 15, 0), (23, 16, 0), (23, 22, 0)]
noncomputable def dP446 : List (Nat × ckC) := [(0, .inl (9, [(4, 10), (1, 1), (4, 11), (4, 12), (4, 13), (4, 14), (4, 15), (4, 16), (4, 17), (4, 18), (4, 19), (4, 20), (4, 21), (4, 22), (4, 23), (4, 24), (0, 0), (0, 1), (0, 2), (0, 3), (0, 4), (0, 5), (0, 6), (4, 25), (0, 7), (4, 26), (0, 8), (0, 9), (0, 10), (0, 11), (1, 2), (0, 12), (0, 25), (0, 14), (0, 15), (1, 2), (1, 1), (0, 26), (4, 27), (4, 28), (0, 17), (0, 18)]))]
noncomputable def dZ447 : List ckZ := [(21, 15, 0), (21, 16, 0), (21, 22, 0), (21, 25, 0), (22, 25, 0), (23, 15, 0), (23, 16, 0), (23, 22, 0), (23, 25, 0), (24, 15, 0), (24, 16, 0), (24, 21, 0), (24, 22, 0), (24, 25, 0), (25, 22, 29), (26, 15, 0), (26, 16, 0), (26, 22, 0), (26, 23, 0), (26, 25, 0)]
-- FarMachineModel.and
noncomputable def k246 : ckCtr := (85, ([(0, (1, 0))], [], dC374, dT444, dG376, [], [], [(1, 0, 0, 0, [])], 0, 0), [([], [(0, 21)], dP377, [], [], [(0, 1), (0, 30), (0, 1)], [], [], dZ445, [(1, 0, 0, 0, [])], 0, 0)], 36, 879, 0, 0)
noncomputable def k246_a : ckAs := [(5, [(574357, [(1, 0, 1, ([(0, (1, 0)), (1, (0, 24))], [], dP446, [], [], [(0, 1), (0, 30), (0, 1)], [], [], dZ447, [(1, 0, 0, 0, [])], 0, 0))])])]
noncomputable def k246_c : List (Nat × ckCtr) := [(1, k244), (8, k245), (15, k243)]
theorem k246_ok (l : Launch) : ckCtrOk l ckMT ckTW ckCL k246 := mt_85 (as := k246_a) (cs := k246_c) (gx := []) (f := 200000) rfl (ckHc (k244_ok l) (ckHc (k245_ok l) (ckHc (k243_ok l) (fun _ h => absurd h List.not_mem_nil)))) True.intro (by decide +kernel)
noncomputable def dC448 : List ckC := [.inl (9, [(4, 10), (1, 2), (4, 11), (4, 12), (4, 13), (4, 14), (4, 15), (4, 16), (4, 17), (4, 18), (4, 19), (4, 20), (4, 21), (4, 22), (4, 23), (4, 24), (0, 2), (0, 3), (0, 4), (0, 5), (0, 6), (0, 7), (0, 8), (4, 25), (0, 9), (4, 26), (0, 10), (0, 11), (0, 12), (0, 13), (1, 1), (0, 14), (0, 15), (0, 16), (0, 17), (5, 0), (5, 0), (0, 18), (4, 27), (4, 28), (0, 19), (0, 20)]), .inr (0, 21, 0), .inr (0, 22, 1)]
noncomputable def dT449 : List ckI := [(0, 0), (0, 30), (0, 1), (0, 1), ckTop, ckTop, ckTop, ckTop, ckTop, ckTop, ckTop, ckTop, ckTop, ckTop, ckTop, ckTop, ckTop, ckTop, (0, 1), ckTop, (0, 1), (30, 30), (318, 318)]
noncomputable def dG450 : List ckG := [([(30, ckTop)], [], []), ([(48, ckTop), (49, (0, 47)), (55, ckTop), (56, ckTop), (58, ckTop), (59, ckTop), (76, ckTop), (77, (0, 30)), (197, ckTop), (198, (0, 60)), (318, ckTop)], [], [])]
noncomputable def dP451 : List (Nat × ckC) := [(0, .inl (9, [(4, 10), (1, 2), (4, 11), (4, 12), (4, 13), (4, 14), (4, 15), (4, 16), (4, 17), (4, 18), (4, 19), (4, 20), (4, 21), (4, 22), (4, 23), (4, 24), (0, 2), (0, 3), (0, 4), (0, 5), (0, 6), (0, 7), (0, 8), (4, 25), (0, 9), (4, 26), (0, 10), (0, 11), (0, 12), (0, 13), (1, 1), (0, 14), (0, 24), (0, 0), (0, 1), (1, 1), (1, 2), (0, 25), (4, 27), (4, 28), (0, 19), (0, 20)]))]
-- FarMachineModel.goesThrough
noncomputable def k247 : ckCtr := (90, ([(0, (1, 0)), (1, (1, 1)), (2, (0, 0)), (3, (0, 1)), (4, (1, 2))], [], dC448, dT449, dG450, [], [], [(1, 1, 0, 0, [])], 0, 0), [([], [(0, 23)], dP451, [], [], [(0, 1), (0, 30), (0, 1)], [], [], [(23, 1, 0), (23, 24, 0), (25, 1, 0), (25, 24, 0)], [(1, 1, 0, 0, [])], 0, 0)], 37, 901, 0, 0)
noncomputable def k247_a : ckAs := []
noncomputable def k247_c : List (Nat × ckCtr) := [(32, k246)]
theorem k247_ok (l : Launch) : ckCtrOk l ckMT ckTW ckCL k247 := mt_90 (as := k247_a) (cs := k247_c) (gx := []) (f := 200000) rfl (ckHc (k246_ok l) (fun _ h => absurd h List.not_mem_nil)) True.intro (by decide +kernel)
noncomputable def dC452 : List ckC := [.inl (9, [(1, 1), (1, 2), (4, 10), (4, 11), (4, 12), (4, 13), (4, 14), (4, 15), (4, 16), (4, 17), (4, 18), (4, 19), (4, 20), (4, 21), (1, 3), (1, 4), (0, 0), (0, 1), (0, 2), (0, 3), (0, 4), (0, 5), (0, 6), (4, 22), (0, 7), (4, 23), (0, 8), (0, 9), (0, 10), (0, 11), (1, 5), (0, 12), (0, 13), (0, 14), (0, 15), (5, 0), (5, 0), (0, 16), (4, 24), (4, 25), (0, 17), (0, 18)]), .inr (0, 19, 0), .inr (0, 20, 1), .inr (0, 21, 2), .inr (0, 22, 3), .inr (0, 23, 4)]
noncomputable def dT453 : List ckI := [(0, 1), (0, 1), (0, 8), (0, 40), (0, 6), (0, 8), (0, 10), (0, 126000), ckTop, ckTop, ckTop, ckTop, (0, 30), ckTop, ckTop, ckTop, (0, 1), ckTop, (0, 1), (7, 7), (318, 318), (300, 300), (10, 10), (30, 30), (1, 99), (0, 126000)]
noncomputable def dG454 : List ckG := [([(7, ckTop)], [], []), ([(48, ckTop), (49, (0, 47)), (50, ckTop), (51, ckTop), (52, ckTop), (54, ckTop), (55, ckTop), (56, ckTop), (57, ckTop), (58, ckTop), (59, ckTop), (76, ckTop), (77, (0, 30)), (197, ckTop), (198, (0, 60)), (318, ckTop)], [(55, 24), (58, 25)], []), ([(300, ckTop)], [], []), ([(10, (0, 30))], [], []), ([(30, ckTop)], [], [])]
noncomputable def dP455 : List (Nat × ckC) := [(0, .inl (9, [(1, 1), (1, 2), (4, 10), (4, 11), (4, 12), (4, 13), (4, 14), (4, 15), (4, 16), (4, 17), (4, 18), (4, 19), (4, 20), (4, 21), (1, 3), (1, 4), (0, 0), (0, 1), (0, 2), (0, 3), (0, 4), (0, 5), (0, 27), (4, 22), (0, 7), (4, 23), (0, 8), (0, 9), (0, 10), (0, 11), (1, 5), (0, 28), (0, 29), (0, 30), (0, 31), (5, 0), (5, 0), (0, 32), (4, 24), (4, 25), (0, 17), (0, 18)])), (1, .inr (0, 19, 5)), (3, .inr (0, 21, 6)), (4, .inr (0, 22, 7))]
noncomputable def dG456 : List ckG := [([(6, ckTop), (7, ckTop)], [], []), ([(300, ckTop)], [], []), ([(10, (0, 30))], [], [])]
noncomputable def dZ457 : List ckZ := [(6, 26, 59), (6, 27, 0), (26, 6, 0), (26, 12, 8), (26, 27, (-1)), (26, 32, 8), (27, 6, 1), (27, 26, 59), (28, 6, 20), (28, 12, 0), (28, 26, 50), (28, 27, 20)]
-- FarMachineModel.rule
noncomputable def k248 : ckCtr := (91, ([(0, (1, 0))], [], dC452, dT453, dG454, [], [], [(1, 1, 0, 0, [])], 0, 0), [([], [(0, 26)], dP455, [], [], [(-50, 9), (0, 10), (0, 30), ckTop, ckTop, ckTop, (0, 1)], dG456, [], dZ457, [(1, 1, 0, 0, [])], 0, 0)], 38, 925, 0, 0)
noncomputable def k248_a : ckAs := [(83, [(153422, [(1, 0, 0, ([(0, (1, 0)), (1, (0, 28)), (2, (0, 31)), (3, (0, 12)), (4, (0, 34))], [], [(3, .inr (0, 21, 5))], [], [], [(0, 30)], [([(300, ckTop)], [], [])], [], [(12, 29, 0), (29, 12, 0), (34, 12, 0), (34, 29, 0)], [(1, 1, 0, 0, [])], 0, 0))])])]
noncomputable def k248_c : List (Nat × ckCtr) := [(12, k23), (30, k247)]
theorem k248_ok (l : Launch) : ckCtrOk l ckMT ckTW ckCL k248 := mt_91 (as := k248_a) (cs := k248_c) (gx := []) (f := 200000) rfl (ckHc (k23_ok l) (ckHc (k247_ok l) (fun _ h => absurd h List.not_mem_nil))) True.intro (by decide +kernel)
noncomputable def dC458 : List ckC := [.inl (2, [(4, 10), (1, 2), (4, 11), (0, 0), (0, 1), (0, 2), (0, 3), (0, 4), (0, 5), (0, 6), (0, 7), (0, 8), (0, 9), (0, 10), (0, 11), (0, 12)]), .inr (0, 13, 0), .inr (0, 13, 1)]
noncomputable def dG459 : List ckG := [([(1, ckTop), (2, ckTop), (3, ckTop), (4, ckTop), (5, ckTop), (6, ckTop), (7, ckTop), (8, (0, 63))], [(0, 3), (1, 4), (2, 5), (3, 2), (4, 1), (5, 16), (6, 15), (7, 14)], [])]
-- FarMachine$Machine.readInto
noncomputable def k249 : ckCtr := (147, ([(0, (1, 0)), (1, (1, 1))], [], dC458, dT80, [([(8, ckTop)], [], []), ([(8, ckTop)], [], [])], [], [], [], 0, 0), [([], [], [(1, .inr (0, 13, 2))], [], [], [(0, 63), ckTop, ckTop], dG459, [], [], [], 0, 0)], 3, 126, 0, 0)
noncomputable def k249_a : ckAs := []
noncomputable def k249_c : List (Nat × ckCtr) := [(59, k48), (70, k60)]
theorem k249_ok (l : Launch) : ckCtrOk l ckMT ckTW ckCL k249 := mt_147 (as := k249_a) (cs := k249_c) (gx := []) (f := 200000) rfl (ckHc (k48_ok l) (ckHc (k60_ok l) (fun _ h => absurd h List.not_mem_nil))) True.intro (by decide +kernel)
-- FarMachine$Rules.sizeOf
noncomputable def k250 : ckCtr := (168, ([(0, (1, 0)), (1, (0, 0))], [], dC343, [ckTop, (0, 10), (10, 10)], [([(10, ckTop)], [], [])], [], [], [], 0, 0), [([], [(0, 3)], [], [], [(0, (0, 9))], [ckTop], [], [], [], [], 0, 0), ([], [(0, 3)], [], [], [], [(0, 0)], [], [], [], [], 0, 0)], 1, 80, 0, 0)
noncomputable def k250_a : ckAs := []
noncomputable def k250_c : List (Nat × ckCtr) := []
theorem k250_ok (l : Launch) : ckCtrOk l ckMT ckTW ckCL k250 := mt_168 (as := k250_a) (cs := k250_c) (gx := []) (f := 200000) rfl (fun _ h => absurd h List.not_mem_nil) True.intro (by decide +kernel)
-- FarMachine$Rules.valueOf
noncomputable def k251 : ckCtr := (175, ([(0, (0, 0)), (1, (1, 0))], [], [.inr (0, 1, 0)], [ckTop, (8, 8)], [([(8, ckTop)], [], [])], [], [], [], 0, 0), [([], [(0, 2)], [], [], [], [ckTop], [], [], [], [], 0, 0), ([], [(0, 0)], [], [], [], [], [], [], [], [], 0, 0)], 1, 80, 0, 0)
noncomputable def k251_a : ckAs := []
noncomputable def k251_c : List (Nat × ckCtr) := []
theorem k251_ok (l : Launch) : ckCtrOk l ckMT ckTW ckCL k251 := mt_175 (as := k251_a) (cs := k251_c) (gx := []) (f := 200000) rfl (fun _ h => absurd h List.not_mem_nil) True.intro (by decide +kernel)
noncomputable def dC460 : List ckC := [.inl (5, [(1, 2), (1, 3), (1, 4), (1, 5), (4, 10), (0, 1)]), .inr (0, 2, 0), .inr (0, 3, 1), .inr (0, 3, 2), .inr (0, 3, 3), .inr (0, 3, 4)]
noncomputable def dG461 : List ckG := [([(8, ckTop)], [], []), ([(70, ckTop)], [], []), ([(70, ckTop)], [], []), ([(70, ckTop)], [], []), ([(70, ckTop)], [], [])]
-- FarMachine$Rules.isTestTrue
noncomputable def k252 : ckCtr := (174, ([(0, (1, 0)), (1, (0, 0)), (2, (1, 1))], [], dC460, [ckTop, (0, 10), (8, 8), (70, 70)], dG461, [], [], [], 0, 0), [([], [(0, 4)], [], [], [], [(0, 0)], [], [], [], [], 0, 0), ([], [(0, 4)], [], [], [(0, (0, 69))], [(1, 1)], [], [], [], [], 0, 0)], 2, 102, 0, 0)
noncomputable def k252_a : ckAs := []
noncomputable def k252_c : List (Nat × ckCtr) := [(22, k251), (33, k251)]
theorem k252_ok (l : Launch) : ckCtrOk l ckMT ckTW ckCL k252 := mt_174 (as := k252_a) (cs := k252_c) (gx := []) (f := 200000) rfl (ckHc (k251_ok l) (ckHc (k251_ok l) (fun _ h => absurd h List.not_mem_nil))) True.intro (by decide +kernel)
noncomputable def dC462 : List ckC := [.inl (5, [(1, 2), (1, 3), (1, 4), (1, 5), (1, 6), (0, 1)]), .inr (0, 2, 0), .inr (0, 3, 1), .inr (0, 3, 2), .inr (0, 3, 3), .inr (0, 3, 4), .inr (0, 4, 5)]
noncomputable def dG463 : List ckG := [([(8, ckTop)], [], []), ([(70, ckTop)], [], []), ([(70, ckTop)], [], []), ([(70, ckTop)], [], []), ([(70, ckTop)], [], []), ([(10, ckTop)], [], [])]
-- FarMachine$Rules.isTrue
noncomputable def k253 : ckCtr := (172, ([(0, (1, 0)), (1, (0, 0)), (2, (1, 1))], [], dC462, [ckTop, (0, 10), (8, 8), (70, 70), (10, 10)], dG463, [], [], [], 0, 0), [([], [(0, 5)], [], [], [], [(1, 1)], [], [], [], [], 0, 0), ([], [(0, 5)], [], [], [(0, (0, 9))], [(0, 0)], [], [], [], [], 0, 0)], 3, 127, 0, 0)
noncomputable def k253_a : ckAs := [(9, [(97688, [(1, 0, 0, ([(0, (1, 0)), (1, (0, 0)), (2, (1, 1)), (3, (0, 5)), (4, (0, 7))], [], [], [], [], [(0, 2147483647)], [], [], [], [], 0, 0))])])]
noncomputable def k253_c : List (Nat × ckCtr) := [(2, k250), (24, k252)]
theorem k253_ok (l : Launch) : ckCtrOk l ckMT ckTW ckCL k253 := mt_172 (as := k253_a) (cs := k253_c) (gx := []) (f := 200000) rfl (ckHc (k250_ok l) (ckHc (k252_ok l) (fun _ h => absurd h List.not_mem_nil))) True.intro (by decide +kernel)
noncomputable def dC464 : List ckC := [.inl (8, [(1, 1), (4, 10), (0, 1), (4, 11), (4, 12), (4, 13), (1, 2), (1, 3)]), .inl (7, [(1, 4), (4, 14), (0, 2), (4, 15), (4, 16), (4, 17), (4, 18), (1, 5), (4, 19), (4, 20)]), .inr (0, 3, 0), .inr (0, 4, 1), .inl (2, [(4, 21), (1, 6), (4, 22), (0, 5), (0, 6), (0, 7), (0, 8), (0, 9), (0, 10), (0, 11), (0, 12), (0, 13), (0, 14), (0, 15), (0, 16), (0, 17)]), .inl (5, [(1, 7), (1, 8), (1, 9), (1, 10), (1, 11), (0, 18)]), .inr (0, 3, 2), .inr (0, 19, 3), .inr (0, 19, 4), .inr (0, 19, 5), .inr (0, 19, 6), .inr (0, 20, 7)]
noncomputable def dT465 : List ckI := [ckTop, (0, 1), (0, 1), (8, 8), (7, 7), ckTop, ckTop, ckTop, ckTop, ckTop, ckTop, ckTop, ckTop, ckTop, ckTop, ckTop, ckTop, ckTop, (0, 10), (70, 70), (10, 10)]
noncomputable def dG466 : List ckG := [([(8, ckTop)], [], []), ([(7, ckTop)], [], []), ([(8, ckTop)], [], []), ([(70, ckTop)], [], []), ([(70, ckTop)], [], []), ([(70, ckTop)], [], []), ([(70, ckTop)], [], []), ([(10, ckTop)], [], [])]
noncomputable def dG467 : List ckG := [([(1, ckTop), (2, ckTop), (3, ckTop), (4, ckTop), (5, ckTop), (6, ckTop), (7, ckTop), (8, ckTop)], [], []), ([(1, ckTop), (2, ckTop), (7, ckTop)], [], [])]
-- FarMachine.holds
noncomputable def k254 : ckCtr := (19, ([(0, (1, 0)), (1, (0, 0))], [], dC464, dT465, dG466, [], [], [], 0, 0), [([], [(0, 21)], [(2, .inr (0, 3, 8)), (3, .inr (0, 4, 9))], [], [], [(-1, 1)], dG467, [], [(21, 18, 0)], [], 0, 0)], 4, 151, 0, 0)
noncomputable def k254_a : ckAs := []
noncomputable def k254_c : List (Nat × ckCtr) := [(20, k14), (35, k249), (50, k253)]
theorem k254_ok (l : Launch) : ckCtrOk l ckMT ckTW ckCL k254 := mt_19 (as := k254_a) (cs := k254_c) (gx := []) (f := 200000) rfl (ckHc (k14_ok l) (ckHc (k249_ok l) (ckHc (k253_ok l) (fun _ h => absurd h List.not_mem_nil)))) True.intro (by decide +kernel)
-- FarMachineModel.isIn
noncomputable def k255 : ckCtr := (45, ([(0, (0, 0)), (1, (0, 1))], [], [], [ckTop, (0, 10)], [], [], [], [], 0, 0), [([], [(0, 2)], [], [], [(0, (0, 9)), (1, (1, 10))], [(1, 1)], [], [], [(0, 1, (-1))], [], 0, 0), ([], [(0, 2)], [], [], [(0, (0, 2147483647))], [(0, 0)], [], [], [(1, 0, 0)], [], 0, 0), ([], [(0, 2)], [], [], [(0, (-2147483648, -1))], [(0, 0)], [], [], [], [], 0, 0)], 1, 80, 0, 0)
noncomputable def k255_a : ckAs := []
noncomputable def k255_c : List (Nat × ckCtr) := []
theorem k255_ok (l : Launch) : ckCtrOk l ckMT ckTW ckCL k255 := mt_45 (as := k255_a) (cs := k255_c) (gx := []) (f := 200000) rfl (fun _ h => absurd h List.not_mem_nil) True.intro (by decide +kernel)
noncomputable def dC468 : List ckC := [.inl (9, [(4, 10), (4, 11), (4, 12), (4, 13), (4, 14), (4, 15), (4, 16), (4, 17), (4, 18), (4, 19), (4, 20), (4, 21), (4, 22), (4, 23), (1, 1), (4, 24), (0, 0), (0, 1), (0, 2), (0, 3), (0, 4), (0, 5), (0, 6), (4, 25), (0, 7), (4, 26), (0, 8), (0, 9), (0, 10), (0, 11), (4, 27), (0, 12), (0, 13), (0, 14), (0, 15), (1, 1), (4, 11), (0, 16), (4, 28), (4, 29), (0, 17), (0, 18)]), .inr (0, 19, 0)]
noncomputable def dT469 : List ckI := [(0, 1), (0, 1), ckTop, ckTop, ckTop, ckTop, ckTop, ckTop, ckTop, ckTop, ckTop, ckTop, ckTop, (0, 30), (0, 270), (0, 30), (0, 1), ckTop, (0, 1), (300, 300)]
-- FarMachineModel.sign
noncomputable def k256 : ckCtr := (83, ([(0, (1, 0))], [], dC468, dT469, [([(300, ckTop)], [], [])], [], [], [], 0, 0), [([], [(0, 20)], [], [], [], [(-1, -1)], [], [], [(15, 13, 0)], [], 0, 0), ([], [(0, 20)], [], [], [(13, (0, 29)), (15, (1, 30))], [ckTop], [], [], [(13, 15, (-1))], [], 0, 0)], 1, 80, 0, 0)
noncomputable def k256_a : ckAs := []
noncomputable def k256_c : List (Nat × ckCtr) := []
theorem k256_ok (l : Launch) : ckCtrOk l ckMT ckTW ckCL k256 := mt_83 (as := k256_a) (cs := k256_c) (gx := []) (f := 200000) rfl (fun _ h => absurd h List.not_mem_nil) True.intro (by decide +kernel)
noncomputable def dC470 : List ckC := [.inl (9, [(4, 10), (4, 11), (4, 12), (4, 13), (4, 14), (4, 15), (4, 16), (4, 17), (4, 18), (4, 19), (4, 20), (4, 21), (4, 22), (4, 23), (1, 1), (4, 24), (0, 1), (0, 2), (0, 3), (0, 4), (0, 5), (0, 6), (0, 7), (4, 25), (0, 8), (4, 26), (0, 9), (0, 10), (0, 11), (0, 12), (4, 27), (0, 13), (0, 14), (0, 15), (0, 16), (1, 1), (4, 11), (0, 17), (4, 28), (4, 29), (0, 18), (0, 19)]), .inr (0, 20, 0)]
noncomputable def dT471 : List ckI := [(33, 33), (0, 1), (0, 1), ckTop, ckTop, ckTop, ckTop, ckTop, ckTop, ckTop, ckTop, ckTop, ckTop, ckTop, (0, 30), (0, 270), (0, 30), (0, 1), ckTop, (0, 1), (300, 300)]
noncomputable def dP472 : List (Nat × ckC) := [(0, .inl (9, [(4, 10), (4, 11), (4, 12), (4, 13), (4, 14), (4, 15), (4, 16), (4, 17), (4, 18), (4, 19), (4, 20), (4, 21), (4, 22), (4, 23), (1, 1), (4, 24), (0, 1), (0, 2), (0, 3), (0, 4), (0, 5), (0, 6), (0, 7), (4, 25), (0, 8), (4, 26), (0, 9), (0, 10), (0, 11), (0, 12), (4, 27), (0, 13), (0, 22), (0, 15), (0, 16), (1, 1), (4, 11), (0, 17), (4, 28), (4, 29), (0, 18), (0, 19)]))]
-- FarMachineModel.takes
noncomputable def k257 : ckCtr := (84, ([(0, (1, 0)), (1, (0, 0))], [], dC470, dT471, [([(300, ckTop)], [], [])], [], [], [], 0, 0), [([], [(0, 21)], [], [], [], [(0, 0)], [], [], [], [], 0, 0), ([], [(0, 21)], dP472, [], [(14, (0, 29)), (16, (1, 30)), (17, (1, 1))], [(1, 1), (1, 30)], [], [], [(14, 16, (-1)), (14, 22, (-1)), (22, 14, 1), (22, 16, 0)], [], 0, 0)], 2, 100, 0, 0)
noncomputable def k257_a : ckAs := []
noncomputable def k257_c : List (Nat × ckCtr) := [(8, k256)]
theorem k257_ok (l : Launch) : ckCtrOk l ckMT ckTW ckCL k257 := mt_84 (as := k257_a) (cs := k257_c) (gx := []) (f := 200000) rfl (ckHc (k256_ok l) (fun _ h => absurd h List.not_mem_nil)) True.intro (by decide +kernel)
noncomputable def dC473 : List ckC := [.inl (9, [(4, 10), (1, 1), (4, 11), (4, 12), (4, 13), (4, 14), (4, 15), (4, 16), (4, 17), (4, 18), (4, 19), (4, 20), (4, 21), (4, 22), (4, 23), (4, 24), (0, 1), (0, 2), (0, 3), (0, 4), (0, 5), (0, 6), (0, 7), (4, 25), (0, 8), (4, 26), (0, 9), (0, 10), (0, 11), (0, 12), (4, 27), (0, 13), (0, 14), (0, 15), (0, 16), (4, 23), (1, 1), (0, 17), (4, 28), (4, 29), (0, 18), (0, 19)]), .inr (0, 20, 0)]
noncomputable def dT474 : List ckI := [(-1, -1), (0, 1), (0, 1), ckTop, ckTop, ckTop, ckTop, ckTop, ckTop, ckTop, ckTop, ckTop, ckTop, ckTop, (0, 30), (0, 270), (0, 30), (0, 1), ckTop, (0, 1), (318, 318)]
noncomputable def dP475 : List (Nat × ckC) := [(0, .inl (9, [(4, 10), (1, 1), (4, 11), (4, 12), (4, 13), (4, 14), (4, 15), (4, 16), (4, 17), (4, 18), (4, 19), (4, 20), (4, 21), (4, 22), (4, 23), (4, 24), (0, 1), (0, 2), (0, 3), (0, 4), (0, 5), (0, 6), (0, 7), (4, 25), (0, 8), (4, 26), (0, 9), (0, 10), (0, 11), (0, 12), (4, 27), (0, 13), (0, 22), (0, 15), (0, 16), (4, 23), (1, 1), (0, 21), (4, 28), (4, 29), (0, 18), (0, 19)]))]
-- FarMachineModel.letter
noncomputable def k258 : ckCtr := (89, ([(0, (1, 0)), (1, (0, 0))], [], dC473, dT474, dG369, [], [], [(1, 0, 0, 0, [])], 0, 0), [([], [(0, 21)], dP475, [], [], [(0, 0), (0, 30)], [], [], [(14, 22, 0), (22, 14, 0)], [(1, 0, 0, 0, [])], 0, 0)], 1, 80, 0, 0)
noncomputable def k258_a : ckAs := []
noncomputable def k258_c : List (Nat × ckCtr) := []
theorem k258_ok (l : Launch) : ckCtrOk l ckMT ckTW ckCL k258 := mt_89 (as := k258_a) (cs := k258_c) (gx := []) (f := 200000) rfl (fun _ h => absurd h List.not_mem_nil) True.intro (by decide +kernel)
noncomputable def dT476 : List ckI := [ckTop, (0, 1), (0, 1), ckTop, ckTop, ckTop, ckTop, ckTop, ckTop, ckTop, ckTop, ckTop, ckTop, ckTop, (0, 29), (0, 270), (0, 30), (0, 1), ckTop, (0, 1), (318, 318)]
noncomputable def dP477 : List (Nat × ckC) := [(0, .inl (9, [(4, 10), (1, 1), (4, 11), (4, 12), (4, 13), (4, 14), (4, 15), (4, 16), (4, 17), (4, 18), (4, 19), (4, 20), (4, 21), (4, 22), (4, 23), (4, 24), (0, 1), (0, 2), (0, 3), (0, 4), (0, 5), (0, 6), (0, 7), (4, 25), (0, 8), (4, 26), (0, 9), (0, 10), (0, 11), (0, 12), (4, 27), (0, 13), (0, 22), (0, 15), (0, 16), (4, 23), (1, 1), (0, 23), (4, 28), (4, 29), (0, 18), (0, 19)]))]
-- FarMachineModel.letter
noncomputable def k259 : ckCtr := (89, ([(0, (1, 0)), (1, (0, 0))], [], dC473, dT476, dG369, [], [], [(1, 0, 0, 0, [])], 0, 0), [([], [(0, 21)], dP477, [], [], [ckTop, (0, 30), (0, 1)], [], [], [(14, 22, 0), (22, 14, 1), (23, 17, 0), (23, 22, 0)], [(1, 0, 0, 0, [])], 0, 0)], 3, 122, 0, 0)
noncomputable def k259_a : ckAs := []
noncomputable def k259_c : List (Nat × ckCtr) := [(171, k209), (179, k210), (182, k64)]
theorem k259_ok (l : Launch) : ckCtrOk l ckMT ckTW ckCL k259 := mt_89 (as := k259_a) (cs := k259_c) (gx := []) (f := 200000) rfl (ckHc (k209_ok l) (ckHc (k210_ok l) (ckHc (k64_ok l) (fun _ h => absurd h List.not_mem_nil)))) True.intro (by decide +kernel)
noncomputable def dT478 : List ckI := [(0, 1), (0, 1), ckTop, ckTop, ckTop, ckTop, ckTop, ckTop, ckTop, ckTop, ckTop, ckTop, ckTop, (0, 29), (0, 270), (0, 30), (0, 1), ckTop, (0, 1), (300, 300)]
-- FarMachineModel.sign
noncomputable def k260 : ckCtr := (83, ([(0, (1, 0))], [], dC468, dT478, [([(300, ckTop)], [], [])], [], [], [], 0, 0), [([], [(0, 20)], [], [], [(15, (0, 29))], [(-1, -1)], [], [], [(15, 13, 0)], [], 0, 0), ([], [(0, 20)], [], [], [(15, (1, 30))], [ckTop], [], [], [(13, 15, (-1))], [], 0, 0)], 1, 80, 0, 0)
noncomputable def k260_a : ckAs := []
noncomputable def k260_c : List (Nat × ckCtr) := []
theorem k260_ok (l : Launch) : ckCtrOk l ckMT ckTW ckCL k260 := mt_83 (as := k260_a) (cs := k260_c) (gx := []) (f := 200000) rfl (fun _ h => absurd h List.not_mem_nil) True.intro (by decide +kernel)
noncomputable def dC479 : List ckC := [.inl (9, [(4, 10), (1, 1), (4, 11), (4, 12), (4, 13), (4, 14), (4, 15), (4, 16), (4, 17), (4, 18), (4, 19), (4, 20), (4, 21), (4, 22), (1, 2), (4, 23), (0, 0), (0, 1), (0, 2), (0, 3), (0, 4), (0, 5), (0, 6), (4, 24), (0, 7), (4, 25), (0, 8), (0, 9), (0, 10), (0, 11), (4, 26), (0, 12), (0, 13), (0, 14), (0, 15), (1, 2), (1, 1), (0, 16), (4, 27), (4, 28), (0, 17), (0, 18)]), .inr (0, 19, 0), .inr (0, 20, 1)]
noncomputable def dT480 : List ckI := [(0, 1), (0, 1), ckTop, ckTop, ckTop, ckTop, ckTop, ckTop, ckTop, ckTop, ckTop, ckTop, ckTop, (0, 30), (0, 270), (0, 30), (0, 1), ckTop, (0, 1), (318, 318), (300, 300)]
noncomputable def dG481 : List ckG := [([(48, ckTop), (49, (0, 47)), (55, ckTop), (56, ckTop), (58, ckTop), (59, ckTop), (76, ckTop), (77, (0, 30)), (197, ckTop), (198, (0, 60)), (318, ckTop)], [], []), ([(300, ckTop)], [], [])]
noncomputable def dP482 : List (Nat × ckC) := [(0, .inl (9, [(4, 10), (1, 1), (4, 11), (4, 12), (4, 13), (4, 14), (4, 15), (4, 16), (4, 17), (4, 18), (4, 19), (4, 20), (4, 21), (4, 22), (1, 2), (4, 23), (0, 0), (0, 1), (0, 2), (0, 3), (0, 4), (0, 5), (0, 6), (4, 24), (0, 7), (4, 25), (0, 8), (0, 9), (0, 10), (0, 11), (4, 26), (0, 12), (0, 22), (0, 14), (0, 15), (1, 2), (1, 1), (0, 23), (4, 27), (4, 28), (0, 17), (0, 18)]))]
noncomputable def dP483 : List (Nat × ckC) := [(0, .inl (9, [(4, 10), (1, 1), (4, 11), (4, 12), (4, 13), (4, 14), (4, 15), (4, 16), (4, 17), (4, 18), (4, 19), (4, 20), (4, 21), (4, 22), (1, 2), (4, 23), (0, 0), (0, 1), (0, 2), (0, 3), (0, 4), (0, 5), (0, 6), (4, 24), (0, 7), (4, 25), (0, 8), (0, 9), (0, 10), (0, 11), (4, 26), (0, 12), (0, 29), (0, 14), (0, 15), (1, 2), (1, 1), (0, 16), (4, 27), (4, 28), (0, 17), (0, 18)]))]
noncomputable def dP484 : List (Nat × ckC) := [(0, .inl (9, [(4, 10), (1, 1), (4, 11), (4, 12), (4, 13), (4, 14), (4, 15), (4, 16), (4, 17), (4, 18), (4, 19), (4, 20), (4, 21), (4, 22), (1, 2), (4, 23), (0, 0), (0, 1), (0, 2), (0, 3), (0, 4), (0, 5), (0, 6), (4, 24), (0, 7), (4, 25), (0, 8), (0, 9), (0, 10), (0, 11), (4, 26), (0, 12), (0, 30), (0, 14), (0, 15), (1, 2), (1, 1), (0, 16), (4, 27), (4, 28), (0, 17), (0, 18)]))]
-- FarMachineModel.unit
noncomputable def k261 : ckCtr := (88, ([(0, (1, 0))], [], dC479, dT480, dG481, [], [], [(1, 0, 0, 0, [])], 0, 0), [([], [(0, 21)], dP482, [], [], [ckTop, (0, 30), (0, 1)], [], [], [(13, 22, 0), (23, 15, 0), (23, 16, 0), (23, 22, 0)], [(1, 0, 0, 0, [])], 0, 0)], 4, 143, 0, 0)
noncomputable def k261_a : ckAs := [(53, [(262068, [(1, 0, 1, ([(0, (1, 0)), (1, (0, 21)), (2, (0, 27)), (3, (0, 28))], [], dP483, [], [], [ckTop, (0, 3), (0, 30)], [], [], dZ379, [(1, 0, 0, 0, [])], 0, 0))]), (316176, [(1, 0, 1, ([(0, (1, 0)), (1, (0, 21)), (2, (0, 28)), (3, (0, 29))], [], dP484, [], [], [ckTop, (0, 3), (1, 30)], [], [], dZ381, [(1, 0, 0, 0, [])], 0, 0))])])]
noncomputable def k261_c : List (Nat × ckCtr) := [(10, k256), (21, k207), (29, k258), (29, k259), (59, k256), (62, k207), (73, k260)]
theorem k261_ok (l : Launch) : ckCtrOk l ckMT ckTW ckCL k261 := mt_88 (as := k261_a) (cs := k261_c) (gx := []) (f := 200000) rfl (ckHc (k256_ok l) (ckHc (k207_ok l) (ckHc (k258_ok l) (ckHc (k259_ok l) (ckHc (k256_ok l) (ckHc (k207_ok l) (ckHc (k260_ok l) (fun _ h => absurd h List.not_mem_nil)))))))) True.intro (by decide +kernel)
noncomputable def dT485 : List ckI := [(0, 1), (0, 1), ckTop, ckTop, ckTop, ckTop, ckTop, ckTop, ckTop, ckTop, ckTop, ckTop, ckTop, (30, 30), (0, 270), (0, 30), (0, 1), ckTop, (0, 1), (318, 318), (300, 300)]
noncomputable def dP486 : List (Nat × ckC) := [(0, .inl (9, [(4, 10), (1, 1), (4, 11), (4, 12), (4, 13), (4, 14), (4, 15), (4, 16), (4, 17), (4, 18), (4, 19), (4, 20), (4, 21), (4, 22), (1, 2), (4, 23), (0, 0), (0, 1), (0, 2), (0, 3), (0, 4), (0, 5), (0, 6), (4, 24), (0, 7), (4, 25), (0, 8), (0, 9), (0, 10), (0, 11), (4, 26), (0, 12), (0, 13), (0, 14), (0, 15), (1, 2), (1, 1), (0, 21), (4, 27), (4, 28), (0, 17), (0, 18)]))]
-- FarMachineModel.test
noncomputable def k262 : ckCtr := (86, ([(0, (1, 0))], [], dC479, dT485, dG481, [], [], [(1, 0, 0, 0, [])], 0, 0), [([], [(0, 21)], dP486, [], [], [(0, 0)], [], [], [], [(1, 0, 0, 0, [])], 0, 0)], 5, 166, 0, 0)
noncomputable def k262_a : ckAs := []
noncomputable def k262_c : List (Nat × ckCtr) := [(3, k257), (23, k261), (28, k256)]
theorem k262_ok (l : Launch) : ckCtrOk l ckMT ckTW ckCL k262 := mt_86 (as := k262_a) (cs := k262_c) (gx := []) (f := 200000) rfl (ckHc (k257_ok l) (ckHc (k261_ok l) (ckHc (k256_ok l) (fun _ h => absurd h List.not_mem_nil)))) True.intro (by decide +kernel)
noncomputable def dT487 : List ckI := [(0, 1), (0, 1), ckTop, ckTop, ckTop, ckTop, ckTop, ckTop, ckTop, ckTop, ckTop, ckTop, ckTop, (29, 30), (0, 270), (0, 30), (0, 1), ckTop, (0, 1), (318, 318), (300, 300)]
-- FarMachineModel.test
noncomputable def k263 : ckCtr := (86, ([(0, (1, 0))], [], dC479, dT487, dG481, [], [], [(1, 0, 0, 0, [])], 0, 0), [([], [(0, 21)], dP482, [], [], [(0, 1), (29, 30), (0, 1)], [], [], dZ385, [(1, 0, 0, 0, [])], 0, 0)], 6, 189, 0, 0)
noncomputable def k263_a : ckAs := []
noncomputable def k263_c : List (Nat × ckCtr) := [(3, k257), (10, k262), (23, k261), (28, k256), (75, k261)]
theorem k263_ok (l : Launch) : ckCtrOk l ckMT ckTW ckCL k263 := mt_86 (as := k263_a) (cs := k263_c) (gx := []) (f := 200000) rfl (ckHc (k257_ok l) (ckHc (k262_ok l) (ckHc (k261_ok l) (ckHc (k256_ok l) (ckHc (k261_ok l) (fun _ h => absurd h List.not_mem_nil)))))) True.intro (by decide +kernel)
noncomputable def dT488 : List ckI := [(0, 1), (0, 1), ckTop, ckTop, ckTop, ckTop, ckTop, ckTop, ckTop, ckTop, ckTop, ckTop, ckTop, (28, 30), (0, 270), (0, 30), (0, 1), ckTop, (0, 1), (318, 318), (300, 300)]
-- FarMachineModel.test
noncomputable def k264 : ckCtr := (86, ([(0, (1, 0))], [], dC479, dT488, dG481, [], [], [(1, 0, 0, 0, [])], 0, 0), [([], [(0, 21)], dP482, [], [], [(0, 1), (28, 30), (0, 1)], [], [], dZ387, [(1, 0, 0, 0, [])], 0, 0)], 7, 212, 0, 0)
noncomputable def k264_a : ckAs := []
noncomputable def k264_c : List (Nat × ckCtr) := [(3, k257), (10, k263), (23, k261), (28, k256), (75, k261)]
theorem k264_ok (l : Launch) : ckCtrOk l ckMT ckTW ckCL k264 := mt_86 (as := k264_a) (cs := k264_c) (gx := []) (f := 200000) rfl (ckHc (k257_ok l) (ckHc (k263_ok l) (ckHc (k261_ok l) (ckHc (k256_ok l) (ckHc (k261_ok l) (fun _ h => absurd h List.not_mem_nil)))))) True.intro (by decide +kernel)
noncomputable def dT489 : List ckI := [(0, 1), (0, 1), ckTop, ckTop, ckTop, ckTop, ckTop, ckTop, ckTop, ckTop, ckTop, ckTop, ckTop, (27, 30), (0, 270), (0, 30), (0, 1), ckTop, (0, 1), (318, 318), (300, 300)]
-- FarMachineModel.test
noncomputable def k265 : ckCtr := (86, ([(0, (1, 0))], [], dC479, dT489, dG481, [], [], [(1, 0, 0, 0, [])], 0, 0), [([], [(0, 21)], dP482, [], [], [(0, 1), (27, 30), (0, 1)], [], [], dZ389, [(1, 0, 0, 0, [])], 0, 0)], 8, 235, 0, 0)
noncomputable def k265_a : ckAs := []
noncomputable def k265_c : List (Nat × ckCtr) := [(3, k257), (10, k264), (23, k261), (28, k256), (75, k261)]
theorem k265_ok (l : Launch) : ckCtrOk l ckMT ckTW ckCL k265 := mt_86 (as := k265_a) (cs := k265_c) (gx := []) (f := 200000) rfl (ckHc (k257_ok l) (ckHc (k264_ok l) (ckHc (k261_ok l) (ckHc (k256_ok l) (ckHc (k261_ok l) (fun _ h => absurd h List.not_mem_nil)))))) True.intro (by decide +kernel)
noncomputable def dT490 : List ckI := [(0, 1), (0, 1), ckTop, ckTop, ckTop, ckTop, ckTop, ckTop, ckTop, ckTop, ckTop, ckTop, ckTop, (26, 30), (0, 270), (0, 30), (0, 1), ckTop, (0, 1), (318, 318), (300, 300)]
-- FarMachineModel.test
noncomputable def k266 : ckCtr := (86, ([(0, (1, 0))], [], dC479, dT490, dG481, [], [], [(1, 0, 0, 0, [])], 0, 0), [([], [(0, 21)], dP482, [], [], [(0, 1), (26, 30), (0, 1)], [], [], dZ391, [(1, 0, 0, 0, [])], 0, 0)], 9, 258, 0, 0)
noncomputable def k266_a : ckAs := []
noncomputable def k266_c : List (Nat × ckCtr) := [(3, k257), (10, k265), (23, k261), (28, k256), (75, k261)]
theorem k266_ok (l : Launch) : ckCtrOk l ckMT ckTW ckCL k266 := mt_86 (as := k266_a) (cs := k266_c) (gx := []) (f := 200000) rfl (ckHc (k257_ok l) (ckHc (k265_ok l) (ckHc (k261_ok l) (ckHc (k256_ok l) (ckHc (k261_ok l) (fun _ h => absurd h List.not_mem_nil)))))) True.intro (by decide +kernel)
noncomputable def dT491 : List ckI := [(0, 1), (0, 1), ckTop, ckTop, ckTop, ckTop, ckTop, ckTop, ckTop, ckTop, ckTop, ckTop, ckTop, (25, 30), (0, 270), (0, 30), (0, 1), ckTop, (0, 1), (318, 318), (300, 300)]
-- FarMachineModel.test
noncomputable def k267 : ckCtr := (86, ([(0, (1, 0))], [], dC479, dT491, dG481, [], [], [(1, 0, 0, 0, [])], 0, 0), [([], [(0, 21)], dP482, [], [], [(0, 1), (25, 30), (0, 1)], [], [], dZ393, [(1, 0, 0, 0, [])], 0, 0)], 10, 281, 0, 0)
noncomputable def k267_a : ckAs := []
noncomputable def k267_c : List (Nat × ckCtr) := [(3, k257), (10, k266), (23, k261), (28, k256), (75, k261)]
theorem k267_ok (l : Launch) : ckCtrOk l ckMT ckTW ckCL k267 := mt_86 (as := k267_a) (cs := k267_c) (gx := []) (f := 200000) rfl (ckHc (k257_ok l) (ckHc (k266_ok l) (ckHc (k261_ok l) (ckHc (k256_ok l) (ckHc (k261_ok l) (fun _ h => absurd h List.not_mem_nil)))))) True.intro (by decide +kernel)
noncomputable def dT492 : List ckI := [(0, 1), (0, 1), ckTop, ckTop, ckTop, ckTop, ckTop, ckTop, ckTop, ckTop, ckTop, ckTop, ckTop, (24, 30), (0, 270), (0, 30), (0, 1), ckTop, (0, 1), (318, 318), (300, 300)]
-- FarMachineModel.test
noncomputable def k268 : ckCtr := (86, ([(0, (1, 0))], [], dC479, dT492, dG481, [], [], [(1, 0, 0, 0, [])], 0, 0), [([], [(0, 21)], dP482, [], [], [(0, 1), (24, 30), (0, 1)], [], [], dZ395, [(1, 0, 0, 0, [])], 0, 0)], 11, 304, 0, 0)
noncomputable def k268_a : ckAs := []
noncomputable def k268_c : List (Nat × ckCtr) := [(3, k257), (10, k267), (23, k261), (28, k256), (75, k261)]
theorem k268_ok (l : Launch) : ckCtrOk l ckMT ckTW ckCL k268 := mt_86 (as := k268_a) (cs := k268_c) (gx := []) (f := 200000) rfl (ckHc (k257_ok l) (ckHc (k267_ok l) (ckHc (k261_ok l) (ckHc (k256_ok l) (ckHc (k261_ok l) (fun _ h => absurd h List.not_mem_nil)))))) True.intro (by decide +kernel)
noncomputable def dT493 : List ckI := [(0, 1), (0, 1), ckTop, ckTop, ckTop, ckTop, ckTop, ckTop, ckTop, ckTop, ckTop, ckTop, ckTop, (23, 30), (0, 270), (0, 30), (0, 1), ckTop, (0, 1), (318, 318), (300, 300)]
-- FarMachineModel.test
noncomputable def k269 : ckCtr := (86, ([(0, (1, 0))], [], dC479, dT493, dG481, [], [], [(1, 0, 0, 0, [])], 0, 0), [([], [(0, 21)], dP482, [], [], [(0, 1), (23, 30), (0, 1)], [], [], dZ397, [(1, 0, 0, 0, [])], 0, 0)], 12, 327, 0, 0)
noncomputable def k269_a : ckAs := []
noncomputable def k269_c : List (Nat × ckCtr) := [(3, k257), (10, k268), (23, k261), (28, k256), (75, k261)]
theorem k269_ok (l : Launch) : ckCtrOk l ckMT ckTW ckCL k269 := mt_86 (as := k269_a) (cs := k269_c) (gx := []) (f := 200000) rfl (ckHc (k257_ok l) (ckHc (k268_ok l) (ckHc (k261_ok l) (ckHc (k256_ok l) (ckHc (k261_ok l) (fun _ h => absurd h List.not_mem_nil)))))) True.intro (by decide +kernel)
noncomputable def dT494 : List ckI := [(0, 1), (0, 1), ckTop, ckTop, ckTop, ckTop, ckTop, ckTop, ckTop, ckTop, ckTop, ckTop, ckTop, (22, 30), (0, 270), (0, 30), (0, 1), ckTop, (0, 1), (318, 318), (300, 300)]
-- FarMachineModel.test
noncomputable def k270 : ckCtr := (86, ([(0, (1, 0))], [], dC479, dT494, dG481, [], [], [(1, 0, 0, 0, [])], 0, 0), [([], [(0, 21)], dP482, [], [], [(0, 1), (22, 30), (0, 1)], [], [], dZ399, [(1, 0, 0, 0, [])], 0, 0)], 13, 350, 0, 0)
noncomputable def k270_a : ckAs := []
noncomputable def k270_c : List (Nat × ckCtr) := [(3, k257), (10, k269), (23, k261), (28, k256), (75, k261)]
theorem k270_ok (l : Launch) : ckCtrOk l ckMT ckTW ckCL k270 := mt_86 (as := k270_a) (cs := k270_c) (gx := []) (f := 200000) rfl (ckHc (k257_ok l) (ckHc (k269_ok l) (ckHc (k261_ok l) (ckHc (k256_ok l) (ckHc (k261_ok l) (fun _ h => absurd h List.not_mem_nil)))))) True.intro (by decide +kernel)
noncomputable def dT495 : List ckI := [(0, 1), (0, 1), ckTop, ckTop, ckTop, ckTop, ckTop, ckTop, ckTop, ckTop, ckTop, ckTop, ckTop, (21, 30), (0, 270), (0, 30), (0, 1), ckTop, (0, 1), (318, 318), (300, 300)]
-- FarMachineModel.test
noncomputable def k271 : ckCtr := (86, ([(0, (1, 0))], [], dC479, dT495, dG481, [], [], [(1, 0, 0, 0, [])], 0, 0), [([], [(0, 21)], dP482, [], [], [(0, 1), (21, 30), (0, 1)], [], [], dZ401, [(1, 0, 0, 0, [])], 0, 0)], 14, 373, 0, 0)
noncomputable def k271_a : ckAs := []
noncomputable def k271_c : List (Nat × ckCtr) := [(3, k257), (10, k270), (23, k261), (28, k256), (75, k261)]
theorem k271_ok (l : Launch) : ckCtrOk l ckMT ckTW ckCL k271 := mt_86 (as := k271_a) (cs := k271_c) (gx := []) (f := 200000) rfl (ckHc (k257_ok l) (ckHc (k270_ok l) (ckHc (k261_ok l) (ckHc (k256_ok l) (ckHc (k261_ok l) (fun _ h => absurd h List.not_mem_nil)))))) True.intro (by decide +kernel)
noncomputable def dT496 : List ckI := [(0, 1), (0, 1), ckTop, ckTop, ckTop, ckTop, ckTop, ckTop, ckTop, ckTop, ckTop, ckTop, ckTop, (20, 30), (0, 270), (0, 30), (0, 1), ckTop, (0, 1), (318, 318), (300, 300)]
-- FarMachineModel.test
noncomputable def k272 : ckCtr := (86, ([(0, (1, 0))], [], dC479, dT496, dG481, [], [], [(1, 0, 0, 0, [])], 0, 0), [([], [(0, 21)], dP482, [], [], [(0, 1), (20, 30), (0, 1)], [], [], dZ403, [(1, 0, 0, 0, [])], 0, 0)], 15, 396, 0, 0)
noncomputable def k272_a : ckAs := []
noncomputable def k272_c : List (Nat × ckCtr) := [(3, k257), (10, k271), (23, k261), (28, k256), (75, k261)]
theorem k272_ok (l : Launch) : ckCtrOk l ckMT ckTW ckCL k272 := mt_86 (as := k272_a) (cs := k272_c) (gx := []) (f := 200000) rfl (ckHc (k257_ok l) (ckHc (k271_ok l) (ckHc (k261_ok l) (ckHc (k256_ok l) (ckHc (k261_ok l) (fun _ h => absurd h List.not_mem_nil)))))) True.intro (by decide +kernel)
noncomputable def dT497 : List ckI := [(0, 1), (0, 1), ckTop, ckTop, ckTop, ckTop, ckTop, ckTop, ckTop, ckTop, ckTop, ckTop, ckTop, (19, 30), (0, 270), (0, 30), (0, 1), ckTop, (0, 1), (318, 318), (300, 300)]
-- FarMachineModel.test
noncomputable def k273 : ckCtr := (86, ([(0, (1, 0))], [], dC479, dT497, dG481, [], [], [(1, 0, 0, 0, [])], 0, 0), [([], [(0, 21)], dP482, [], [], [(0, 1), (19, 30), (0, 1)], [], [], dZ405, [(1, 0, 0, 0, [])], 0, 0)], 16, 419, 0, 0)
noncomputable def k273_a : ckAs := []
noncomputable def k273_c : List (Nat × ckCtr) := [(3, k257), (10, k272), (23, k261), (28, k256), (75, k261)]
theorem k273_ok (l : Launch) : ckCtrOk l ckMT ckTW ckCL k273 := mt_86 (as := k273_a) (cs := k273_c) (gx := []) (f := 200000) rfl (ckHc (k257_ok l) (ckHc (k272_ok l) (ckHc (k261_ok l) (ckHc (k256_ok l) (ckHc (k261_ok l) (fun _ h => absurd h List.not_mem_nil)))))) True.intro (by decide +kernel)
noncomputable def dT498 : List ckI := [(0, 1), (0, 1), ckTop, ckTop, ckTop, ckTop, ckTop, ckTop, ckTop, ckTop, ckTop, ckTop, ckTop, (18, 30), (0, 270), (0, 30), (0, 1), ckTop, (0, 1), (318, 318), (300, 300)]
-- FarMachineModel.test
noncomputable def k274 : ckCtr := (86, ([(0, (1, 0))], [], dC479, dT498, dG481, [], [], [(1, 0, 0, 0, [])], 0, 0), [([], [(0, 21)], dP482, [], [], [(0, 1), (18, 30), (0, 1)], [], [], dZ407, [(1, 0, 0, 0, [])], 0, 0)], 17, 442, 0, 0)
noncomputable def k274_a : ckAs := []
noncomputable def k274_c : List (Nat × ckCtr) := [(3, k257), (10, k273), (23, k261), (28, k256), (75, k261)]
theorem k274_ok (l : Launch) : ckCtrOk l ckMT ckTW ckCL k274 := mt_86 (as := k274_a) (cs := k274_c) (gx := []) (f := 200000) rfl (ckHc (k257_ok l) (ckHc (k273_ok l) (ckHc (k261_ok l) (ckHc (k256_ok l) (ckHc (k261_ok l) (fun _ h => absurd h List.not_mem_nil)))))) True.intro (by decide +kernel)
noncomputable def dT499 : List ckI := [(0, 1), (0, 1), ckTop, ckTop, ckTop, ckTop, ckTop, ckTop, ckTop, ckTop, ckTop, ckTop, ckTop, (17, 30), (0, 270), (0, 30), (0, 1), ckTop, (0, 1), (318, 318), (300, 300)]
-- FarMachineModel.test
noncomputable def k275 : ckCtr := (86, ([(0, (1, 0))], [], dC479, dT499, dG481, [], [], [(1, 0, 0, 0, [])], 0, 0), [([], [(0, 21)], dP482, [], [], [(0, 1), (17, 30), (0, 1)], [], [], dZ409, [(1, 0, 0, 0, [])], 0, 0)], 18, 465, 0, 0)
noncomputable def k275_a : ckAs := []
noncomputable def k275_c : List (Nat × ckCtr) := [(3, k257), (10, k274), (23, k261), (28, k256), (75, k261)]
theorem k275_ok (l : Launch) : ckCtrOk l ckMT ckTW ckCL k275 := mt_86 (as := k275_a) (cs := k275_c) (gx := []) (f := 200000) rfl (ckHc (k257_ok l) (ckHc (k274_ok l) (ckHc (k261_ok l) (ckHc (k256_ok l) (ckHc (k261_ok l) (fun _ h => absurd h List.not_mem_nil)))))) True.intro (by decide +kernel)
noncomputable def dT500 : List ckI := [(0, 1), (0, 1), ckTop, ckTop, ckTop, ckTop, ckTop, ckTop, ckTop, ckTop, ckTop, ckTop, ckTop, (16, 30), (0, 270), (0, 30), (0, 1), ckTop, (0, 1), (318, 318), (300, 300)]
-- FarMachineModel.test
noncomputable def k276 : ckCtr := (86, ([(0, (1, 0))], [], dC479, dT500, dG481, [], [], [(1, 0, 0, 0, [])], 0, 0), [([], [(0, 21)], dP482, [], [], [(0, 1), (16, 30), (0, 1)], [], [], dZ411, [(1, 0, 0, 0, [])], 0, 0)], 19, 488, 0, 0)
noncomputable def k276_a : ckAs := []
noncomputable def k276_c : List (Nat × ckCtr) := [(3, k257), (10, k275), (23, k261), (28, k256), (75, k261)]
theorem k276_ok (l : Launch) : ckCtrOk l ckMT ckTW ckCL k276 := mt_86 (as := k276_a) (cs := k276_c) (gx := []) (f := 200000) rfl (ckHc (k257_ok l) (ckHc (k275_ok l) (ckHc (k261_ok l) (ckHc (k256_ok l) (ckHc (k261_ok l) (fun _ h => absurd h List.not_mem_nil)))))) True.intro (by decide +kernel)
noncomputable def dT501 : List ckI := [(0, 1), (0, 1), ckTop, ckTop, ckTop, ckTop, ckTop, ckTop, ckTop, ckTop, ckTop, ckTop, ckTop, (15, 30), (0, 270), (0, 30), (0, 1), ckTop, (0, 1), (318, 318), (300, 300)]
-- FarMachineModel.test
noncomputable def k277 : ckCtr := (86, ([(0, (1, 0))], [], dC479, dT501, dG481, [], [], [(1, 0, 0, 0, [])], 0, 0), [([], [(0, 21)], dP482, [], [], [(0, 1), (15, 30), (0, 1)], [], [], dZ413, [(1, 0, 0, 0, [])], 0, 0)], 20, 511, 0, 0)
noncomputable def k277_a : ckAs := []
noncomputable def k277_c : List (Nat × ckCtr) := [(3, k257), (10, k276), (23, k261), (28, k256), (75, k261)]
theorem k277_ok (l : Launch) : ckCtrOk l ckMT ckTW ckCL k277 := mt_86 (as := k277_a) (cs := k277_c) (gx := []) (f := 200000) rfl (ckHc (k257_ok l) (ckHc (k276_ok l) (ckHc (k261_ok l) (ckHc (k256_ok l) (ckHc (k261_ok l) (fun _ h => absurd h List.not_mem_nil)))))) True.intro (by decide +kernel)
noncomputable def dT502 : List ckI := [(0, 1), (0, 1), ckTop, ckTop, ckTop, ckTop, ckTop, ckTop, ckTop, ckTop, ckTop, ckTop, ckTop, (14, 30), (0, 270), (0, 30), (0, 1), ckTop, (0, 1), (318, 318), (300, 300)]
-- FarMachineModel.test
noncomputable def k278 : ckCtr := (86, ([(0, (1, 0))], [], dC479, dT502, dG481, [], [], [(1, 0, 0, 0, [])], 0, 0), [([], [(0, 21)], dP482, [], [], [(0, 1), (14, 30), (0, 1)], [], [], dZ415, [(1, 0, 0, 0, [])], 0, 0)], 21, 534, 0, 0)
noncomputable def k278_a : ckAs := []
noncomputable def k278_c : List (Nat × ckCtr) := [(3, k257), (10, k277), (23, k261), (28, k256), (75, k261)]
theorem k278_ok (l : Launch) : ckCtrOk l ckMT ckTW ckCL k278 := mt_86 (as := k278_a) (cs := k278_c) (gx := []) (f := 200000) rfl (ckHc (k257_ok l) (ckHc (k277_ok l) (ckHc (k261_ok l) (ckHc (k256_ok l) (ckHc (k261_ok l) (fun _ h => absurd h List.not_mem_nil)))))) True.intro (by decide +kernel)
noncomputable def dT503 : List ckI := [(0, 1), (0, 1), ckTop, ckTop, ckTop, ckTop, ckTop, ckTop, ckTop, ckTop, ckTop, ckTop, ckTop, (13, 30), (0, 270), (0, 30), (0, 1), ckTop, (0, 1), (318, 318), (300, 300)]
-- FarMachineModel.test
noncomputable def k279 : ckCtr := (86, ([(0, (1, 0))], [], dC479, dT503, dG481, [], [], [(1, 0, 0, 0, [])], 0, 0), [([], [(0, 21)], dP482, [], [], [(0, 1), (13, 30), (0, 1)], [], [], dZ417, [(1, 0, 0, 0, [])], 0, 0)], 22, 557, 0, 0)
noncomputable def k279_a : ckAs := []
noncomputable def k279_c : List (Nat × ckCtr) := [(3, k257), (10, k278), (23, k261), (28, k256), (75, k261)]
theorem k279_ok (l : Launch) : ckCtrOk l ckMT ckTW ckCL k279 := mt_86 (as := k279_a) (cs := k279_c) (gx := []) (f := 200000) rfl (ckHc (k257_ok l) (ckHc (k278_ok l) (ckHc (k261_ok l) (ckHc (k256_ok l) (ckHc (k261_ok l) (fun _ h => absurd h List.not_mem_nil)))))) True.intro (by decide +kernel)
noncomputable def dT504 : List ckI := [(0, 1), (0, 1), ckTop, ckTop, ckTop, ckTop, ckTop, ckTop, ckTop, ckTop, ckTop, ckTop, ckTop, (12, 30), (0, 270), (0, 30), (0, 1), ckTop, (0, 1), (318, 318), (300, 300)]
-- FarMachineModel.test
noncomputable def k280 : ckCtr := (86, ([(0, (1, 0))], [], dC479, dT504, dG481, [], [], [(1, 0, 0, 0, [])], 0, 0), [([], [(0, 21)], dP482, [], [], [(0, 1), (12, 30), (0, 1)], [], [], dZ419, [(1, 0, 0, 0, [])], 0, 0)], 23, 580, 0, 0)
noncomputable def k280_a : ckAs := []
noncomputable def k280_c : List (Nat × ckCtr) := [(3, k257), (10, k279), (23, k261), (28, k256), (75, k261)]
theorem k280_ok (l : Launch) : ckCtrOk l ckMT ckTW ckCL k280 := mt_86 (as := k280_a) (cs := k280_c) (gx := []) (f := 200000) rfl (ckHc (k257_ok l) (ckHc (k279_ok l) (ckHc (k261_ok l) (ckHc (k256_ok l) (ckHc (k261_ok l) (fun _ h => absurd h List.not_mem_nil)))))) True.intro (by decide +kernel)
noncomputable def dT505 : List ckI := [(0, 1), (0, 1), ckTop, ckTop, ckTop, ckTop, ckTop, ckTop, ckTop, ckTop, ckTop, ckTop, ckTop, (11, 30), (0, 270), (0, 30), (0, 1), ckTop, (0, 1), (318, 318), (300, 300)]
-- FarMachineModel.test
noncomputable def k281 : ckCtr := (86, ([(0, (1, 0))], [], dC479, dT505, dG481, [], [], [(1, 0, 0, 0, [])], 0, 0), [([], [(0, 21)], dP482, [], [], [(0, 1), (11, 30), (0, 1)], [], [], dZ421, [(1, 0, 0, 0, [])], 0, 0)], 24, 603, 0, 0)
noncomputable def k281_a : ckAs := []
noncomputable def k281_c : List (Nat × ckCtr) := [(3, k257), (10, k280), (23, k261), (28, k256), (75, k261)]
theorem k281_ok (l : Launch) : ckCtrOk l ckMT ckTW ckCL k281 := mt_86 (as := k281_a) (cs := k281_c) (gx := []) (f := 200000) rfl (ckHc (k257_ok l) (ckHc (k280_ok l) (ckHc (k261_ok l) (ckHc (k256_ok l) (ckHc (k261_ok l) (fun _ h => absurd h List.not_mem_nil)))))) True.intro (by decide +kernel)
noncomputable def dT506 : List ckI := [(0, 1), (0, 1), ckTop, ckTop, ckTop, ckTop, ckTop, ckTop, ckTop, ckTop, ckTop, ckTop, ckTop, (10, 30), (0, 270), (0, 30), (0, 1), ckTop, (0, 1), (318, 318), (300, 300)]
-- FarMachineModel.test
noncomputable def k282 : ckCtr := (86, ([(0, (1, 0))], [], dC479, dT506, dG481, [], [], [(1, 0, 0, 0, [])], 0, 0), [([], [(0, 21)], dP482, [], [], [(0, 1), (10, 30), (0, 1)], [], [], dZ423, [(1, 0, 0, 0, [])], 0, 0)], 25, 626, 0, 0)
noncomputable def k282_a : ckAs := []
noncomputable def k282_c : List (Nat × ckCtr) := [(3, k257), (10, k281), (23, k261), (28, k256), (75, k261)]
theorem k282_ok (l : Launch) : ckCtrOk l ckMT ckTW ckCL k282 := mt_86 (as := k282_a) (cs := k282_c) (gx := []) (f := 200000) rfl (ckHc (k257_ok l) (ckHc (k281_ok l) (ckHc (k261_ok l) (ckHc (k256_ok l) (ckHc (k261_ok l) (fun _ h => absurd h List.not_mem_nil)))))) True.intro (by decide +kernel)
noncomputable def dT507 : List ckI := [(0, 1), (0, 1), ckTop, ckTop, ckTop, ckTop, ckTop, ckTop, ckTop, ckTop, ckTop, ckTop, ckTop, (9, 30), (0, 270), (0, 30), (0, 1), ckTop, (0, 1), (318, 318), (300, 300)]
-- FarMachineModel.test
noncomputable def k283 : ckCtr := (86, ([(0, (1, 0))], [], dC479, dT507, dG481, [], [], [(1, 0, 0, 0, [])], 0, 0), [([], [(0, 21)], dP482, [], [], [(0, 1), (9, 30), (0, 1)], [], [], dZ425, [(1, 0, 0, 0, [])], 0, 0)], 26, 649, 0, 0)
noncomputable def k283_a : ckAs := []
noncomputable def k283_c : List (Nat × ckCtr) := [(3, k257), (10, k282), (23, k261), (28, k256), (75, k261)]
theorem k283_ok (l : Launch) : ckCtrOk l ckMT ckTW ckCL k283 := mt_86 (as := k283_a) (cs := k283_c) (gx := []) (f := 200000) rfl (ckHc (k257_ok l) (ckHc (k282_ok l) (ckHc (k261_ok l) (ckHc (k256_ok l) (ckHc (k261_ok l) (fun _ h => absurd h List.not_mem_nil)))))) True.intro (by decide +kernel)
noncomputable def dT508 : List ckI := [(0, 1), (0, 1), ckTop, ckTop, ckTop, ckTop, ckTop, ckTop, ckTop, ckTop, ckTop, ckTop, ckTop, (8, 30), (0, 270), (0, 30), (0, 1), ckTop, (0, 1), (318, 318), (300, 300)]
-- FarMachineModel.test
noncomputable def k284 : ckCtr := (86, ([(0, (1, 0))], [], dC479, dT508, dG481, [], [], [(1, 0, 0, 0, [])], 0, 0), [([], [(0, 21)], dP482, [], [], [(0, 1), (8, 30), (0, 1)], [], [], dZ427, [(1, 0, 0, 0, [])], 0, 0)], 27, 672, 0, 0)
noncomputable def k284_a : ckAs := []
noncomputable def k284_c : List (Nat × ckCtr) := [(3, k257), (10, k283), (23, k261), (28, k256), (75, k261)]
theorem k284_ok (l : Launch) : ckCtrOk l ckMT ckTW ckCL k284 := mt_86 (as := k284_a) (cs := k284_c) (gx := []) (f := 200000) rfl (ckHc (k257_ok l) (ckHc (k283_ok l) (ckHc (k261_ok l) (ckHc (k256_ok l) (ckHc (k261_ok l) (fun _ h => absurd h List.not_mem_nil)))))) True.intro (by decide +kernel)
noncomputable def dT509 : List ckI := [(0, 1), (0, 1), ckTop, ckTop, ckTop, ckTop, ckTop, ckTop, ckTop, ckTop, ckTop, ckTop, ckTop, (7, 30), (0, 270), (0, 30), (0, 1), ckTop, (0, 1), (318, 318), (300, 300)]
-- FarMachineModel.test
noncomputable def k285 : ckCtr := (86, ([(0, (1, 0))], [], dC479, dT509, dG481, [], [], [(1, 0, 0, 0, [])], 0, 0), [([], [(0, 21)], dP482, [], [], [(0, 1), (7, 30), (0, 1)], [], [], dZ429, [(1, 0, 0, 0, [])], 0, 0)], 28, 695, 0, 0)
noncomputable def k285_a : ckAs := []
noncomputable def k285_c : List (Nat × ckCtr) := [(3, k257), (10, k284), (23, k261), (28, k256), (75, k261)]
theorem k285_ok (l : Launch) : ckCtrOk l ckMT ckTW ckCL k285 := mt_86 (as := k285_a) (cs := k285_c) (gx := []) (f := 200000) rfl (ckHc (k257_ok l) (ckHc (k284_ok l) (ckHc (k261_ok l) (ckHc (k256_ok l) (ckHc (k261_ok l) (fun _ h => absurd h List.not_mem_nil)))))) True.intro (by decide +kernel)
noncomputable def dT510 : List ckI := [(0, 1), (0, 1), ckTop, ckTop, ckTop, ckTop, ckTop, ckTop, ckTop, ckTop, ckTop, ckTop, ckTop, (6, 30), (0, 270), (0, 30), (0, 1), ckTop, (0, 1), (318, 318), (300, 300)]
-- FarMachineModel.test
noncomputable def k286 : ckCtr := (86, ([(0, (1, 0))], [], dC479, dT510, dG481, [], [], [(1, 0, 0, 0, [])], 0, 0), [([], [(0, 21)], dP482, [], [], [(0, 1), (6, 30), (0, 1)], [], [], dZ431, [(1, 0, 0, 0, [])], 0, 0)], 29, 718, 0, 0)
noncomputable def k286_a : ckAs := []
noncomputable def k286_c : List (Nat × ckCtr) := [(3, k257), (10, k285), (23, k261), (28, k256), (75, k261)]
theorem k286_ok (l : Launch) : ckCtrOk l ckMT ckTW ckCL k286 := mt_86 (as := k286_a) (cs := k286_c) (gx := []) (f := 200000) rfl (ckHc (k257_ok l) (ckHc (k285_ok l) (ckHc (k261_ok l) (ckHc (k256_ok l) (ckHc (k261_ok l) (fun _ h => absurd h List.not_mem_nil)))))) True.intro (by decide +kernel)
noncomputable def dT511 : List ckI := [(0, 1), (0, 1), ckTop, ckTop, ckTop, ckTop, ckTop, ckTop, ckTop, ckTop, ckTop, ckTop, ckTop, (5, 30), (0, 270), (0, 30), (0, 1), ckTop, (0, 1), (318, 318), (300, 300)]
-- FarMachineModel.test
noncomputable def k287 : ckCtr := (86, ([(0, (1, 0))], [], dC479, dT511, dG481, [], [], [(1, 0, 0, 0, [])], 0, 0), [([], [(0, 21)], dP482, [], [], [(0, 1), (5, 30), (0, 1)], [], [], dZ433, [(1, 0, 0, 0, [])], 0, 0)], 30, 741, 0, 0)
noncomputable def k287_a : ckAs := []
noncomputable def k287_c : List (Nat × ckCtr) := [(3, k257), (10, k286), (23, k261), (28, k256), (75, k261)]
theorem k287_ok (l : Launch) : ckCtrOk l ckMT ckTW ckCL k287 := mt_86 (as := k287_a) (cs := k287_c) (gx := []) (f := 200000) rfl (ckHc (k257_ok l) (ckHc (k286_ok l) (ckHc (k261_ok l) (ckHc (k256_ok l) (ckHc (k261_ok l) (fun _ h => absurd h List.not_mem_nil)))))) True.intro (by decide +kernel)
noncomputable def dT512 : List ckI := [(0, 1), (0, 1), ckTop, ckTop, ckTop, ckTop, ckTop, ckTop, ckTop, ckTop, ckTop, ckTop, ckTop, (4, 30), (0, 270), (0, 30), (0, 1), ckTop, (0, 1), (318, 318), (300, 300)]
-- FarMachineModel.test
noncomputable def k288 : ckCtr := (86, ([(0, (1, 0))], [], dC479, dT512, dG481, [], [], [(1, 0, 0, 0, [])], 0, 0), [([], [(0, 21)], dP482, [], [], [(0, 1), (4, 30), (0, 1)], [], [], dZ435, [(1, 0, 0, 0, [])], 0, 0)], 31, 764, 0, 0)
noncomputable def k288_a : ckAs := []
noncomputable def k288_c : List (Nat × ckCtr) := [(3, k257), (10, k287), (23, k261), (28, k256), (75, k261)]
theorem k288_ok (l : Launch) : ckCtrOk l ckMT ckTW ckCL k288 := mt_86 (as := k288_a) (cs := k288_c) (gx := []) (f := 200000) rfl (ckHc (k257_ok l) (ckHc (k287_ok l) (ckHc (k261_ok l) (ckHc (k256_ok l) (ckHc (k261_ok l) (fun _ h => absurd h List.not_mem_nil)))))) True.intro (by decide +kernel)
noncomputable def dT513 : List ckI := [(0, 1), (0, 1), ckTop, ckTop, ckTop, ckTop, ckTop, ckTop, ckTop, ckTop, ckTop, ckTop, ckTop, (3, 30), (0, 270), (0, 30), (0, 1), ckTop, (0, 1), (318, 318), (300, 300)]
-- FarMachineModel.test
noncomputable def k289 : ckCtr := (86, ([(0, (1, 0))], [], dC479, dT513, dG481, [], [], [(1, 0, 0, 0, [])], 0, 0), [([], [(0, 21)], dP482, [], [], [(0, 1), (3, 30), (0, 1)], [], [], dZ437, [(1, 0, 0, 0, [])], 0, 0)], 32, 787, 0, 0)
noncomputable def k289_a : ckAs := []
noncomputable def k289_c : List (Nat × ckCtr) := [(3, k257), (10, k288), (23, k261), (28, k256), (75, k261)]
theorem k289_ok (l : Launch) : ckCtrOk l ckMT ckTW ckCL k289 := mt_86 (as := k289_a) (cs := k289_c) (gx := []) (f := 200000) rfl (ckHc (k257_ok l) (ckHc (k288_ok l) (ckHc (k261_ok l) (ckHc (k256_ok l) (ckHc (k261_ok l) (fun _ h => absurd h List.not_mem_nil)))))) True.intro (by decide +kernel)
noncomputable def dT514 : List ckI := [(0, 1), (0, 1), ckTop, ckTop, ckTop, ckTop, ckTop, ckTop, ckTop, ckTop, ckTop, ckTop, ckTop, (2, 30), (0, 270), (0, 30), (0, 1), ckTop, (0, 1), (318, 318), (300, 300)]
-- FarMachineModel.test
noncomputable def k290 : ckCtr := (86, ([(0, (1, 0))], [], dC479, dT514, dG481, [], [], [(1, 0, 0, 0, [])], 0, 0), [([], [(0, 21)], dP482, [], [], [(0, 1), (2, 30), (0, 1)], [], [], dZ439, [(1, 0, 0, 0, [])], 0, 0)], 33, 810, 0, 0)
noncomputable def k290_a : ckAs := []
noncomputable def k290_c : List (Nat × ckCtr) := [(3, k257), (10, k289), (23, k261), (28, k256), (75, k261)]
theorem k290_ok (l : Launch) : ckCtrOk l ckMT ckTW ckCL k290 := mt_86 (as := k290_a) (cs := k290_c) (gx := []) (f := 200000) rfl (ckHc (k257_ok l) (ckHc (k289_ok l) (ckHc (k261_ok l) (ckHc (k256_ok l) (ckHc (k261_ok l) (fun _ h => absurd h List.not_mem_nil)))))) True.intro (by decide +kernel)
noncomputable def dT515 : List ckI := [(0, 1), (0, 1), ckTop, ckTop, ckTop, ckTop, ckTop, ckTop, ckTop, ckTop, ckTop, ckTop, ckTop, (1, 30), (0, 270), (0, 30), (0, 1), ckTop, (0, 1), (318, 318), (300, 300)]
-- FarMachineModel.test
noncomputable def k291 : ckCtr := (86, ([(0, (1, 0))], [], dC479, dT515, dG481, [], [], [(1, 0, 0, 0, [])], 0, 0), [([], [(0, 21)], dP482, [], [], [(0, 1), (1, 30), (0, 1)], [], [], dZ441, [(1, 0, 0, 0, [])], 0, 0)], 34, 833, 0, 0)
noncomputable def k291_a : ckAs := []
noncomputable def k291_c : List (Nat × ckCtr) := [(3, k257), (10, k290), (23, k261), (28, k256), (75, k261)]
theorem k291_ok (l : Launch) : ckCtrOk l ckMT ckTW ckCL k291 := mt_86 (as := k291_a) (cs := k291_c) (gx := []) (f := 200000) rfl (ckHc (k257_ok l) (ckHc (k290_ok l) (ckHc (k261_ok l) (ckHc (k256_ok l) (ckHc (k261_ok l) (fun _ h => absurd h List.not_mem_nil)))))) True.intro (by decide +kernel)
-- FarMachineModel.test
noncomputable def k292 : ckCtr := (86, ([(0, (1, 0))], [], dC479, dT480, dG481, [], [], [(1, 0, 0, 0, [])], 0, 0), [([], [(0, 21)], dP482, [], [], [(0, 1), (0, 30), (0, 1)], [], [], dZ442, [(1, 0, 0, 0, [])], 0, 0)], 35, 856, 0, 0)
noncomputable def k292_a : ckAs := []
noncomputable def k292_c : List (Nat × ckCtr) := [(3, k257), (10, k291), (23, k261), (28, k256), (75, k261)]
theorem k292_ok (l : Launch) : ckCtrOk l ckMT ckTW ckCL k292 := mt_86 (as := k292_a) (cs := k292_c) (gx := []) (f := 200000) rfl (ckHc (k257_ok l) (ckHc (k291_ok l) (ckHc (k261_ok l) (ckHc (k256_ok l) (ckHc (k261_ok l) (fun _ h => absurd h List.not_mem_nil)))))) True.intro (by decide +kernel)
noncomputable def dT516 : List ckI := [(38, 38), (0, 1), (0, 1), ckTop, ckTop, ckTop, ckTop, ckTop, ckTop, ckTop, ckTop, ckTop, ckTop, ckTop, (0, 30), (0, 270), (0, 30), (0, 1), ckTop, (0, 1), (300, 300)]
-- FarMachineModel.takes
noncomputable def k293 : ckCtr := (84, ([(0, (1, 0)), (1, (0, 0))], [], dC470, dT516, [([(300, ckTop)], [], [])], [], [], [], 0, 0), [([], [(0, 21)], [], [], [], [(0, 0)], [], [], [], [], 0, 0), ([], [(0, 21)], dP472, [], [(14, (0, 29)), (16, (1, 30)), (17, (1, 1))], [(1, 1), (1, 30)], [], [], [(14, 16, (-1)), (14, 22, (-1)), (22, 14, 1), (22, 16, 0)], [], 0, 0)], 2, 100, 0, 0)
noncomputable def k293_a : ckAs := []
noncomputable def k293_c : List (Nat × ckCtr) := [(8, k256)]
theorem k293_ok (l : Launch) : ckCtrOk l ckMT ckTW ckCL k293 := mt_84 (as := k293_a) (cs := k293_c) (gx := []) (f := 200000) rfl (ckHc (k256_ok l) (fun _ h => absurd h List.not_mem_nil)) True.intro (by decide +kernel)
noncomputable def dT517 : List ckI := [(0, 1), (0, 1), ckTop, ckTop, ckTop, ckTop, ckTop, ckTop, ckTop, ckTop, ckTop, ckTop, ckTop, (0, 0), (0, 270), (0, 30), (0, 1), ckTop, (0, 1), (318, 318), (300, 300)]
noncomputable def dP518 : List (Nat × ckC) := [(0, .inl (9, [(4, 10), (1, 1), (4, 11), (4, 12), (4, 13), (4, 14), (4, 15), (4, 16), (4, 17), (4, 18), (4, 19), (4, 20), (4, 21), (4, 22), (1, 2), (4, 23), (0, 0), (0, 1), (0, 2), (0, 3), (0, 4), (0, 5), (0, 6), (4, 24), (0, 7), (4, 25), (0, 8), (0, 9), (0, 10), (0, 11), (4, 26), (0, 12), (0, 25), (0, 14), (0, 15), (1, 2), (1, 1), (0, 26), (4, 27), (4, 28), (0, 17), (0, 18)]))]
-- FarMachineModel.and
noncomputable def k294 : ckCtr := (85, ([(0, (1, 0))], [], dC479, dT517, dG481, [], [], [(1, 0, 0, 0, [])], 0, 0), [([], [(0, 21)], dP482, [], [], [(0, 1), (0, 30), (0, 1)], [], [], dZ445, [(1, 0, 0, 0, [])], 0, 0)], 36, 879, 0, 0)
noncomputable def k294_a : ckAs := [(5, [(274191, [(1, 0, 1, ([(0, (1, 0)), (1, (0, 24))], [], dP518, [], [], [(0, 1), (0, 30), (0, 1)], [], [], dZ447, [(1, 0, 0, 0, [])], 0, 0))])])]
noncomputable def k294_c : List (Nat × ckCtr) := [(1, k292), (8, k293), (15, k291)]
theorem k294_ok (l : Launch) : ckCtrOk l ckMT ckTW ckCL k294 := mt_85 (as := k294_a) (cs := k294_c) (gx := []) (f := 200000) rfl (ckHc (k292_ok l) (ckHc (k293_ok l) (ckHc (k291_ok l) (fun _ h => absurd h List.not_mem_nil)))) True.intro (by decide +kernel)
noncomputable def dC519 : List ckC := [.inl (9, [(4, 10), (1, 2), (4, 11), (4, 12), (4, 13), (4, 14), (4, 15), (4, 16), (4, 17), (4, 18), (4, 19), (4, 20), (4, 21), (4, 22), (1, 1), (4, 23), (0, 2), (0, 3), (0, 4), (0, 5), (0, 6), (0, 7), (0, 8), (4, 24), (0, 9), (4, 25), (0, 10), (0, 11), (0, 12), (0, 13), (4, 26), (0, 14), (0, 15), (0, 16), (0, 17), (5, 0), (5, 0), (0, 18), (4, 27), (4, 28), (0, 19), (0, 20)]), .inr (0, 21, 0), .inr (0, 22, 1)]
noncomputable def dT520 : List ckI := [(0, 270), (0, 30), (0, 1), (0, 1), ckTop, ckTop, ckTop, ckTop, ckTop, ckTop, ckTop, ckTop, ckTop, ckTop, ckTop, ckTop, ckTop, ckTop, (0, 1), ckTop, (0, 1), (300, 300), (318, 318)]
noncomputable def dG521 : List ckG := [([(300, ckTop)], [], []), ([(48, ckTop), (49, (0, 47)), (55, ckTop), (56, ckTop), (58, ckTop), (59, ckTop), (76, ckTop), (77, (0, 30)), (197, ckTop), (198, (0, 60)), (318, ckTop)], [], [])]
noncomputable def dP522 : List (Nat × ckC) := [(0, .inl (9, [(4, 10), (1, 2), (4, 11), (4, 12), (4, 13), (4, 14), (4, 15), (4, 16), (4, 17), (4, 18), (4, 19), (4, 20), (4, 21), (4, 22), (1, 1), (4, 23), (0, 2), (0, 3), (0, 4), (0, 5), (0, 6), (0, 7), (0, 8), (4, 24), (0, 9), (4, 25), (0, 10), (0, 11), (0, 12), (0, 13), (4, 26), (0, 14), (0, 24), (0, 0), (0, 1), (1, 1), (1, 2), (0, 25), (4, 27), (4, 28), (0, 19), (0, 20)]))]
-- FarMachineModel.goesThrough
noncomputable def k295 : ckCtr := (90, ([(0, (1, 0)), (1, (1, 1)), (2, (0, 0)), (3, (0, 1)), (4, (1, 2))], [], dC519, dT520, dG521, [], [], [(1, 1, 0, 0, [])], 0, 0), [([], [(0, 23)], dP522, [], [], [(0, 1), (0, 30), (0, 1)], [], [], [(23, 1, 0), (23, 24, 0), (25, 1, 0), (25, 24, 0)], [(1, 1, 0, 0, [])], 0, 0)], 37, 901, 0, 0)
noncomputable def k295_a : ckAs := []
noncomputable def k295_c : List (Nat × ckCtr) := [(32, k294)]
theorem k295_ok (l : Launch) : ckCtrOk l ckMT ckTW ckCL k295 := mt_90 (as := k295_a) (cs := k295_c) (gx := []) (f := 200000) rfl (ckHc (k294_ok l) (fun _ h => absurd h List.not_mem_nil)) True.intro (by decide +kernel)
noncomputable def dC523 : List ckC := [.inl (9, [(4, 10), (1, 1), (4, 11), (4, 12), (4, 13), (4, 14), (4, 15), (4, 16), (4, 17), (4, 18), (4, 19), (4, 20), (4, 21), (4, 22), (1, 2), (1, 3), (0, 1), (0, 2), (0, 3), (0, 4), (0, 5), (0, 6), (0, 7), (4, 23), (0, 8), (4, 24), (0, 9), (0, 10), (0, 11), (0, 12), (4, 25), (0, 13), (0, 14), (0, 15), (0, 16), (5, 0), (5, 0), (0, 17), (4, 26), (4, 27), (0, 18), (0, 19)]), .inr (0, 20, 0), .inr (0, 21, 1), .inr (0, 22, 2)]
noncomputable def dT524 : List ckI := [(0, 9), (0, 1), (0, 1), ckTop, ckTop, ckTop, ckTop, ckTop, ckTop, ckTop, ckTop, ckTop, ckTop, ckTop, ckTop, ckTop, ckTop, (0, 1), ckTop, (0, 1), (318, 318), (300, 300), (10, 10)]
noncomputable def dG525 : List ckG := [([(48, ckTop), (49, (0, 47)), (55, ckTop), (56, ckTop), (58, ckTop), (59, ckTop), (76, ckTop), (77, (0, 30)), (197, ckTop), (198, (0, 60)), (318, ckTop)], [], []), ([(300, ckTop)], [], []), ([(10, (0, 30))], [], [])]
noncomputable def dP526 : List (Nat × ckC) := [(0, .inl (9, [(4, 10), (1, 1), (4, 11), (4, 12), (4, 13), (4, 14), (4, 15), (4, 16), (4, 17), (4, 18), (4, 19), (4, 20), (4, 21), (4, 22), (1, 2), (1, 3), (0, 1), (0, 2), (0, 3), (0, 4), (0, 5), (0, 6), (0, 7), (4, 23), (0, 8), (4, 24), (0, 9), (0, 10), (0, 11), (0, 12), (4, 25), (0, 13), (0, 24), (0, 25), (0, 26), (1, 2), (1, 1), (0, 27), (4, 26), (4, 27), (0, 18), (0, 19)]))]
-- FarMachineModel.isSo
noncomputable def k296 : ckCtr := (92, ([(0, (1, 0)), (1, (0, 0)), (2, (1, 1))], [], dC523, dT524, dG525, [], [], [(1, 0, 0, 0, [])], 0, 0), [([], [(0, 23)], dP526, [], [], [(0, 1), (0, 30), (0, 270), (0, 30), (0, 1)], [], [], [(23, 24, 0), (23, 26, 0), (27, 24, 0), (27, 26, 0)], [(1, 0, 0, 0, [])], 0, 0)], 38, 925, 0, 0)
noncomputable def k296_a : ckAs := []
noncomputable def k296_c : List (Nat × ckCtr) := [(16, k295)]
theorem k296_ok (l : Launch) : ckCtrOk l ckMT ckTW ckCL k296 := mt_92 (as := k296_a) (cs := k296_c) (gx := []) (f := 200000) rfl (ckHc (k295_ok l) (fun _ h => absurd h List.not_mem_nil)) True.intro (by decide +kernel)
