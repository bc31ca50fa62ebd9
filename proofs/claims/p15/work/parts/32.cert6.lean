/-! THE CHECKER: contracts with their certificates (printed by wip/gen2/p14gen.py) -/
noncomputable def dC527 : List ckC := [.inl (9, [(1, 1), (1, 2), (4, 10), (4, 11), (4, 12), (4, 13), (4, 14), (4, 15), (4, 16), (4, 17), (4, 18), (4, 19), (4, 20), (4, 21), (1, 3), (1, 4), (0, 1), (0, 2), (0, 3), (0, 4), (0, 5), (0, 6), (0, 7), (4, 22), (0, 8), (4, 23), (0, 9), (0, 10), (0, 11), (0, 12), (4, 24), (0, 13), (0, 14), (0, 15), (0, 16), (5, 0), (5, 0), (0, 17), (4, 25), (4, 26), (0, 18), (0, 19)]), .inr (0, 20, 0), .inr (0, 21, 1), .inr (0, 22, 2), .inr (0, 23, 3)]
noncomputable def dT528 : List ckI := [ckTop, (0, 1), (0, 1), (0, 8), (0, 40), (0, 6), (0, 8), (0, 10), (0, 126000), ckTop, ckTop, ckTop, ckTop, (0, 30), ckTop, ckTop, ckTop, (0, 1), ckTop, (0, 1), (7, 7), (318, 318), (300, 300), (10, 10), (1, 99), (0, 126000)]
noncomputable def dG529 : List ckG := [([(7, ckTop)], [], []), ([(48, ckTop), (49, (0, 47)), (50, ckTop), (51, ckTop), (52, ckTop), (54, ckTop), (55, ckTop), (56, ckTop), (57, ckTop), (58, ckTop), (59, ckTop), (76, ckTop), (77, (0, 30)), (197, ckTop), (198, (0, 60)), (318, ckTop)], [(55, 24), (58, 25)], []), ([(300, ckTop)], [], []), ([(10, (0, 30))], [], [])]
noncomputable def dP530 : List (Nat × ckC) := [(0, .inl (9, [(1, 1), (1, 2), (4, 10), (4, 11), (4, 12), (4, 13), (4, 14), (4, 15), (4, 16), (4, 17), (4, 18), (4, 19), (4, 20), (4, 21), (1, 3), (1, 4), (0, 1), (0, 2), (0, 3), (0, 4), (0, 5), (0, 6), (0, 7), (4, 22), (0, 8), (4, 23), (0, 9), (0, 10), (0, 11), (0, 12), (4, 24), (0, 13), (0, 27), (0, 28), (0, 29), (5, 0), (5, 0), (0, 30), (4, 25), (4, 26), (0, 18), (0, 19)])), (1, .inr (0, 20, 4))]
-- FarMachineModel.holds
noncomputable def k297 : ckCtr := (93, ([(0, (1, 0)), (1, (0, 0))], [], dC527, dT528, dG529, [], [], [(1, 1, 0, 0, [])], 0, 0), [([], [(0, 26)], dP530, [], [], [(-1, 1), ckTop, ckTop, ckTop, (0, 1)], [([(1, ckTop), (2, ckTop), (7, ckTop)], [], [])], [], [(26, 7, 0)], [(1, 1, 0, 0, [])], 0, 0)], 39, 947, 0, 0)
noncomputable def k297_a : ckAs := []
noncomputable def k297_c : List (Nat × ckCtr) := [(5, k255), (17, k296), (33, k22)]
theorem k297_ok (l : Launch) : ckCtrOk l ckMT ckTW ckCL k297 := mt_93 (as := k297_a) (cs := k297_c) (gx := []) (f := 200000) rfl (ckHc (k255_ok l) (ckHc (k296_ok l) (ckHc (k22_ok l) (fun _ h => absurd h List.not_mem_nil)))) True.intro (by decide +kernel)
-- FarMachine$Rows.hasRoom
noncomputable def k298 : ckCtr := (152, ([(0, (1, 0))], [], [.inl (3, [(4, 10), (0, 0), (0, 1)])], [ckTop, ckTop], [], [], [], [], 0, 0), [([], [(0, 2)], [], [], [(1, (0, 255))], [(1, 1)], [], [], [], [], 0, 0), ([], [(0, 2)], [], [], [], [(0, 0)], [], [], [], [], 0, 0)], 1, 80, 0, 0)
noncomputable def k298_a : ckAs := []
noncomputable def k298_c : List (Nat × ckCtr) := []
theorem k298_ok (l : Launch) : ckCtrOk l ckMT ckTW ckCL k298 := mt_152 (as := k298_a) (cs := k298_c) (gx := []) (f := 200000) rfl (fun _ h => absurd h List.not_mem_nil) True.intro (by decide +kernel)
-- FarMachine$Rows.begin
noncomputable def k299 : ckCtr := (153, ([(0, (1, 0))], [], [.inl (3, [(1, 1), (0, 0), (0, 1)]), .inr (1, 2, 0)], [ckTop, ckTop, (2048, 2048)], [([(2048, (0, 0))], [], [])], [], [], [], 0, 0), [([], [], [(0, .inl (3, [(1, 1), (0, 3), (0, 1)]))], [], [], [(0, 0)], [], [], [], [], 0, 0)], 2, 100, 0, 0)
noncomputable def k299_a : ckAs := [(7, [(367430, [(1, 0, 0, ([(0, (1, 0)), (1, (0, 5))], [], [], [], [], [(0, 8)], [], [], [], [], 0, 0))])])]
noncomputable def k299_c : List (Nat × ckCtr) := [(14, k298)]
theorem k299_ok (l : Launch) : ckCtrOk l ckMT ckTW ckCL k299 := mt_153 (as := k299_a) (cs := k299_c) (gx := []) (f := 200000) rfl (ckHc (k298_ok l) (fun _ h => absurd h List.not_mem_nil)) True.intro (by decide +kernel)
-- FarMachine$Rows.add
noncomputable def k300 : ckCtr := (154, ([(0, (1, 0)), (1, (0, 0))], [], [.inl (3, [(1, 1), (0, 1), (0, 2)]), .inr (1, 3, 0)], [ckTop, ckTop, ckTop, (2048, 2048)], [([(2048, (0, 0))], [], [])], [], [], [], 0, 0), [([], [], [], [], [], [], [], [], [], [], 0, 0), ([], [], [(0, .inl (3, [(1, 1), (0, 4), (0, 2)]))], [], [(1, (0, 59)), (2, (0, 255))], [(1, 60)], [], [], [(1, 4, (-1)), (4, 1, 1)], [], 0, 0), ([], [], [], [], [(1, (60, 2147483647)), (2, (0, 255))], [], [], [], [], [], 0, 0), ([], [], [], [], [(1, (-2147483648, -1)), (2, (0, 255))], [], [], [], [], [], 0, 0)], 2, 100, 0, 0)
noncomputable def k300_a : ckAs := []
noncomputable def k300_c : List (Nat × ckCtr) := [(1, k298)]
theorem k300_ok (l : Launch) : ckCtrOk l ckMT ckTW ckCL k300 := mt_154 (as := k300_a) (cs := k300_c) (gx := []) (f := 200000) rfl (ckHc (k298_ok l) (fun _ h => absurd h List.not_mem_nil)) True.intro (by decide +kernel)
noncomputable def dC531 : List ckC := [.inl (5, [(1, 2), (1, 3), (1, 4), (1, 5), (1, 6), (0, 0)]), .inr (0, 1, 0), .inr (0, 2, 1), .inr (0, 2, 2), .inr (0, 2, 3), .inr (0, 2, 4), .inr (0, 3, 5)]
-- FarMachine$Rules.firstTrue
noncomputable def k301 : ckCtr := (173, ([(0, (1, 0)), (1, (1, 1))], [], dC531, [(0, 10), (8, 8), (70, 70), (10, 10)], dG463, [], [], [], 0, 0), [([], [(0, 4)], [], [], [(0, (1, 10))], [(0, 9)], [], [], [(4, 0, (-1))], [], 0, 0), ([], [(0, 4)], [], [], [], [(-9, -9)], [], [], [], [], 0, 0)], 4, 151, 0, 0)
noncomputable def k301_a : ckAs := [(2, [(352605, [(1, 0, 0, ([(0, (1, 0)), (1, (1, 1)), (2, (0, 5))], [], [], [], [], [(0, 10)], [], [], [(5, 0, 0)], [], 0, 0))])])]
noncomputable def k301_c : List (Nat × ckCtr) := [(13, k253)]
theorem k301_ok (l : Launch) : ckCtrOk l ckMT ckTW ckCL k301 := mt_173 (as := k301_a) (cs := k301_c) (gx := []) (f := 200000) rfl (ckHc (k253_ok l) (fun _ h => absurd h List.not_mem_nil)) True.intro (by decide +kernel)
noncomputable def dC532 : List ckC := [.inl (6, [(1, 1), (4, 10), (1, 2), (1, 3), (1, 4), (0, 1), (0, 2), (0, 3), (0, 4), (0, 5)]), .inl (7, [(4, 11), (4, 12), (0, 6), (4, 13), (4, 14), (4, 15), (4, 16), (1, 5), (4, 17), (4, 18)]), .inl (2, [(1, 6), (1, 7), (1, 8), (0, 7), (0, 8), (0, 9), (0, 10), (0, 11), (0, 12), (0, 13), (0, 14), (0, 15), (0, 16), (0, 17), (0, 18), (0, 19)]), .inr (0, 20, 0), .inl (3, [(1, 9), (0, 21), (0, 22)]), .inl (5, [(1, 10), (1, 11), (1, 12), (1, 13), (1, 14), (0, 23)]), .inr (0, 24, 1), .inr (0, 20, 2), .inl (1, [(1, 15), (1, 16), (1, 17), (1, 18), (0, 25)]), .inr (1, 26, 3), .inr (0, 27, 4), .inr (0, 27, 5), .inr (0, 27, 6), .inr (0, 27, 7), .inr (0, 28, 8), .inr (0, 29, 9), .inr (0, 29, 10), .inr (0, 29, 11), .inr (0, 29, 12)]
noncomputable def dT533 : List ckI := [ckTop, ckTop, ckTop, ckTop, ckTop, (0, 1), (0, 1), ckTop, ckTop, ckTop, ckTop, ckTop, ckTop, ckTop, ckTop, ckTop, ckTop, ckTop, ckTop, ckTop, (8, 8), ckTop, ckTop, (0, 10), (48, 48), ckTop, (2048, 2048), (70, 70), (10, 10), (30, 30)]
noncomputable def dG534 : List ckG := [([(8, ckTop)], [], []), ([(48, ckTop)], [], []), ([(8, ckTop)], [], []), ([(2048, (0, 0))], [], []), ([(70, ckTop)], [], []), ([(70, ckTop)], [], []), ([(70, ckTop)], [], []), ([(70, ckTop)], [], []), ([(10, ckTop)], [], []), ([(30, ckTop)], [], []), ([(30, ckTop)], [], []), ([(30, ckTop)], [], []), ([(30, ckTop)], [], [])]
noncomputable def dP535 : List (Nat × ckC) := [(2, .inl (2, [(1, 6), (1, 7), (1, 8), (0, 31), (0, 32), (0, 33), (0, 34), (0, 35), (0, 36), (0, 37), (0, 14), (0, 15), (0, 16), (0, 17), (0, 38), (0, 39)])), (3, .inr (0, 20, 13)), (4, .inl (3, [(1, 9), (0, 40), (0, 22)])), (6, .inr (0, 24, 14)), (8, .inl (1, [(1, 15), (1, 16), (1, 17), (1, 18), (0, 41)])), (15, .inr (0, 29, 15)), (16, .inr (0, 29, 16)), (17, .inr (0, 29, 17)), (18, .inr (0, 29, 18))]
noncomputable def dT536 : List ckI := [ckTop, ckTop, ckTop, ckTop, ckTop, ckTop, ckTop, ckTop, ckTop, ckTop, (0, 60), ckTop]
noncomputable def dG537 : List ckG := [([(1, ckTop), (2, ckTop), (3, ckTop), (4, ckTop), (5, ckTop), (6, ckTop), (7, ckTop), (8, ckTop)], [], []), ([(48, ckTop)], [], []), ([(30, ckTop)], [], []), ([(30, ckTop)], [], []), ([(30, ckTop)], [], []), ([(30, ckTop)], [], [])]
noncomputable def dP538 : List (Nat × ckC) := [(2, .inl (2, [(1, 6), (1, 7), (1, 8), (0, 35), (0, 36), (0, 37), (0, 38), (0, 39), (0, 40), (0, 41), (0, 14), (0, 15), (0, 16), (0, 17), (0, 42), (0, 43)])), (3, .inr (0, 20, 13)), (4, .inl (3, [(1, 9), (0, 44), (0, 22)])), (6, .inr (0, 24, 14)), (8, .inl (1, [(1, 15), (1, 16), (1, 17), (1, 18), (0, 45)])), (15, .inr (0, 29, 15)), (16, .inr (0, 29, 16)), (17, .inr (0, 29, 17)), (18, .inr (0, 29, 18))]
noncomputable def dT539 : List ckI := [ckTop, (0, 2147483647), ckTop, ckTop, ckTop, ckTop, ckTop, ckTop, ckTop, ckTop, ckTop, (0, 60), ckTop]
-- FarMachine$Trials.goOn
noncomputable def k302 : ckCtr := (180, ([(0, (1, 0)), (1, (0, 0))], [], dC532, dT533, dG534, [], [], [], 0, 0), [([], [(0, 30)], dP535, [], [], dT536, dG537, [], [], [], 0, 0)], 6, 193, 0, 0)
noncomputable def k302_a : ckAs := [(12, [(359473, [(1, 0, 1, ([(0, (1, 0)), (1, (0, 0)), (2, (0, 33)), (3, (0, 34))], [], dP538, [], [], dT539, dG537, [], [(44, 34, 0)], [], 0, 0))])])]
noncomputable def k302_c : List (Nat × ckCtr) := [(7, k299), (21, k87), (40, k300), (57, k249), (71, k301)]
theorem k302_ok (l : Launch) : ckCtrOk l ckMT ckTW ckCL k302 := mt_180 (as := k302_a) (cs := k302_c) (gx := []) (f := 200000) rfl (ckHc (k299_ok l) (ckHc (k87_ok l) (ckHc (k300_ok l) (ckHc (k249_ok l) (ckHc (k301_ok l) (fun _ h => absurd h List.not_mem_nil)))))) True.intro (by decide +kernel)
noncomputable def dC540 : List ckC := [.inl (8, [(1, 1), (4, 10), (0, 2), (4, 11), (4, 12), (1, 2), (4, 13), (1, 3)]), .inl (7, [(4, 14), (1, 4), (0, 3), (4, 15), (4, 16), (1, 5), (1, 6), (1, 7), (4, 17), (4, 18)]), .inl (6, [(1, 1), (4, 11), (1, 8), (1, 9), (1, 10), (0, 4), (0, 5), (0, 6), (0, 7), (0, 8)]), .inr (0, 9, 0), .inl (2, [(1, 11), (1, 12), (1, 13), (0, 10), (0, 11), (0, 12), (0, 13), (0, 14), (0, 15), (0, 16), (0, 17), (0, 18), (0, 19), (0, 20), (0, 21), (0, 22)]), .inl (0, [(1, 14), (0, 23)]), .inl (0, [(1, 15), (0, 24)]), .inl (5, [(1, 16), (1, 17), (1, 18), (1, 19), (1, 20), (0, 25)]), .inl (2, [(1, 21), (1, 22), (1, 23), (0, 26), (0, 27), (0, 28), (0, 29), (0, 30), (0, 31), (0, 32), (0, 33), (0, 34), (0, 35), (0, 36), (0, 37), (0, 38)]), .inr (0, 39, 1), .inl (3, [(1, 24), (0, 40), (0, 41)]), .inr (0, 42, 2), .inr (0, 39, 3), .inl (1, [(1, 25), (1, 26), (1, 27), (1, 28), (0, 43)]), .inr (0, 39, 4), .inr (0, 39, 5), .inr (0, 44, 6), .inr (0, 44, 7), .inr (0, 44, 8), .inr (0, 44, 9), .inr (0, 45, 10), .inr (0, 42, 11), .inr (0, 39, 12), .inl (1, [(1, 29), (1, 30), (1, 31), (1, 32), (0, 46)]), .inr (1, 47, 13), .inr (0, 48, 14), .inr (0, 48, 15), .inr (0, 48, 16), .inr (0, 48, 17), .inr (0, 48, 18), .inr (0, 48, 19), .inr (0, 48, 20), .inr (0, 48, 21)]
noncomputable def dT541 : List ckI := [ckTop, ckTop, (0, 1), (0, 1), ckTop, ckTop, ckTop, ckTop, (0, 1), (7, 7), ckTop, ckTop, ckTop, ckTop, ckTop, ckTop, ckTop, ckTop, ckTop, ckTop, ckTop, ckTop, ckTop, ckTop, ckTop, (0, 10), ckTop, ckTop, ckTop, ckTop, ckTop, ckTop, ckTop, ckTop, ckTop, ckTop, ckTop, ckTop, ckTop, (8, 8), ckTop, ckTop, (48, 48), ckTop, (70, 70), (10, 10), ckTop, (2048, 2048), (30, 30)]
noncomputable def dG542 : List ckG := [([(7, ckTop)], [], []), ([(8, ckTop)], [], []), ([(48, ckTop)], [], []), ([(8, ckTop)], [], []), ([(8, ckTop)], [], []), ([(8, ckTop)], [], []), ([(70, ckTop)], [], []), ([(70, ckTop)], [], []), ([(70, ckTop)], [], []), ([(70, ckTop)], [], []), ([(10, ckTop)], [], []), ([(48, ckTop)], [], []), ([(8, ckTop)], [], []), ([(2048, (0, 0))], [], []), ([(30, ckTop)], [], []), ([(30, ckTop)], [], []), ([(30, ckTop)], [], []), ([(30, ckTop)], [], []), ([(30, ckTop)], [], []), ([(30, ckTop)], [], []), ([(30, ckTop)], [], []), ([(30, ckTop)], [], [])]
noncomputable def dP543 : List (Nat × ckC) := [(3, .inr (0, 9, 22)), (8, .inl (2, [(1, 21), (1, 22), (1, 23), (0, 50), (0, 51), (0, 52), (0, 53), (0, 54), (0, 55), (0, 56), (0, 57), (0, 58), (0, 59), (0, 60), (0, 61), (0, 62)])), (9, .inr (0, 39, 23)), (10, .inl (3, [(1, 24), (0, 63), (0, 41)])), (21, .inr (0, 42, 24)), (22, .inr (0, 39, 25)), (23, .inl (1, [(1, 29), (1, 30), (1, 31), (1, 32), (0, 64)])), (29, .inr (0, 48, 26)), (30, .inr (0, 48, 27)), (31, .inr (0, 48, 28)), (32, .inr (0, 48, 29))]
noncomputable def dT544 : List ckI := [ckTop, ckTop, ckTop, ckTop, ckTop, ckTop, ckTop, ckTop, ckTop, ckTop, ckTop, ckTop, ckTop, ckTop, ckTop, ckTop]
noncomputable def dG545 : List ckG := [([(7, ckTop)], [], []), ([(1, ckTop), (2, ckTop), (3, ckTop), (4, ckTop), (5, ckTop), (6, ckTop), (7, ckTop), (8, ckTop)], [], []), ([(48, ckTop)], [], []), ([(8, ckTop)], [], []), ([(30, ckTop)], [], []), ([(30, ckTop)], [], []), ([(30, ckTop)], [], []), ([(30, ckTop)], [], [])]
-- FarMachine.broken
noncomputable def k303 : ckCtr := (20, ([(0, (1, 0)), (1, (0, 0)), (2, (0, 1))], [], dC540, dT541, dG542, [], [], [], 0, 0), [([], [(0, 49)], dP543, [], [], dT544, dG545, [], [], [], 0, 0)], 7, 218, 0, 0)
noncomputable def k303_a : ckAs := []
noncomputable def k303_c : List (Nat × ckCtr) := [(3, k146), (8, k147), (18, k107), (27, k148), (35, k302)]
theorem k303_ok (l : Launch) : ckCtrOk l ckMT ckTW ckCL k303 := mt_20 (as := k303_a) (cs := k303_c) (gx := []) (f := 200000) rfl (ckHc (k146_ok l) (ckHc (k147_ok l) (ckHc (k107_ok l) (ckHc (k148_ok l) (ckHc (k302_ok l) (fun _ h => absurd h List.not_mem_nil)))))) True.intro (by decide +kernel)
noncomputable def dC546 : List ckC := [.inl (9, [(4, 10), (4, 11), (4, 12), (4, 13), (4, 14), (4, 15), (4, 16), (4, 17), (4, 18), (4, 19), (4, 20), (4, 21), (4, 22), (4, 23), (1, 1), (4, 24), (0, 0), (0, 1), (0, 2), (0, 3), (0, 4), (0, 5), (0, 6), (4, 25), (0, 7), (4, 26), (0, 8), (0, 9), (0, 10), (0, 11), (4, 27), (0, 12), (0, 13), (0, 14), (0, 15), (1, 1), (4, 14), (0, 16), (4, 28), (4, 29), (0, 17), (0, 18)]), .inr (0, 19, 0)]
-- FarMachineModel.sign
noncomputable def k304 : ckCtr := (83, ([(0, (1, 0))], [], dC546, dT469, [([(300, ckTop)], [], [])], [], [], [], 0, 0), [([], [(0, 20)], [], [], [], [(-1, -1)], [], [], [(15, 13, 0)], [], 0, 0), ([], [(0, 20)], [], [], [(13, (0, 29)), (15, (1, 30))], [ckTop], [], [], [(13, 15, (-1))], [], 0, 0)], 1, 80, 0, 0)
noncomputable def k304_a : ckAs := []
noncomputable def k304_c : List (Nat × ckCtr) := []
theorem k304_ok (l : Launch) : ckCtrOk l ckMT ckTW ckCL k304 := mt_83 (as := k304_a) (cs := k304_c) (gx := []) (f := 200000) rfl (fun _ h => absurd h List.not_mem_nil) True.intro (by decide +kernel)
noncomputable def dC547 : List ckC := [.inl (9, [(4, 10), (4, 11), (4, 12), (4, 13), (4, 14), (4, 15), (4, 16), (4, 17), (4, 18), (4, 19), (4, 20), (4, 21), (4, 22), (4, 23), (1, 1), (4, 24), (0, 1), (0, 2), (0, 3), (0, 4), (0, 5), (0, 6), (0, 7), (4, 25), (0, 8), (4, 26), (0, 9), (0, 10), (0, 11), (0, 12), (4, 27), (0, 13), (0, 14), (0, 15), (0, 16), (1, 1), (4, 14), (0, 17), (4, 28), (4, 29), (0, 18), (0, 19)]), .inr (0, 20, 0)]
noncomputable def dP548 : List (Nat × ckC) := [(0, .inl (9, [(4, 10), (4, 11), (4, 12), (4, 13), (4, 14), (4, 15), (4, 16), (4, 17), (4, 18), (4, 19), (4, 20), (4, 21), (4, 22), (4, 23), (1, 1), (4, 24), (0, 1), (0, 2), (0, 3), (0, 4), (0, 5), (0, 6), (0, 7), (4, 25), (0, 8), (4, 26), (0, 9), (0, 10), (0, 11), (0, 12), (4, 27), (0, 13), (0, 22), (0, 15), (0, 16), (1, 1), (4, 14), (0, 17), (4, 28), (4, 29), (0, 18), (0, 19)]))]
-- FarMachineModel.takes
noncomputable def k305 : ckCtr := (84, ([(0, (1, 0)), (1, (0, 0))], [], dC547, dT471, [([(300, ckTop)], [], [])], [], [], [], 0, 0), [([], [(0, 21)], [], [], [], [(0, 0)], [], [], [], [], 0, 0), ([], [(0, 21)], dP548, [], [(14, (0, 29)), (16, (1, 30)), (17, (1, 1))], [(1, 1), (1, 30)], [], [], [(14, 16, (-1)), (14, 22, (-1)), (22, 14, 1), (22, 16, 0)], [], 0, 0)], 2, 100, 0, 0)
noncomputable def k305_a : ckAs := []
noncomputable def k305_c : List (Nat × ckCtr) := [(8, k304)]
theorem k305_ok (l : Launch) : ckCtrOk l ckMT ckTW ckCL k305 := mt_84 (as := k305_a) (cs := k305_c) (gx := []) (f := 200000) rfl (ckHc (k304_ok l) (fun _ h => absurd h List.not_mem_nil)) True.intro (by decide +kernel)
noncomputable def dC549 : List ckC := [.inl (9, [(4, 10), (4, 11), (4, 12), (4, 13), (1, 1), (4, 14), (4, 15), (4, 16), (4, 17), (4, 18), (4, 19), (4, 20), (4, 21), (4, 22), (4, 23), (4, 24), (0, 1), (0, 2), (0, 3), (0, 4), (0, 5), (0, 6), (0, 7), (4, 25), (0, 8), (4, 26), (0, 9), (0, 10), (0, 11), (0, 12), (4, 27), (0, 13), (0, 14), (0, 15), (0, 16), (4, 23), (1, 1), (0, 17), (4, 28), (4, 29), (0, 18), (0, 19)]), .inr (0, 20, 0)]
noncomputable def dP550 : List (Nat × ckC) := [(0, .inl (9, [(4, 10), (4, 11), (4, 12), (4, 13), (1, 1), (4, 14), (4, 15), (4, 16), (4, 17), (4, 18), (4, 19), (4, 20), (4, 21), (4, 22), (4, 23), (4, 24), (0, 1), (0, 2), (0, 3), (0, 4), (0, 5), (0, 6), (0, 7), (4, 25), (0, 8), (4, 26), (0, 9), (0, 10), (0, 11), (0, 12), (4, 27), (0, 13), (0, 22), (0, 15), (0, 16), (4, 23), (1, 1), (0, 21), (4, 28), (4, 29), (0, 18), (0, 19)]))]
-- FarMachineModel.letter
noncomputable def k306 : ckCtr := (89, ([(0, (1, 0)), (1, (0, 0))], [], dC549, dT474, dG369, [], [], [(1, 0, 0, 0, [])], 0, 0), [([], [(0, 21)], dP550, [], [], [(0, 0), (0, 30)], [], [], [(14, 22, 0), (22, 14, 0)], [(1, 0, 0, 0, [])], 0, 0)], 1, 80, 0, 0)
noncomputable def k306_a : ckAs := []
noncomputable def k306_c : List (Nat × ckCtr) := []
theorem k306_ok (l : Launch) : ckCtrOk l ckMT ckTW ckCL k306 := mt_89 (as := k306_a) (cs := k306_c) (gx := []) (f := 200000) rfl (fun _ h => absurd h List.not_mem_nil) True.intro (by decide +kernel)
noncomputable def dP551 : List (Nat × ckC) := [(0, .inl (9, [(4, 10), (4, 11), (4, 12), (4, 13), (1, 1), (4, 14), (4, 15), (4, 16), (4, 17), (4, 18), (4, 19), (4, 20), (4, 21), (4, 22), (4, 23), (4, 24), (0, 1), (0, 2), (0, 3), (0, 4), (0, 5), (0, 6), (0, 7), (4, 25), (0, 8), (4, 26), (0, 9), (0, 10), (0, 11), (0, 12), (4, 27), (0, 13), (0, 22), (0, 15), (0, 16), (4, 23), (1, 1), (0, 23), (4, 28), (4, 29), (0, 18), (0, 19)]))]
-- FarMachineModel.letter
noncomputable def k307 : ckCtr := (89, ([(0, (1, 0)), (1, (0, 0))], [], dC549, dT476, dG369, [], [], [(1, 0, 0, 0, [])], 0, 0), [([], [(0, 21)], dP551, [], [], [ckTop, (0, 30), (0, 1)], [], [], [(14, 22, 0), (22, 14, 1), (23, 17, 0), (23, 22, 0)], [(1, 0, 0, 0, [])], 0, 0)], 3, 122, 0, 0)
noncomputable def k307_a : ckAs := []
noncomputable def k307_c : List (Nat × ckCtr) := [(171, k209), (179, k210), (182, k64)]
theorem k307_ok (l : Launch) : ckCtrOk l ckMT ckTW ckCL k307 := mt_89 (as := k307_a) (cs := k307_c) (gx := []) (f := 200000) rfl (ckHc (k209_ok l) (ckHc (k210_ok l) (ckHc (k64_ok l) (fun _ h => absurd h List.not_mem_nil)))) True.intro (by decide +kernel)
-- FarMachineModel.sign
noncomputable def k308 : ckCtr := (83, ([(0, (1, 0))], [], dC546, dT478, [([(300, ckTop)], [], [])], [], [], [], 0, 0), [([], [(0, 20)], [], [], [(15, (0, 29))], [(-1, -1)], [], [], [(15, 13, 0)], [], 0, 0), ([], [(0, 20)], [], [], [(15, (1, 30))], [ckTop], [], [], [(13, 15, (-1))], [], 0, 0)], 1, 80, 0, 0)
noncomputable def k308_a : ckAs := []
noncomputable def k308_c : List (Nat × ckCtr) := []
theorem k308_ok (l : Launch) : ckCtrOk l ckMT ckTW ckCL k308 := mt_83 (as := k308_a) (cs := k308_c) (gx := []) (f := 200000) rfl (fun _ h => absurd h List.not_mem_nil) True.intro (by decide +kernel)
noncomputable def dC552 : List ckC := [.inl (9, [(4, 10), (4, 11), (4, 12), (4, 13), (1, 1), (4, 14), (4, 15), (4, 16), (4, 17), (4, 18), (4, 19), (4, 20), (4, 21), (4, 22), (1, 2), (4, 23), (0, 0), (0, 1), (0, 2), (0, 3), (0, 4), (0, 5), (0, 6), (4, 24), (0, 7), (4, 25), (0, 8), (0, 9), (0, 10), (0, 11), (4, 26), (0, 12), (0, 13), (0, 14), (0, 15), (1, 2), (1, 1), (0, 16), (4, 27), (4, 28), (0, 17), (0, 18)]), .inr (0, 19, 0), .inr (0, 20, 1)]
noncomputable def dP553 : List (Nat × ckC) := [(0, .inl (9, [(4, 10), (4, 11), (4, 12), (4, 13), (1, 1), (4, 14), (4, 15), (4, 16), (4, 17), (4, 18), (4, 19), (4, 20), (4, 21), (4, 22), (1, 2), (4, 23), (0, 0), (0, 1), (0, 2), (0, 3), (0, 4), (0, 5), (0, 6), (4, 24), (0, 7), (4, 25), (0, 8), (0, 9), (0, 10), (0, 11), (4, 26), (0, 12), (0, 22), (0, 14), (0, 15), (1, 2), (1, 1), (0, 23), (4, 27), (4, 28), (0, 17), (0, 18)]))]
noncomputable def dP554 : List (Nat × ckC) := [(0, .inl (9, [(4, 10), (4, 11), (4, 12), (4, 13), (1, 1), (4, 14), (4, 15), (4, 16), (4, 17), (4, 18), (4, 19), (4, 20), (4, 21), (4, 22), (1, 2), (4, 23), (0, 0), (0, 1), (0, 2), (0, 3), (0, 4), (0, 5), (0, 6), (4, 24), (0, 7), (4, 25), (0, 8), (0, 9), (0, 10), (0, 11), (4, 26), (0, 12), (0, 29), (0, 14), (0, 15), (1, 2), (1, 1), (0, 16), (4, 27), (4, 28), (0, 17), (0, 18)]))]
noncomputable def dP555 : List (Nat × ckC) := [(0, .inl (9, [(4, 10), (4, 11), (4, 12), (4, 13), (1, 1), (4, 14), (4, 15), (4, 16), (4, 17), (4, 18), (4, 19), (4, 20), (4, 21), (4, 22), (1, 2), (4, 23), (0, 0), (0, 1), (0, 2), (0, 3), (0, 4), (0, 5), (0, 6), (4, 24), (0, 7), (4, 25), (0, 8), (0, 9), (0, 10), (0, 11), (4, 26), (0, 12), (0, 30), (0, 14), (0, 15), (1, 2), (1, 1), (0, 16), (4, 27), (4, 28), (0, 17), (0, 18)]))]
-- FarMachineModel.unit
noncomputable def k309 : ckCtr := (88, ([(0, (1, 0))], [], dC552, dT480, dG481, [], [], [(1, 0, 0, 0, [])], 0, 0), [([], [(0, 21)], dP553, [], [], [ckTop, (0, 30), (0, 1)], [], [], [(13, 22, 0), (23, 15, 0), (23, 16, 0), (23, 22, 0)], [(1, 0, 0, 0, [])], 0, 0)], 4, 143, 0, 0)
noncomputable def k309_a : ckAs := [(53, [(262068, [(1, 0, 1, ([(0, (1, 0)), (1, (0, 21)), (2, (0, 27)), (3, (0, 28))], [], dP554, [], [], [ckTop, (0, 3), (0, 30)], [], [], dZ379, [(1, 0, 0, 0, [])], 0, 0))]), (316176, [(1, 0, 1, ([(0, (1, 0)), (1, (0, 21)), (2, (0, 28)), (3, (0, 29))], [], dP555, [], [], [ckTop, (0, 3), (1, 30)], [], [], dZ381, [(1, 0, 0, 0, [])], 0, 0))])])]
noncomputable def k309_c : List (Nat × ckCtr) := [(10, k304), (21, k207), (29, k306), (29, k307), (59, k304), (62, k207), (73, k308)]
theorem k309_ok (l : Launch) : ckCtrOk l ckMT ckTW ckCL k309 := mt_88 (as := k309_a) (cs := k309_c) (gx := []) (f := 200000) rfl (ckHc (k304_ok l) (ckHc (k207_ok l) (ckHc (k306_ok l) (ckHc (k307_ok l) (ckHc (k304_ok l) (ckHc (k207_ok l) (ckHc (k308_ok l) (fun _ h => absurd h List.not_mem_nil)))))))) True.intro (by decide +kernel)
noncomputable def dP556 : List (Nat × ckC) := [(0, .inl (9, [(4, 10), (4, 11), (4, 12), (4, 13), (1, 1), (4, 14), (4, 15), (4, 16), (4, 17), (4, 18), (4, 19), (4, 20), (4, 21), (4, 22), (1, 2), (4, 23), (0, 0), (0, 1), (0, 2), (0, 3), (0, 4), (0, 5), (0, 6), (4, 24), (0, 7), (4, 25), (0, 8), (0, 9), (0, 10), (0, 11), (4, 26), (0, 12), (0, 13), (0, 14), (0, 15), (1, 2), (1, 1), (0, 21), (4, 27), (4, 28), (0, 17), (0, 18)]))]
-- FarMachineModel.test
noncomputable def k310 : ckCtr := (86, ([(0, (1, 0))], [], dC552, dT485, dG481, [], [], [(1, 0, 0, 0, [])], 0, 0), [([], [(0, 21)], dP556, [], [], [(0, 0)], [], [], [], [(1, 0, 0, 0, [])], 0, 0)], 5, 166, 0, 0)
noncomputable def k310_a : ckAs := []
noncomputable def k310_c : List (Nat × ckCtr) := [(3, k305), (23, k309), (28, k304)]
theorem k310_ok (l : Launch) : ckCtrOk l ckMT ckTW ckCL k310 := mt_86 (as := k310_a) (cs := k310_c) (gx := []) (f := 200000) rfl (ckHc (k305_ok l) (ckHc (k309_ok l) (ckHc (k304_ok l) (fun _ h => absurd h List.not_mem_nil)))) True.intro (by decide +kernel)
-- FarMachineModel.test
noncomputable def k311 : ckCtr := (86, ([(0, (1, 0))], [], dC552, dT487, dG481, [], [], [(1, 0, 0, 0, [])], 0, 0), [([], [(0, 21)], dP553, [], [], [(0, 1), (29, 30), (0, 1)], [], [], dZ385, [(1, 0, 0, 0, [])], 0, 0)], 6, 189, 0, 0)
noncomputable def k311_a : ckAs := []
noncomputable def k311_c : List (Nat × ckCtr) := [(3, k305), (10, k310), (23, k309), (28, k304), (75, k309)]
theorem k311_ok (l : Launch) : ckCtrOk l ckMT ckTW ckCL k311 := mt_86 (as := k311_a) (cs := k311_c) (gx := []) (f := 200000) rfl (ckHc (k305_ok l) (ckHc (k310_ok l) (ckHc (k309_ok l) (ckHc (k304_ok l) (ckHc (k309_ok l) (fun _ h => absurd h List.not_mem_nil)))))) True.intro (by decide +kernel)
-- FarMachineModel.test
noncomputable def k312 : ckCtr := (86, ([(0, (1, 0))], [], dC552, dT488, dG481, [], [], [(1, 0, 0, 0, [])], 0, 0), [([], [(0, 21)], dP553, [], [], [(0, 1), (28, 30), (0, 1)], [], [], dZ387, [(1, 0, 0, 0, [])], 0, 0)], 7, 212, 0, 0)
noncomputable def k312_a : ckAs := []
noncomputable def k312_c : List (Nat × ckCtr) := [(3, k305), (10, k311), (23, k309), (28, k304), (75, k309)]
theorem k312_ok (l : Launch) : ckCtrOk l ckMT ckTW ckCL k312 := mt_86 (as := k312_a) (cs := k312_c) (gx := []) (f := 200000) rfl (ckHc (k305_ok l) (ckHc (k311_ok l) (ckHc (k309_ok l) (ckHc (k304_ok l) (ckHc (k309_ok l) (fun _ h => absurd h List.not_mem_nil)))))) True.intro (by decide +kernel)
-- FarMachineModel.test
noncomputable def k313 : ckCtr := (86, ([(0, (1, 0))], [], dC552, dT489, dG481, [], [], [(1, 0, 0, 0, [])], 0, 0), [([], [(0, 21)], dP553, [], [], [(0, 1), (27, 30), (0, 1)], [], [], dZ389, [(1, 0, 0, 0, [])], 0, 0)], 8, 235, 0, 0)
noncomputable def k313_a : ckAs := []
noncomputable def k313_c : List (Nat × ckCtr) := [(3, k305), (10, k312), (23, k309), (28, k304), (75, k309)]
theorem k313_ok (l : Launch) : ckCtrOk l ckMT ckTW ckCL k313 := mt_86 (as := k313_a) (cs := k313_c) (gx := []) (f := 200000) rfl (ckHc (k305_ok l) (ckHc (k312_ok l) (ckHc (k309_ok l) (ckHc (k304_ok l) (ckHc (k309_ok l) (fun _ h => absurd h List.not_mem_nil)))))) True.intro (by decide +kernel)
-- FarMachineModel.test
noncomputable def k314 : ckCtr := (86, ([(0, (1, 0))], [], dC552, dT490, dG481, [], [], [(1, 0, 0, 0, [])], 0, 0), [([], [(0, 21)], dP553, [], [], [(0, 1), (26, 30), (0, 1)], [], [], dZ391, [(1, 0, 0, 0, [])], 0, 0)], 9, 258, 0, 0)
noncomputable def k314_a : ckAs := []
noncomputable def k314_c : List (Nat × ckCtr) := [(3, k305), (10, k313), (23, k309), (28, k304), (75, k309)]
theorem k314_ok (l : Launch) : ckCtrOk l ckMT ckTW ckCL k314 := mt_86 (as := k314_a) (cs := k314_c) (gx := []) (f := 200000) rfl (ckHc (k305_ok l) (ckHc (k313_ok l) (ckHc (k309_ok l) (ckHc (k304_ok l) (ckHc (k309_ok l) (fun _ h => absurd h List.not_mem_nil)))))) True.intro (by decide +kernel)
-- FarMachineModel.test
noncomputable def k315 : ckCtr := (86, ([(0, (1, 0))], [], dC552, dT491, dG481, [], [], [(1, 0, 0, 0, [])], 0, 0), [([], [(0, 21)], dP553, [], [], [(0, 1), (25, 30), (0, 1)], [], [], dZ393, [(1, 0, 0, 0, [])], 0, 0)], 10, 281, 0, 0)
noncomputable def k315_a : ckAs := []
noncomputable def k315_c : List (Nat × ckCtr) := [(3, k305), (10, k314), (23, k309), (28, k304), (75, k309)]
theorem k315_ok (l : Launch) : ckCtrOk l ckMT ckTW ckCL k315 := mt_86 (as := k315_a) (cs := k315_c) (gx := []) (f := 200000) rfl (ckHc (k305_ok l) (ckHc (k314_ok l) (ckHc (k309_ok l) (ckHc (k304_ok l) (ckHc (k309_ok l) (fun _ h => absurd h List.not_mem_nil)))))) True.intro (by decide +kernel)
-- FarMachineModel.test
noncomputable def k316 : ckCtr := (86, ([(0, (1, 0))], [], dC552, dT492, dG481, [], [], [(1, 0, 0, 0, [])], 0, 0), [([], [(0, 21)], dP553, [], [], [(0, 1), (24, 30), (0, 1)], [], [], dZ395, [(1, 0, 0, 0, [])], 0, 0)], 11, 304, 0, 0)
noncomputable def k316_a : ckAs := []
noncomputable def k316_c : List (Nat × ckCtr) := [(3, k305), (10, k315), (23, k309), (28, k304), (75, k309)]
theorem k316_ok (l : Launch) : ckCtrOk l ckMT ckTW ckCL k316 := mt_86 (as := k316_a) (cs := k316_c) (gx := []) (f := 200000) rfl (ckHc (k305_ok l) (ckHc (k315_ok l) (ckHc (k309_ok l) (ckHc (k304_ok l) (ckHc (k309_ok l) (fun _ h => absurd h List.not_mem_nil)))))) True.intro (by decide +kernel)
-- FarMachineModel.test
noncomputable def k317 : ckCtr := (86, ([(0, (1, 0))], [], dC552, dT493, dG481, [], [], [(1, 0, 0, 0, [])], 0, 0), [([], [(0, 21)], dP553, [], [], [(0, 1), (23, 30), (0, 1)], [], [], dZ397, [(1, 0, 0, 0, [])], 0, 0)], 12, 327, 0, 0)
noncomputable def k317_a : ckAs := []
noncomputable def k317_c : List (Nat × ckCtr) := [(3, k305), (10, k316), (23, k309), (28, k304), (75, k309)]
theorem k317_ok (l : Launch) : ckCtrOk l ckMT ckTW ckCL k317 := mt_86 (as := k317_a) (cs := k317_c) (gx := []) (f := 200000) rfl (ckHc (k305_ok l) (ckHc (k316_ok l) (ckHc (k309_ok l) (ckHc (k304_ok l) (ckHc (k309_ok l) (fun _ h => absurd h List.not_mem_nil)))))) True.intro (by decide +kernel)
-- FarMachineModel.test
noncomputable def k318 : ckCtr := (86, ([(0, (1, 0))], [], dC552, dT494, dG481, [], [], [(1, 0, 0, 0, [])], 0, 0), [([], [(0, 21)], dP553, [], [], [(0, 1), (22, 30), (0, 1)], [], [], dZ399, [(1, 0, 0, 0, [])], 0, 0)], 13, 350, 0, 0)
noncomputable def k318_a : ckAs := []
noncomputable def k318_c : List (Nat × ckCtr) := [(3, k305), (10, k317), (23, k309), (28, k304), (75, k309)]
theorem k318_ok (l : Launch) : ckCtrOk l ckMT ckTW ckCL k318 := mt_86 (as := k318_a) (cs := k318_c) (gx := []) (f := 200000) rfl (ckHc (k305_ok l) (ckHc (k317_ok l) (ckHc (k309_ok l) (ckHc (k304_ok l) (ckHc (k309_ok l) (fun _ h => absurd h List.not_mem_nil)))))) True.intro (by decide +kernel)
-- FarMachineModel.test
noncomputable def k319 : ckCtr := (86, ([(0, (1, 0))], [], dC552, dT495, dG481, [], [], [(1, 0, 0, 0, [])], 0, 0), [([], [(0, 21)], dP553, [], [], [(0, 1), (21, 30), (0, 1)], [], [], dZ401, [(1, 0, 0, 0, [])], 0, 0)], 14, 373, 0, 0)
noncomputable def k319_a : ckAs := []
noncomputable def k319_c : List (Nat × ckCtr) := [(3, k305), (10, k318), (23, k309), (28, k304), (75, k309)]
theorem k319_ok (l : Launch) : ckCtrOk l ckMT ckTW ckCL k319 := mt_86 (as := k319_a) (cs := k319_c) (gx := []) (f := 200000) rfl (ckHc (k305_ok l) (ckHc (k318_ok l) (ckHc (k309_ok l) (ckHc (k304_ok l) (ckHc (k309_ok l) (fun _ h => absurd h List.not_mem_nil)))))) True.intro (by decide +kernel)
-- FarMachineModel.test
noncomputable def k320 : ckCtr := (86, ([(0, (1, 0))], [], dC552, dT496, dG481, [], [], [(1, 0, 0, 0, [])], 0, 0), [([], [(0, 21)], dP553, [], [], [(0, 1), (20, 30), (0, 1)], [], [], dZ403, [(1, 0, 0, 0, [])], 0, 0)], 15, 396, 0, 0)
noncomputable def k320_a : ckAs := []
noncomputable def k320_c : List (Nat × ckCtr) := [(3, k305), (10, k319), (23, k309), (28, k304), (75, k309)]
theorem k320_ok (l : Launch) : ckCtrOk l ckMT ckTW ckCL k320 := mt_86 (as := k320_a) (cs := k320_c) (gx := []) (f := 200000) rfl (ckHc (k305_ok l) (ckHc (k319_ok l) (ckHc (k309_ok l) (ckHc (k304_ok l) (ckHc (k309_ok l) (fun _ h => absurd h List.not_mem_nil)))))) True.intro (by decide +kernel)
-- FarMachineModel.test
noncomputable def k321 : ckCtr := (86, ([(0, (1, 0))], [], dC552, dT497, dG481, [], [], [(1, 0, 0, 0, [])], 0, 0), [([], [(0, 21)], dP553, [], [], [(0, 1), (19, 30), (0, 1)], [], [], dZ405, [(1, 0, 0, 0, [])], 0, 0)], 16, 419, 0, 0)
noncomputable def k321_a : ckAs := []
noncomputable def k321_c : List (Nat × ckCtr) := [(3, k305), (10, k320), (23, k309), (28, k304), (75, k309)]
theorem k321_ok (l : Launch) : ckCtrOk l ckMT ckTW ckCL k321 := mt_86 (as := k321_a) (cs := k321_c) (gx := []) (f := 200000) rfl (ckHc (k305_ok l) (ckHc (k320_ok l) (ckHc (k309_ok l) (ckHc (k304_ok l) (ckHc (k309_ok l) (fun _ h => absurd h List.not_mem_nil)))))) True.intro (by decide +kernel)
-- FarMachineModel.test
noncomputable def k322 : ckCtr := (86, ([(0, (1, 0))], [], dC552, dT498, dG481, [], [], [(1, 0, 0, 0, [])], 0, 0), [([], [(0, 21)], dP553, [], [], [(0, 1), (18, 30), (0, 1)], [], [], dZ407, [(1, 0, 0, 0, [])], 0, 0)], 17, 442, 0, 0)
noncomputable def k322_a : ckAs := []
noncomputable def k322_c : List (Nat × ckCtr) := [(3, k305), (10, k321), (23, k309), (28, k304), (75, k309)]
theorem k322_ok (l : Launch) : ckCtrOk l ckMT ckTW ckCL k322 := mt_86 (as := k322_a) (cs := k322_c) (gx := []) (f := 200000) rfl (ckHc (k305_ok l) (ckHc (k321_ok l) (ckHc (k309_ok l) (ckHc (k304_ok l) (ckHc (k309_ok l) (fun _ h => absurd h List.not_mem_nil)))))) True.intro (by decide +kernel)
-- FarMachineModel.test
noncomputable def k323 : ckCtr := (86, ([(0, (1, 0))], [], dC552, dT499, dG481, [], [], [(1, 0, 0, 0, [])], 0, 0), [([], [(0, 21)], dP553, [], [], [(0, 1), (17, 30), (0, 1)], [], [], dZ409, [(1, 0, 0, 0, [])], 0, 0)], 18, 465, 0, 0)
noncomputable def k323_a : ckAs := []
noncomputable def k323_c : List (Nat × ckCtr) := [(3, k305), (10, k322), (23, k309), (28, k304), (75, k309)]
theorem k323_ok (l : Launch) : ckCtrOk l ckMT ckTW ckCL k323 := mt_86 (as := k323_a) (cs := k323_c) (gx := []) (f := 200000) rfl (ckHc (k305_ok l) (ckHc (k322_ok l) (ckHc (k309_ok l) (ckHc (k304_ok l) (ckHc (k309_ok l) (fun _ h => absurd h List.not_mem_nil)))))) True.intro (by decide +kernel)
-- FarMachineModel.test
noncomputable def k324 : ckCtr := (86, ([(0, (1, 0))], [], dC552, dT500, dG481, [], [], [(1, 0, 0, 0, [])], 0, 0), [([], [(0, 21)], dP553, [], [], [(0, 1), (16, 30), (0, 1)], [], [], dZ411, [(1, 0, 0, 0, [])], 0, 0)], 19, 488, 0, 0)
noncomputable def k324_a : ckAs := []
noncomputable def k324_c : List (Nat × ckCtr) := [(3, k305), (10, k323), (23, k309), (28, k304), (75, k309)]
theorem k324_ok (l : Launch) : ckCtrOk l ckMT ckTW ckCL k324 := mt_86 (as := k324_a) (cs := k324_c) (gx := []) (f := 200000) rfl (ckHc (k305_ok l) (ckHc (k323_ok l) (ckHc (k309_ok l) (ckHc (k304_ok l) (ckHc (k309_ok l) (fun _ h => absurd h List.not_mem_nil)))))) True.intro (by decide +kernel)
-- FarMachineModel.test
noncomputable def k325 : ckCtr := (86, ([(0, (1, 0))], [], dC552, dT501, dG481, [], [], [(1, 0, 0, 0, [])], 0, 0), [([], [(0, 21)], dP553, [], [], [(0, 1), (15, 30), (0, 1)], [], [], dZ413, [(1, 0, 0, 0, [])], 0, 0)], 20, 511, 0, 0)
noncomputable def k325_a : ckAs := []
noncomputable def k325_c : List (Nat × ckCtr) := [(3, k305), (10, k324), (23, k309), (28, k304), (75, k309)]
theorem k325_ok (l : Launch) : ckCtrOk l ckMT ckTW ckCL k325 := mt_86 (as := k325_a) (cs := k325_c) (gx := []) (f := 200000) rfl (ckHc (k305_ok l) (ckHc (k324_ok l) (ckHc (k309_ok l) (ckHc (k304_ok l) (ckHc (k309_ok l) (fun _ h => absurd h List.not_mem_nil)))))) True.intro (by decide +kernel)
-- FarMachineModel.test
noncomputable def k326 : ckCtr := (86, ([(0, (1, 0))], [], dC552, dT502, dG481, [], [], [(1, 0, 0, 0, [])], 0, 0), [([], [(0, 21)], dP553, [], [], [(0, 1), (14, 30), (0, 1)], [], [], dZ415, [(1, 0, 0, 0, [])], 0, 0)], 21, 534, 0, 0)
noncomputable def k326_a : ckAs := []
noncomputable def k326_c : List (Nat × ckCtr) := [(3, k305), (10, k325), (23, k309), (28, k304), (75, k309)]
theorem k326_ok (l : Launch) : ckCtrOk l ckMT ckTW ckCL k326 := mt_86 (as := k326_a) (cs := k326_c) (gx := []) (f := 200000) rfl (ckHc (k305_ok l) (ckHc (k325_ok l) (ckHc (k309_ok l) (ckHc (k304_ok l) (ckHc (k309_ok l) (fun _ h => absurd h List.not_mem_nil)))))) True.intro (by decide +kernel)
-- FarMachineModel.test
noncomputable def k327 : ckCtr := (86, ([(0, (1, 0))], [], dC552, dT503, dG481, [], [], [(1, 0, 0, 0, [])], 0, 0), [([], [(0, 21)], dP553, [], [], [(0, 1), (13, 30), (0, 1)], [], [], dZ417, [(1, 0, 0, 0, [])], 0, 0)], 22, 557, 0, 0)
noncomputable def k327_a : ckAs := []
noncomputable def k327_c : List (Nat × ckCtr) := [(3, k305), (10, k326), (23, k309), (28, k304), (75, k309)]
theorem k327_ok (l : Launch) : ckCtrOk l ckMT ckTW ckCL k327 := mt_86 (as := k327_a) (cs := k327_c) (gx := []) (f := 200000) rfl (ckHc (k305_ok l) (ckHc (k326_ok l) (ckHc (k309_ok l) (ckHc (k304_ok l) (ckHc (k309_ok l) (fun _ h => absurd h List.not_mem_nil)))))) True.intro (by decide +kernel)
-- FarMachineModel.test
noncomputable def k328 : ckCtr := (86, ([(0, (1, 0))], [], dC552, dT504, dG481, [], [], [(1, 0, 0, 0, [])], 0, 0), [([], [(0, 21)], dP553, [], [], [(0, 1), (12, 30), (0, 1)], [], [], dZ419, [(1, 0, 0, 0, [])], 0, 0)], 23, 580, 0, 0)
noncomputable def k328_a : ckAs := []
noncomputable def k328_c : List (Nat × ckCtr) := [(3, k305), (10, k327), (23, k309), (28, k304), (75, k309)]
theorem k328_ok (l : Launch) : ckCtrOk l ckMT ckTW ckCL k328 := mt_86 (as := k328_a) (cs := k328_c) (gx := []) (f := 200000) rfl (ckHc (k305_ok l) (ckHc (k327_ok l) (ckHc (k309_ok l) (ckHc (k304_ok l) (ckHc (k309_ok l) (fun _ h => absurd h List.not_mem_nil)))))) True.intro (by decide +kernel)
-- FarMachineModel.test
noncomputable def k329 : ckCtr := (86, ([(0, (1, 0))], [], dC552, dT505, dG481, [], [], [(1, 0, 0, 0, [])], 0, 0), [([], [(0, 21)], dP553, [], [], [(0, 1), (11, 30), (0, 1)], [], [], dZ421, [(1, 0, 0, 0, [])], 0, 0)], 24, 603, 0, 0)
noncomputable def k329_a : ckAs := []
noncomputable def k329_c : List (Nat × ckCtr) := [(3, k305), (10, k328), (23, k309), (28, k304), (75, k309)]
theorem k329_ok (l : Launch) : ckCtrOk l ckMT ckTW ckCL k329 := mt_86 (as := k329_a) (cs := k329_c) (gx := []) (f := 200000) rfl (ckHc (k305_ok l) (ckHc (k328_ok l) (ckHc (k309_ok l) (ckHc (k304_ok l) (ckHc (k309_ok l) (fun _ h => absurd h List.not_mem_nil)))))) True.intro (by decide +kernel)
-- FarMachineModel.test
noncomputable def k330 : ckCtr := (86, ([(0, (1, 0))], [], dC552, dT506, dG481, [], [], [(1, 0, 0, 0, [])], 0, 0), [([], [(0, 21)], dP553, [], [], [(0, 1), (10, 30), (0, 1)], [], [], dZ423, [(1, 0, 0, 0, [])], 0, 0)], 25, 626, 0, 0)
noncomputable def k330_a : ckAs := []
noncomputable def k330_c : List (Nat × ckCtr) := [(3, k305), (10, k329), (23, k309), (28, k304), (75, k309)]
theorem k330_ok (l : Launch) : ckCtrOk l ckMT ckTW ckCL k330 := mt_86 (as := k330_a) (cs := k330_c) (gx := []) (f := 200000) rfl (ckHc (k305_ok l) (ckHc (k329_ok l) (ckHc (k309_ok l) (ckHc (k304_ok l) (ckHc (k309_ok l) (fun _ h => absurd h List.not_mem_nil)))))) True.intro (by decide +kernel)
-- FarMachineModel.test
noncomputable def k331 : ckCtr := (86, ([(0, (1, 0))], [], dC552, dT507, dG481, [], [], [(1, 0, 0, 0, [])], 0, 0), [([], [(0, 21)], dP553, [], [], [(0, 1), (9, 30), (0, 1)], [], [], dZ425, [(1, 0, 0, 0, [])], 0, 0)], 26, 649, 0, 0)
noncomputable def k331_a : ckAs := []
noncomputable def k331_c : List (Nat × ckCtr) := [(3, k305), (10, k330), (23, k309), (28, k304), (75, k309)]
theorem k331_ok (l : Launch) : ckCtrOk l ckMT ckTW ckCL k331 := mt_86 (as := k331_a) (cs := k331_c) (gx := []) (f := 200000) rfl (ckHc (k305_ok l) (ckHc (k330_ok l) (ckHc (k309_ok l) (ckHc (k304_ok l) (ckHc (k309_ok l) (fun _ h => absurd h List.not_mem_nil)))))) True.intro (by decide +kernel)
-- FarMachineModel.test
noncomputable def k332 : ckCtr := (86, ([(0, (1, 0))], [], dC552, dT508, dG481, [], [], [(1, 0, 0, 0, [])], 0, 0), [([], [(0, 21)], dP553, [], [], [(0, 1), (8, 30), (0, 1)], [], [], dZ427, [(1, 0, 0, 0, [])], 0, 0)], 27, 672, 0, 0)
noncomputable def k332_a : ckAs := []
noncomputable def k332_c : List (Nat × ckCtr) := [(3, k305), (10, k331), (23, k309), (28, k304), (75, k309)]
theorem k332_ok (l : Launch) : ckCtrOk l ckMT ckTW ckCL k332 := mt_86 (as := k332_a) (cs := k332_c) (gx := []) (f := 200000) rfl (ckHc (k305_ok l) (ckHc (k331_ok l) (ckHc (k309_ok l) (ckHc (k304_ok l) (ckHc (k309_ok l) (fun _ h => absurd h List.not_mem_nil)))))) True.intro (by decide +kernel)
-- FarMachineModel.test
noncomputable def k333 : ckCtr := (86, ([(0, (1, 0))], [], dC552, dT509, dG481, [], [], [(1, 0, 0, 0, [])], 0, 0), [([], [(0, 21)], dP553, [], [], [(0, 1), (7, 30), (0, 1)], [], [], dZ429, [(1, 0, 0, 0, [])], 0, 0)], 28, 695, 0, 0)
noncomputable def k333_a : ckAs := []
noncomputable def k333_c : List (Nat × ckCtr) := [(3, k305), (10, k332), (23, k309), (28, k304), (75, k309)]
theorem k333_ok (l : Launch) : ckCtrOk l ckMT ckTW ckCL k333 := mt_86 (as := k333_a) (cs := k333_c) (gx := []) (f := 200000) rfl (ckHc (k305_ok l) (ckHc (k332_ok l) (ckHc (k309_ok l) (ckHc (k304_ok l) (ckHc (k309_ok l) (fun _ h => absurd h List.not_mem_nil)))))) True.intro (by decide +kernel)
-- FarMachineModel.test
noncomputable def k334 : ckCtr := (86, ([(0, (1, 0))], [], dC552, dT510, dG481, [], [], [(1, 0, 0, 0, [])], 0, 0), [([], [(0, 21)], dP553, [], [], [(0, 1), (6, 30), (0, 1)], [], [], dZ431, [(1, 0, 0, 0, [])], 0, 0)], 29, 718, 0, 0)
noncomputable def k334_a : ckAs := []
noncomputable def k334_c : List (Nat × ckCtr) := [(3, k305), (10, k333), (23, k309), (28, k304), (75, k309)]
theorem k334_ok (l : Launch) : ckCtrOk l ckMT ckTW ckCL k334 := mt_86 (as := k334_a) (cs := k334_c) (gx := []) (f := 200000) rfl (ckHc (k305_ok l) (ckHc (k333_ok l) (ckHc (k309_ok l) (ckHc (k304_ok l) (ckHc (k309_ok l) (fun _ h => absurd h List.not_mem_nil)))))) True.intro (by decide +kernel)
-- FarMachineModel.test
noncomputable def k335 : ckCtr := (86, ([(0, (1, 0))], [], dC552, dT511, dG481, [], [], [(1, 0, 0, 0, [])], 0, 0), [([], [(0, 21)], dP553, [], [], [(0, 1), (5, 30), (0, 1)], [], [], dZ433, [(1, 0, 0, 0, [])], 0, 0)], 30, 741, 0, 0)
noncomputable def k335_a : ckAs := []
noncomputable def k335_c : List (Nat × ckCtr) := [(3, k305), (10, k334), (23, k309), (28, k304), (75, k309)]
theorem k335_ok (l : Launch) : ckCtrOk l ckMT ckTW ckCL k335 := mt_86 (as := k335_a) (cs := k335_c) (gx := []) (f := 200000) rfl (ckHc (k305_ok l) (ckHc (k334_ok l) (ckHc (k309_ok l) (ckHc (k304_ok l) (ckHc (k309_ok l) (fun _ h => absurd h List.not_mem_nil)))))) True.intro (by decide +kernel)
-- FarMachineModel.test
noncomputable def k336 : ckCtr := (86, ([(0, (1, 0))], [], dC552, dT512, dG481, [], [], [(1, 0, 0, 0, [])], 0, 0), [([], [(0, 21)], dP553, [], [], [(0, 1), (4, 30), (0, 1)], [], [], dZ435, [(1, 0, 0, 0, [])], 0, 0)], 31, 764, 0, 0)
noncomputable def k336_a : ckAs := []
noncomputable def k336_c : List (Nat × ckCtr) := [(3, k305), (10, k335), (23, k309), (28, k304), (75, k309)]
theorem k336_ok (l : Launch) : ckCtrOk l ckMT ckTW ckCL k336 := mt_86 (as := k336_a) (cs := k336_c) (gx := []) (f := 200000) rfl (ckHc (k305_ok l) (ckHc (k335_ok l) (ckHc (k309_ok l) (ckHc (k304_ok l) (ckHc (k309_ok l) (fun _ h => absurd h List.not_mem_nil)))))) True.intro (by decide +kernel)
-- FarMachineModel.test
noncomputable def k337 : ckCtr := (86, ([(0, (1, 0))], [], dC552, dT513, dG481, [], [], [(1, 0, 0, 0, [])], 0, 0), [([], [(0, 21)], dP553, [], [], [(0, 1), (3, 30), (0, 1)], [], [], dZ437, [(1, 0, 0, 0, [])], 0, 0)], 32, 787, 0, 0)
noncomputable def k337_a : ckAs := []
noncomputable def k337_c : List (Nat × ckCtr) := [(3, k305), (10, k336), (23, k309), (28, k304), (75, k309)]
theorem k337_ok (l : Launch) : ckCtrOk l ckMT ckTW ckCL k337 := mt_86 (as := k337_a) (cs := k337_c) (gx := []) (f := 200000) rfl (ckHc (k305_ok l) (ckHc (k336_ok l) (ckHc (k309_ok l) (ckHc (k304_ok l) (ckHc (k309_ok l) (fun _ h => absurd h List.not_mem_nil)))))) True.intro (by decide +kernel)
-- FarMachineModel.test
noncomputable def k338 : ckCtr := (86, ([(0, (1, 0))], [], dC552, dT514, dG481, [], [], [(1, 0, 0, 0, [])], 0, 0), [([], [(0, 21)], dP553, [], [], [(0, 1), (2, 30), (0, 1)], [], [], dZ439, [(1, 0, 0, 0, [])], 0, 0)], 33, 810, 0, 0)
noncomputable def k338_a : ckAs := []
noncomputable def k338_c : List (Nat × ckCtr) := [(3, k305), (10, k337), (23, k309), (28, k304), (75, k309)]
theorem k338_ok (l : Launch) : ckCtrOk l ckMT ckTW ckCL k338 := mt_86 (as := k338_a) (cs := k338_c) (gx := []) (f := 200000) rfl (ckHc (k305_ok l) (ckHc (k337_ok l) (ckHc (k309_ok l) (ckHc (k304_ok l) (ckHc (k309_ok l) (fun _ h => absurd h List.not_mem_nil)))))) True.intro (by decide +kernel)
-- FarMachineModel.test
noncomputable def k339 : ckCtr := (86, ([(0, (1, 0))], [], dC552, dT515, dG481, [], [], [(1, 0, 0, 0, [])], 0, 0), [([], [(0, 21)], dP553, [], [], [(0, 1), (1, 30), (0, 1)], [], [], dZ441, [(1, 0, 0, 0, [])], 0, 0)], 34, 833, 0, 0)
noncomputable def k339_a : ckAs := []
noncomputable def k339_c : List (Nat × ckCtr) := [(3, k305), (10, k338), (23, k309), (28, k304), (75, k309)]
theorem k339_ok (l : Launch) : ckCtrOk l ckMT ckTW ckCL k339 := mt_86 (as := k339_a) (cs := k339_c) (gx := []) (f := 200000) rfl (ckHc (k305_ok l) (ckHc (k338_ok l) (ckHc (k309_ok l) (ckHc (k304_ok l) (ckHc (k309_ok l) (fun _ h => absurd h List.not_mem_nil)))))) True.intro (by decide +kernel)
-- FarMachineModel.test
noncomputable def k340 : ckCtr := (86, ([(0, (1, 0))], [], dC552, dT480, dG481, [], [], [(1, 0, 0, 0, [])], 0, 0), [([], [(0, 21)], dP553, [], [], [(0, 1), (0, 30), (0, 1)], [], [], dZ442, [(1, 0, 0, 0, [])], 0, 0)], 35, 856, 0, 0)
noncomputable def k340_a : ckAs := []
noncomputable def k340_c : List (Nat × ckCtr) := [(3, k305), (10, k339), (23, k309), (28, k304), (75, k309)]
theorem k340_ok (l : Launch) : ckCtrOk l ckMT ckTW ckCL k340 := mt_86 (as := k340_a) (cs := k340_c) (gx := []) (f := 200000) rfl (ckHc (k305_ok l) (ckHc (k339_ok l) (ckHc (k309_ok l) (ckHc (k304_ok l) (ckHc (k309_ok l) (fun _ h => absurd h List.not_mem_nil)))))) True.intro (by decide +kernel)
-- FarMachineModel.takes
noncomputable def k341 : ckCtr := (84, ([(0, (1, 0)), (1, (0, 0))], [], dC547, dT516, [([(300, ckTop)], [], [])], [], [], [], 0, 0), [([], [(0, 21)], [], [], [], [(0, 0)], [], [], [], [], 0, 0), ([], [(0, 21)], dP548, [], [(14, (0, 29)), (16, (1, 30)), (17, (1, 1))], [(1, 1), (1, 30)], [], [], [(14, 16, (-1)), (14, 22, (-1)), (22, 14, 1), (22, 16, 0)], [], 0, 0)], 2, 100, 0, 0)
noncomputable def k341_a : ckAs := []
noncomputable def k341_c : List (Nat × ckCtr) := [(8, k304)]
theorem k341_ok (l : Launch) : ckCtrOk l ckMT ckTW ckCL k341 := mt_84 (as := k341_a) (cs := k341_c) (gx := []) (f := 200000) rfl (ckHc (k304_ok l) (fun _ h => absurd h List.not_mem_nil)) True.intro (by decide +kernel)
noncomputable def dP557 : List (Nat × ckC) := [(0, .inl (9, [(4, 10), (4, 11), (4, 12), (4, 13), (1, 1), (4, 14), (4, 15), (4, 16), (4, 17), (4, 18), (4, 19), (4, 20), (4, 21), (4, 22), (1, 2), (4, 23), (0, 0), (0, 1), (0, 2), (0, 3), (0, 4), (0, 5), (0, 6), (4, 24), (0, 7), (4, 25), (0, 8), (0, 9), (0, 10), (0, 11), (4, 26), (0, 12), (0, 25), (0, 14), (0, 15), (1, 2), (1, 1), (0, 26), (4, 27), (4, 28), (0, 17), (0, 18)]))]
-- FarMachineModel.and
noncomputable def k342 : ckCtr := (85, ([(0, (1, 0))], [], dC552, dT517, dG481, [], [], [(1, 0, 0, 0, [])], 0, 0), [([], [(0, 21)], dP553, [], [], [(0, 1), (0, 30), (0, 1)], [], [], dZ445, [(1, 0, 0, 0, [])], 0, 0)], 36, 879, 0, 0)
noncomputable def k342_a : ckAs := [(5, [(274191, [(1, 0, 1, ([(0, (1, 0)), (1, (0, 24))], [], dP557, [], [], [(0, 1), (0, 30), (0, 1)], [], [], dZ447, [(1, 0, 0, 0, [])], 0, 0))])])]
noncomputable def k342_c : List (Nat × ckCtr) := [(1, k340), (8, k341), (15, k339)]
theorem k342_ok (l : Launch) : ckCtrOk l ckMT ckTW ckCL k342 := mt_85 (as := k342_a) (cs := k342_c) (gx := []) (f := 200000) rfl (ckHc (k340_ok l) (ckHc (k341_ok l) (ckHc (k339_ok l) (fun _ h => absurd h List.not_mem_nil)))) True.intro (by decide +kernel)
noncomputable def dC558 : List ckC := [.inl (9, [(4, 10), (4, 11), (4, 12), (4, 13), (1, 2), (4, 14), (4, 15), (4, 16), (4, 17), (4, 18), (4, 19), (4, 20), (4, 21), (4, 22), (1, 1), (4, 23), (0, 2), (0, 3), (0, 4), (0, 5), (0, 6), (0, 7), (0, 8), (4, 24), (0, 9), (4, 25), (0, 10), (0, 11), (0, 12), (0, 13), (4, 26), (0, 14), (0, 15), (0, 16), (0, 17), (5, 0), (5, 0), (0, 18), (4, 27), (4, 28), (0, 19), (0, 20)]), .inr (0, 21, 0), .inr (0, 22, 1)]
noncomputable def dP559 : List (Nat × ckC) := [(0, .inl (9, [(4, 10), (4, 11), (4, 12), (4, 13), (1, 2), (4, 14), (4, 15), (4, 16), (4, 17), (4, 18), (4, 19), (4, 20), (4, 21), (4, 22), (1, 1), (4, 23), (0, 2), (0, 3), (0, 4), (0, 5), (0, 6), (0, 7), (0, 8), (4, 24), (0, 9), (4, 25), (0, 10), (0, 11), (0, 12), (0, 13), (4, 26), (0, 14), (0, 24), (0, 0), (0, 1), (1, 1), (1, 2), (0, 25), (4, 27), (4, 28), (0, 19), (0, 20)]))]
-- FarMachineModel.goesThrough
noncomputable def k343 : ckCtr := (90, ([(0, (1, 0)), (1, (1, 1)), (2, (0, 0)), (3, (0, 1)), (4, (1, 2))], [], dC558, dT520, dG521, [], [], [(1, 1, 0, 0, [])], 0, 0), [([], [(0, 23)], dP559, [], [], [(0, 1), (0, 30), (0, 1)], [], [], [(23, 1, 0), (23, 24, 0), (25, 1, 0), (25, 24, 0)], [(1, 1, 0, 0, [])], 0, 0)], 37, 901, 0, 0)
noncomputable def k343_a : ckAs := []
noncomputable def k343_c : List (Nat × ckCtr) := [(32, k342)]
theorem k343_ok (l : Launch) : ckCtrOk l ckMT ckTW ckCL k343 := mt_90 (as := k343_a) (cs := k343_c) (gx := []) (f := 200000) rfl (ckHc (k342_ok l) (fun _ h => absurd h List.not_mem_nil)) True.intro (by decide +kernel)
noncomputable def dC560 : List ckC := [.inl (9, [(4, 10), (4, 11), (4, 12), (4, 13), (1, 1), (4, 14), (4, 15), (4, 16), (4, 17), (4, 18), (4, 19), (4, 20), (4, 21), (4, 22), (1, 2), (1, 3), (0, 1), (0, 2), (0, 3), (0, 4), (0, 5), (0, 6), (0, 7), (4, 23), (0, 8), (4, 24), (0, 9), (0, 10), (0, 11), (0, 12), (4, 25), (0, 13), (0, 14), (0, 15), (0, 16), (5, 0), (5, 0), (0, 17), (4, 26), (4, 27), (0, 18), (0, 19)]), .inr (0, 20, 0), .inr (0, 21, 1), .inr (0, 22, 2)]
noncomputable def dP561 : List (Nat × ckC) := [(0, .inl (9, [(4, 10), (4, 11), (4, 12), (4, 13), (1, 1), (4, 14), (4, 15), (4, 16), (4, 17), (4, 18), (4, 19), (4, 20), (4, 21), (4, 22), (1, 2), (1, 3), (0, 1), (0, 2), (0, 3), (0, 4), (0, 5), (0, 6), (0, 7), (4, 23), (0, 8), (4, 24), (0, 9), (0, 10), (0, 11), (0, 12), (4, 25), (0, 13), (0, 24), (0, 25), (0, 26), (1, 2), (1, 1), (0, 27), (4, 26), (4, 27), (0, 18), (0, 19)]))]
-- FarMachineModel.isSo
noncomputable def k344 : ckCtr := (92, ([(0, (1, 0)), (1, (0, 0)), (2, (1, 1))], [], dC560, dT524, dG525, [], [], [(1, 0, 0, 0, [])], 0, 0), [([], [(0, 23)], dP561, [], [], [(0, 1), (0, 30), (0, 270), (0, 30), (0, 1)], [], [], [(23, 24, 0), (23, 26, 0), (27, 24, 0), (27, 26, 0)], [(1, 0, 0, 0, [])], 0, 0)], 38, 925, 0, 0)
noncomputable def k344_a : ckAs := []
noncomputable def k344_c : List (Nat × ckCtr) := [(16, k343)]
theorem k344_ok (l : Launch) : ckCtrOk l ckMT ckTW ckCL k344 := mt_92 (as := k344_a) (cs := k344_c) (gx := []) (f := 200000) rfl (ckHc (k343_ok l) (fun _ h => absurd h List.not_mem_nil)) True.intro (by decide +kernel)
noncomputable def dC562 : List ckC := [.inl (9, [(4, 10), (4, 11), (4, 12), (4, 13), (1, 1), (4, 14), (4, 15), (4, 16), (4, 17), (4, 18), (4, 19), (4, 20), (4, 21), (4, 22), (1, 2), (1, 3), (0, 1), (0, 2), (0, 3), (0, 4), (0, 5), (0, 6), (0, 7), (1, 4), (0, 8), (4, 23), (0, 9), (0, 10), (0, 11), (0, 12), (4, 24), (0, 13), (0, 14), (0, 15), (0, 16), (5, 0), (5, 0), (0, 17), (4, 25), (4, 26), (0, 18), (0, 19)]), .inr (0, 20, 0), .inr (0, 21, 1), .inr (0, 22, 2), .inr (0, 23, 3)]
noncomputable def dT563 : List ckI := [(1, 60), (0, 1), (0, 1), (0, 8), (0, 40), (0, 6), (0, 8), (0, 10), (0, 0), ckTop, ckTop, ckTop, ckTop, (0, 30), ckTop, ckTop, ckTop, (0, 1), ckTop, (0, 1), (318, 318), (300, 300), (10, 10), (64, 64), (1, 99)]
noncomputable def dG564 : List ckG := [([(48, ckTop), (49, (0, 47)), (55, ckTop), (56, ckTop), (58, ckTop), (59, ckTop), (76, ckTop), (77, (0, 30)), (197, ckTop), (198, (0, 60)), (318, ckTop)], [(55, 24)], []), ([(300, ckTop)], [], []), ([(10, (0, 30))], [], []), ([(64, ckTop)], [], [])]
noncomputable def dP565 : List (Nat × ckC) := [(0, .inl (9, [(4, 10), (4, 11), (4, 12), (4, 13), (1, 1), (4, 14), (4, 15), (4, 16), (4, 17), (4, 18), (4, 19), (4, 20), (4, 21), (4, 22), (1, 2), (1, 3), (0, 1), (0, 2), (0, 3), (0, 4), (0, 5), (0, 6), (0, 7), (1, 4), (0, 26), (4, 23), (0, 9), (0, 10), (0, 11), (0, 12), (4, 24), (0, 13), (0, 27), (0, 28), (0, 29), (5, 0), (5, 0), (0, 30), (4, 25), (4, 26), (0, 18), (0, 19)])), (1, .inr (0, 20, 4)), (4, .inr (0, 23, 5))]
noncomputable def dG566 : List ckG := [([(48, ckTop), (49, (0, 47)), (50, ckTop), (51, ckTop), (52, ckTop), (53, ckTop), (54, ckTop), (55, ckTop), (56, ckTop), (58, ckTop), (59, ckTop), (60, ckTop), (68, ckTop), (69, ckTop), (76, ckTop), (77, (0, 30)), (78, ckTop), (79, ckTop), (80, ckTop), (81, ckTop), (197, ckTop), (198, (0, 60)), (318, ckTop)], [(55, 24)], []), ([(64, ckTop)], [], [])]
noncomputable def dP567 : List (Nat × ckC) := [(0, .inl (9, [(4, 10), (4, 11), (4, 12), (4, 13), (1, 1), (4, 14), (4, 15), (4, 16), (4, 17), (4, 18), (4, 19), (4, 20), (4, 21), (4, 22), (1, 2), (1, 3), (0, 1), (0, 2), (0, 3), (0, 4), (0, 5), (0, 6), (0, 7), (1, 4), (0, 29), (4, 23), (0, 9), (0, 10), (0, 11), (0, 12), (4, 24), (0, 13), (0, 30), (0, 31), (0, 32), (5, 0), (5, 0), (0, 33), (4, 25), (4, 26), (0, 18), (0, 19)])), (1, .inr (0, 20, 4)), (4, .inr (0, 23, 5))]
noncomputable def dT568 : List ckI := [(-9, 65535), (0, 60), (0, 60), ckTop, ckTop, ckTop, (0, 1)]
noncomputable def dZ569 : List ckZ := [(27, 0, 65533), (27, 28, 65533), (28, 0, 0), (29, 0, 0), (29, 28, 0)]
noncomputable def dP570 : List (Nat × ckC) := [(0, .inl (9, [(4, 10), (4, 11), (4, 12), (4, 13), (1, 1), (4, 14), (4, 15), (4, 16), (4, 17), (4, 18), (4, 19), (4, 20), (4, 21), (4, 22), (1, 2), (1, 3), (0, 1), (0, 2), (0, 3), (0, 4), (0, 5), (0, 6), (0, 7), (1, 4), (0, 34), (4, 23), (0, 9), (0, 10), (0, 11), (0, 12), (4, 24), (0, 13), (0, 41), (0, 42), (0, 43), (5, 0), (5, 0), (0, 44), (4, 25), (4, 26), (0, 18), (0, 19)]))]
noncomputable def dZ571 : List ckZ := [(27, 0, 65532), (27, 28, 65533), (28, 0, (-1)), (34, 0, 0), (34, 28, 1), (39, 0, 65532), (39, 27, 5918), (39, 28, 65533), (40, 7, 0)]
-- FarMachineModel.brokenIn
noncomputable def k345 : ckCtr := (94, ([(0, (1, 0)), (1, (1, 1)), (2, (0, 0))], [], dC562, dT563, dG564, [], [], [(1, 0, 0, 0, [])], 0, 0), [([], [(0, 25)], dP565, [], [], [(-9, 65535), (0, 60), ckTop, ckTop, ckTop, (0, 1)], dG566, [], [(25, 0, 65533), (26, 0, 0)], [(1, 0, 0, 0, []), (1, 4, 0, 0, [])], 0, 0)], 39, 947, 0, 0)
noncomputable def k345_a : ckAs := [(6, [(437492, [(1, 0, 1, ([(0, (1, 0)), (1, (1, 1)), (2, (0, 0)), (3, (0, 27)), (4, (0, 28))], [], dP567, [], [], dT568, dG566, [], dZ569, [(1, 0, 0, 0, []), (1, 4, 0, 0, [])], 0, 0))])]), (20, [(841260, [(1, 0, 1, ([(0, (1, 0)), (1, (1, 1)), (2, (0, 0)), (3, (0, 39)), (4, (0, 28)), (5, (0, 40))], [], dP570, [], [(29, (0, 59)), (34, (0, 61))], [(-9, 65535), (0, 10), ckTop, ckTop, ckTop, (0, 1)], [], [], dZ571, [(1, 6, 0, 0, []), (1, 4, 0, 0, []), (1, 0, 0, 0, [])], 0, 0))])])]
noncomputable def k345_c : List (Nat × ckCtr) := [(14, k168), (37, k344)]
theorem k345_ok (l : Launch) : ckCtrOk l ckMT ckTW ckCL k345 := mt_94 (as := k345_a) (cs := k345_c) (gx := []) (f := 200000) rfl (ckHc (k168_ok l) (ckHc (k344_ok l) (fun _ h => absurd h List.not_mem_nil))) True.intro (by decide +kernel)
noncomputable def dC572 : List ckC := [.inl (9, [(1, 1), (4, 10), (1, 2), (4, 11), (1, 3), (4, 12), (1, 4), (1, 5), (4, 13), (4, 14), (4, 15), (4, 16), (4, 17), (4, 18), (1, 6), (1, 7), (0, 2), (0, 3), (0, 4), (0, 5), (0, 6), (0, 7), (0, 8), (1, 8), (0, 9), (4, 19), (0, 10), (0, 11), (0, 12), (0, 13), (4, 20), (0, 14), (0, 15), (0, 16), (0, 17), (5, 0), (5, 0), (0, 18), (4, 21), (4, 22), (0, 19), (0, 20)]), .inr (0, 21, 0), .inr (0, 22, 1), .inr (0, 22, 2), .inr (0, 23, 3), .inr (0, 23, 4), .inr (0, 24, 5), .inr (0, 25, 6), .inr (0, 26, 7)]
noncomputable def dT573 : List ckI := [ckTop, ckTop, (0, 1), (0, 1), (0, 8), (0, 40), (0, 6), (0, 8), (0, 10), (0, 126000), ckTop, ckTop, ckTop, ckTop, (0, 30), ckTop, ckTop, ckTop, (0, 1), ckTop, (0, 1), (7, 7), (318, 318), (8, 8), (300, 300), (10, 10), (64, 64), (0, 99), (0, 126000)]
noncomputable def dG574 : List ckG := [([(7, ckTop)], [], []), ([(48, ckTop), (49, (0, 47)), (55, ckTop), (56, ckTop), (58, ckTop), (59, ckTop), (76, ckTop), (77, (0, 30)), (197, ckTop), (198, (0, 60)), (318, ckTop)], [(55, 27), (58, 28)], []), ([(318, ckTop)], [], []), ([(8, (0, 47))], [], []), ([(8, ckTop)], [], []), ([(300, ckTop)], [], []), ([(10, (0, 30))], [], []), ([(64, ckTop)], [], [])]
noncomputable def dP575 : List (Nat × ckC) := [(0, .inl (9, [(1, 1), (4, 10), (1, 2), (4, 11), (1, 3), (4, 12), (1, 4), (1, 5), (4, 13), (4, 14), (4, 15), (4, 16), (4, 17), (4, 18), (1, 6), (1, 7), (0, 2), (0, 3), (0, 4), (0, 5), (0, 6), (0, 7), (0, 8), (1, 8), (0, 30), (4, 19), (0, 10), (0, 11), (0, 12), (0, 13), (4, 20), (0, 14), (0, 31), (0, 32), (0, 33), (5, 0), (5, 0), (0, 34), (4, 21), (4, 22), (0, 19), (0, 20)])), (3, .inr (0, 22, 8)), (8, .inr (0, 26, 9))]
noncomputable def dG576 : List ckG := [([(48, ckTop), (49, (0, 47)), (50, ckTop), (51, ckTop), (52, ckTop), (53, ckTop), (54, ckTop), (55, ckTop), (56, ckTop), (58, ckTop), (59, ckTop), (60, ckTop), (68, ckTop), (69, ckTop), (76, ckTop), (77, (0, 30)), (78, ckTop), (79, ckTop), (80, ckTop), (81, ckTop), (197, ckTop), (198, (0, 60)), (318, ckTop)], [(55, 27)], []), ([(64, ckTop)], [], [])]
-- FarMachineModel.broken
noncomputable def k346 : ckCtr := (95, ([(0, (1, 0)), (1, (0, 0)), (2, (0, 1))], [], dC572, dT573, dG574, [], [], [(0, 2, 27, 0, [1, 1, 99]), (1, 1, 0, 0, [])], 0, 0), [([], [(0, 29)], [(1, .inr (0, 21, 8))], [], [(0, (1, 2147483647))], [(-1, -1), ckTop], [([(1, ckTop), (2, ckTop), (7, ckTop)], [(1, 30)], [])], [], [], [(0, 2, 27, 0, [1, 1, 99]), (1, 1, 0, 0, [])], 0, 0), ([], [(0, 29)], [(1, .inr (0, 21, 8))], [], [(0, (-2147483648, -1))], [(-1, -1), ckTop], [([(1, ckTop), (2, ckTop), (7, ckTop)], [(1, 30)], [])], [], [], [(0, 2, 27, 0, [1, 1, 99]), (1, 1, 0, 0, [])], 0, 0), ([], [(0, 29)], [(1, .inr (0, 21, 8))], [], [(0, (0, 255)), (1, (61, 2147483647))], [(-6, -6), ckTop], [([(6, ckTop), (7, ckTop)], [(6, 30)], [])], [], [], [(0, 2, 27, 0, [1, 1, 99]), (1, 1, 0, 0, [])], 0, 0), ([], [(0, 29)], [(1, .inr (0, 21, 8))], [], [(0, (0, 255)), (1, (1, 60)), (2, (0, 0))], [(-3, -3), ckTop], [([(3, ckTop), (4, ckTop), (7, ckTop)], [(3, 30)], [])], [], [], [(0, 2, 27, 0, [1, 1, 99]), (1, 1, 0, 0, [])], 0, 0), ([], [(0, 29)], dP575, [], [(0, (0, 255)), (1, (1, 60)), (2, (1, 1)), (27, (1, 99))], [(-9, 65535), (0, 60), ckTop, ckTop, ckTop, (0, 1)], dG576, [], [(29, 1, 65533), (30, 1, 0)], [(1, 8, 0, 0, []), (0, 2, 27, 0, [1, 1, 99]), (1, 1, 0, 0, [])], 0, 0), ([], [(0, 29)], [(1, .inr (0, 21, 8))], [], [(0, (0, 255)), (1, (-2147483648, 0))], [(-4, -4), ckTop], [([(4, ckTop), (5, ckTop), (7, ckTop)], [(4, 30)], [])], [], [], [(0, 2, 27, 0, [1, 1, 99]), (1, 1, 0, 0, [])], 0, 0)], 40, 972, 0, 0)
noncomputable def k346_a : ckAs := [(49, [(186135, [(5, 0, 0, ([], [], [], [], [], [], [], [], [], [(0, 0, 0, 0, [2, 27, 1, 1, 99])], 0, 0))])])]
noncomputable def k346_c : List (Nat × ckCtr) := [(7, k152), (17, k153), (45, k22), (45, k23), (45, k154), (45, k24), (51, k155), (60, k345)]
theorem k346_ok (l : Launch) : ckCtrOk l ckMT ckTW ckCL k346 := mt_95 (as := k346_a) (cs := k346_c) (gx := []) (f := 200000) rfl (ckHc (k152_ok l) (ckHc (k153_ok l) (ckHc (k22_ok l) (ckHc (k23_ok l) (ckHc (k154_ok l) (ckHc (k24_ok l) (ckHc (k155_ok l) (ckHc (k345_ok l) (fun _ h => absurd h List.not_mem_nil))))))))) True.intro (by decide +kernel)
-- FarMachine$Commands.isFull
noncomputable def k347 : ckCtr := (118, ([(0, (1, 0))], [], dC169, [ckTop, (6, 6)], [([(6, ckTop)], [], [])], [], [], [], 0, 0), [([], [(0, 2)], [], [], [(0, (6, 2147483647))], [(1, 1)], [], [], [], [], 0, 0), ([], [(0, 2)], [], [], [(0, (-2147483648, 5))], [(0, 0)], [], [], [], [], 0, 0)], 1, 80, 0, 0)
noncomputable def k347_a : ckAs := []
noncomputable def k347_c : List (Nat × ckCtr) := []
theorem k347_ok (l : Launch) : ckCtrOk l ckMT ckTW ckCL k347 := mt_118 (as := k347_a) (cs := k347_c) (gx := []) (f := 200000) rfl (fun _ h => absurd h List.not_mem_nil) True.intro (by decide +kernel)
noncomputable def dG577 : List ckG := [([(6, ckTop)], [], []), ([(6, ckTop)], [], []), ([(6, ckTop)], [], []), ([(6, ckTop)], [], [])]
-- FarMachine$Commands.add
noncomputable def k348 : ckCtr := (120, ([(0, (1, 0)), (1, (0, 0)), (2, (0, 1)), (3, (0, 2)), (4, (0, 3))], [], dC100, [ckTop, ckTop, ckTop, ckTop, ckTop, (6, 6)], dG577, [], [], [], 0, 0), [([], [], dP102, [], [(4, (0, 5))], [(1, 6)], dG577, [], [(4, 6, (-1)), (6, 4, 1)], [], 0, 0), ([], [], [], [], [(4, (6, 2147483647))], [], [], [], [], [], 0, 0), ([], [], [], [], [(4, (-2147483648, -1))], [], [], [], [], [], 0, 0)], 1, 80, 0, 0)
noncomputable def k348_a : ckAs := []
noncomputable def k348_c : List (Nat × ckCtr) := []
theorem k348_ok (l : Launch) : ckCtrOk l ckMT ckTW ckCL k348 := mt_120 (as := k348_a) (cs := k348_c) (gx := []) (f := 200000) rfl (fun _ h => absurd h List.not_mem_nil) True.intro (by decide +kernel)
noncomputable def dC578 : List ckC := [.inl (8, [(1, 1), (4, 10), (0, 3), (4, 11), (4, 12), (4, 13), (4, 14), (1, 2)]), .inl (7, [(4, 15), (4, 16), (0, 4), (4, 17), (4, 18), (4, 19), (4, 20), (4, 21), (1, 3), (4, 22)]), .inr (0, 5, 0), .inl (1, [(1, 4), (1, 5), (1, 6), (1, 7), (0, 6)]), .inr (0, 7, 1), .inr (0, 7, 2), .inr (0, 7, 3), .inr (0, 7, 4)]
noncomputable def dT579 : List ckI := [ckTop, ckTop, ckTop, (0, 1), (0, 1), (7, 7), ckTop, (6, 6)]
noncomputable def dG580 : List ckG := [([(7, ckTop)], [], []), ([(6, ckTop)], [], []), ([(6, ckTop)], [], []), ([(6, ckTop)], [], []), ([(6, ckTop)], [], [])]
noncomputable def dP581 : List (Nat × ckC) := [(2, .inr (0, 5, 5)), (3, .inl (1, [(1, 4), (1, 5), (1, 6), (1, 7), (0, 9)])), (4, .inr (0, 7, 6)), (5, .inr (0, 7, 7)), (6, .inr (0, 7, 8)), (7, .inr (0, 7, 9))]
-- FarMachine.ask
noncomputable def k349 : ckCtr := (21, ([(0, (1, 0)), (1, (0, 0)), (2, (0, 1)), (3, (0, 2))], [], dC578, dT579, dG580, [], [], [], 0, 0), [([], [(0, 8)], dP581, [], [], [ckTop, ckTop], dG580, [], [(6, 9, 0), (9, 6, 1)], [], 0, 0)], 3, 124, 0, 0)
noncomputable def k349_a : ckAs := []
noncomputable def k349_c : List (Nat × ckCtr) := [(10, k347), (13, k106), (26, k107), (41, k348)]
theorem k349_ok (l : Launch) : ckCtrOk l ckMT ckTW ckCL k349 := mt_21 (as := k349_a) (cs := k349_c) (gx := []) (f := 200000) rfl (ckHc (k347_ok l) (ckHc (k106_ok l) (ckHc (k107_ok l) (ckHc (k348_ok l) (fun _ h => absurd h List.not_mem_nil))))) True.intro (by decide +kernel)
