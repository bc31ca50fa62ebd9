/-! THE CHECKER: contracts with their certificates (printed by wip/gen/p1gen.py) -/
noncomputable def dG238 : List ckG := [([(50, (0, 0)), (51, (50, 50)), (52, (60, 60)), (54, (0, 0)), (55, (10, 10)), (56, (24, 24)), (57, (200, 200)), (58, (9, 9)), (318, (0, 0))], [], []), ([(318, (0, 0))], [], [])]
-- FarMachineModel.copies
noncomputable def k285 : ckCtr := (72, ([(0, (1, 0)), (1, (1, 1))], [], [.inr (0, 0, 0), .inr (0, 0, 1)], [(318, 318)], dG238, [], [], [], 0, 0), [([], [], [(1, .inr (0, 0, 2))], [], [], [], [([(1, (0, 200)), (318, (0, 200))], [], [])], [], [], [], 0, 0)], 1, 80, 0, 0)
noncomputable def k285_a : ckAs := [(2, [(165484, [(1, 0, 0, ([(0, (1, 0)), (1, (1, 1)), (2, (0, 2))], [], [(1, .inr (0, 0, 2))], [], [], [(0, 318)], [([(1, (0, 200)), (318, (0, 200))], [], [])], [], [], [], 0, 0))])])]
noncomputable def k285_c : List (Nat × ckCtr) := []
theorem k285_ok (l : Launch) : ckCtrOk l ckMT ckTW ckCL k285 := mt_72 (as := k285_a) (cs := k285_c) (gx := []) (f := 200000) rfl (fun _ h => absurd h List.not_mem_nil) True.intro (by decide +kernel)
noncomputable def dC239 : List ckC := [.inl (9, [(4, 10), (1, 1), (1, 2), (4, 11), (4, 12), (4, 13), (4, 14), (4, 15), (4, 16), (4, 17), (4, 18), (4, 19), (4, 20), (4, 21), (4, 22), (4, 23), (0, 0), (0, 0), (0, 0), (0, 0), (0, 0), (0, 0), (0, 0), (4, 24), (0, 0), (4, 25), (0, 0), (0, 0), (0, 0), (0, 0), (4, 26), (0, 0), (0, 0), (0, 0), (0, 0), (4, 26), (1, 1), (0, 0), (4, 27), (4, 28), (0, 0), (0, 0)]), .inr (0, 1, 0), .inr (0, 1, 1)]
noncomputable def dP240 : List (Nat × ckC) := [(0, .inl (9, [(4, 10), (1, 1), (1, 2), (4, 11), (4, 12), (4, 13), (4, 14), (4, 15), (4, 16), (4, 17), (4, 18), (4, 19), (4, 20), (4, 21), (4, 22), (4, 23), (0, 2), (0, 0), (0, 0), (0, 0), (0, 0), (0, 0), (0, 0), (4, 24), (0, 0), (4, 25), (0, 0), (0, 0), (0, 0), (0, 0), (4, 26), (0, 0), (0, 0), (0, 0), (0, 0), (4, 26), (1, 1), (0, 0), (4, 27), (4, 28), (0, 0), (0, 0)])), (2, .inr (0, 1, 2))]
-- FarMachineModel.start
noncomputable def k286 : ckCtr := (73, ([(0, (1, 0))], [], dC239, [(0, 0), (318, 318)], dG238, [], [], [], 0, 0), [([], [(0, 0)], dP240, [], [], [(1, 1)], [([(1, (0, 200)), (318, (0, 200))], [], [])], [], [], [], 0, 0)], 2, 102, 0, 0)
noncomputable def k286_a : ckAs := []
noncomputable def k286_c : List (Nat × ckCtr) := [(8, k285)]
theorem k286_ok (l : Launch) : ckCtrOk l ckMT ckTW ckCL k286 := mt_73 (as := k286_a) (cs := k286_c) (gx := []) (f := 200000) rfl (ckHc (k285_ok l) (fun _ h => absurd h List.not_mem_nil)) True.intro (by decide +kernel)
-- FarMachine$Bytes.isFull
noncomputable def k287 : ckCtr := (113, ([(0, (1, 0))], [], [.inl (0, [(1, 1), (0, 0)]), .inr (0, 1, 0)], [(0, 0), (8, 8)], [([(8, (0, 0))], [], [])], [], [], [], 0, 0), [([], [(0, 0)], [], [], [], [], [], [], [], [], 0, 0)], 1, 80, 0, 0)
noncomputable def k287_a : ckAs := []
noncomputable def k287_c : List (Nat × ckCtr) := []
theorem k287_ok (l : Launch) : ckCtrOk l ckMT ckTW ckCL k287 := mt_113 (as := k287_a) (cs := k287_c) (gx := []) (f := 200000) rfl (fun _ h => absurd h List.not_mem_nil) True.intro (by decide +kernel)
noncomputable def dC241 : List ckC := [.inl (7, [(4, 10), (4, 11), (0, 2), (4, 12), (4, 13), (1, 1), (4, 14), (4, 15), (4, 16), (4, 17)]), .inl (0, [(4, 18), (0, 2)])]
-- FarMachine$World.isSuspect
noncomputable def k288 : ckCtr := (187, ([(0, (1, 0)), (1, (0, 0)), (2, (0, 1))], [], dC241, [(0, 47), (0, 7), (0, 0)], [], [], [], [], 0, 0), [([], [(0, 2)], [], [], [], [], [], [], [], [], 0, 0)], 1, 80, 0, 0)
noncomputable def k288_a : ckAs := []
noncomputable def k288_c : List (Nat × ckCtr) := []
theorem k288_ok (l : Launch) : ckCtrOk l ckMT ckTW ckCL k288 := mt_187 (as := k288_a) (cs := k288_c) (gx := []) (f := 200000) rfl (fun _ h => absurd h List.not_mem_nil) True.intro (by decide +kernel)
-- FarMachine$Bytes.add
noncomputable def k289 : ckCtr := (114, ([(0, (1, 0)), (1, (0, 0))], [], [.inl (0, [(1, 1), (0, 1)]), .inr (0, 2, 0)], [(0, 47), (0, 0), (8, 8)], [([(8, (0, 0))], [], [])], [], [], [], 0, 0), [([], [], [(0, .inl (0, [(1, 1), (0, 3)])), (1, .inr (0, 2, 1))], [], [], [(1, 1)], [([(1, (0, 47)), (8, (0, 0))], [(0, 0)], [])], [], [], [], 0, 0)], 1, 80, 0, 0)
noncomputable def k289_a : ckAs := []
noncomputable def k289_c : List (Nat × ckCtr) := []
theorem k289_ok (l : Launch) : ckCtrOk l ckMT ckTW ckCL k289 := mt_114 (as := k289_a) (cs := k289_c) (gx := []) (f := 200000) rfl (fun _ h => absurd h List.not_mem_nil) True.intro (by decide +kernel)
-- FarMachine$Bytes.add
noncomputable def k290 : ckCtr := (114, ([(0, (1, 0)), (1, (0, 0))], [], [.inl (0, [(1, 1), (0, 1)]), .inr (0, 2, 0)], [(0, 7), (0, 0), (8, 8)], [([(8, (0, 0))], [], [])], [], [], [], 0, 0), [([], [], [(0, .inl (0, [(1, 1), (0, 3)])), (1, .inr (0, 2, 1))], [], [], [(1, 1)], [([(1, (0, 7)), (8, (0, 0))], [(0, 0)], [])], [], [], [], 0, 0)], 1, 80, 0, 0)
noncomputable def k290_a : ckAs := []
noncomputable def k290_c : List (Nat × ckCtr) := []
theorem k290_ok (l : Launch) : ckCtrOk l ckMT ckTW ckCL k290 := mt_114 (as := k290_a) (cs := k290_c) (gx := []) (f := 200000) rfl (fun _ h => absurd h List.not_mem_nil) True.intro (by decide +kernel)
noncomputable def dC242 : List ckC := [.inl (8, [(1, 1), (4, 10), (0, 2), (4, 11), (4, 12), (4, 13), (4, 14), (1, 2)]), .inl (7, [(4, 15), (4, 16), (0, 2), (4, 17), (4, 18), (1, 3), (1, 4), (4, 19), (4, 20), (4, 21)]), .inr (0, 3, 0), .inl (0, [(1, 5), (0, 2)]), .inl (0, [(1, 6), (0, 2)]), .inr (0, 4, 1), .inr (0, 4, 2)]
noncomputable def dG243 : List ckG := [([(7, (0, 0))], [], []), ([(8, (0, 0))], [], []), ([(8, (0, 0))], [], [])]
noncomputable def dP244 : List (Nat × ckC) := [(3, .inl (0, [(1, 5), (0, 5)])), (4, .inl (0, [(1, 6), (0, 5)])), (5, .inr (0, 4, 3)), (6, .inr (0, 4, 4))]
noncomputable def dG245 : List ckG := [([(1, (0, 47)), (8, (0, 0))], [(0, 0)], []), ([(1, (0, 7)), (8, (0, 0))], [(0, 1)], [])]
-- FarMachine.suspect
noncomputable def k291 : ckCtr := (12, ([(0, (1, 0)), (1, (0, 0)), (2, (0, 1))], [], dC242, [ckTop, ckTop, (0, 0), (7, 7), (8, 8)], dG243, [], [], [], 0, 0), [([], [(0, 5)], [(2, .inr (0, 3, 3))], [], [(0, (48, 2147483647))], [(-1, -1), (1, 1)], [([(1, (0, 0)), (2, (1, 1)), (7, (0, 0))], [(1, 6)], [])], [], [], [], 0, 0), ([], [(0, 5)], [(2, .inr (0, 3, 3))], [], [(0, (-2147483648, -1))], [(-1, -1), (1, 1)], [([(1, (0, 0)), (2, (1, 1)), (7, (0, 0))], [(1, 6)], [])], [], [], [], 0, 0), ([], [(0, 5)], [(2, .inr (0, 3, 3))], [], [(0, (0, 47)), (1, (-2147483648, -1))], [(-4, -4), (1, 1)], [([(4, (0, 0)), (5, (1, 1)), (7, (0, 0))], [(4, 6)], [])], [], [], [], 0, 0), ([], [(0, 2)], dP244, [], [(0, (0, 47)), (1, (0, 7))], [(1, 1)], dG245, [], [], [], 0, 0), ([], [(0, 5)], [(2, .inr (0, 3, 3))], [], [(0, (0, 47)), (1, (8, 2147483647))], [(-6, -6), (1, 1)], [([(6, (0, 0)), (7, (1, 1))], [(6, 6)], [])], [], [], [], 0, 0)], 2, 103, 0, 0)
noncomputable def k291_a : ckAs := []
noncomputable def k291_c : List (Nat × ckCtr) := [(1, k13), (9, k14), (20, k15), (37, k287), (46, k16), (56, k288), (77, k289), (88, k290)]
theorem k291_ok (l : Launch) : ckCtrOk l ckMT ckTW ckCL k291 := mt_12 (as := k291_a) (cs := k291_c) (gx := []) (f := 200000) rfl (ckHc (k13_ok l) (ckHc (k14_ok l) (ckHc (k15_ok l) (ckHc (k287_ok l) (ckHc (k16_ok l) (ckHc (k288_ok l) (ckHc (k289_ok l) (ckHc (k290_ok l) (fun _ h => absurd h List.not_mem_nil))))))))) True.intro (by decide +kernel)
-- FarMachineModel.within
noncomputable def k292 : ckCtr := (46, ([(0, (0, 0)), (1, (0, 1)), (2, (0, 2))], [], [], [(0, 7), (0, 0), (7, 7)], [], [], [], [], 0, 0), [([], [(0, 1)], [], [], [], [], [], [], [], [], 0, 0)], 1, 80, 0, 0)
noncomputable def k292_a : ckAs := []
noncomputable def k292_c : List (Nat × ckCtr) := []
theorem k292_ok (l : Launch) : ckCtrOk l ckMT ckTW ckCL k292 := mt_46 (as := k292_a) (cs := k292_c) (gx := []) (f := 200000) rfl (fun _ h => absurd h List.not_mem_nil) True.intro (by decide +kernel)
noncomputable def dC246 : List ckC := [.inl (9, [(4, 10), (4, 11), (4, 12), (4, 13), (4, 14), (4, 15), (1, 1), (1, 2), (4, 16), (4, 17), (4, 18), (4, 19), (4, 20), (4, 21), (4, 22), (4, 23), (0, 2), (0, 2), (0, 2), (0, 2), (0, 2), (0, 2), (0, 2), (4, 24), (0, 2), (4, 25), (0, 2), (0, 2), (0, 2), (0, 2), (4, 26), (0, 2), (0, 2), (0, 2), (0, 2), (4, 26), (4, 11), (0, 2), (4, 27), (4, 28), (0, 2), (0, 2)]), .inr (0, 3, 0), .inr (0, 3, 1)]
noncomputable def dP247 : List (Nat × ckC) := [(0, .inl (9, [(4, 10), (4, 11), (4, 12), (4, 13), (4, 14), (4, 15), (1, 1), (1, 2), (4, 16), (4, 17), (4, 18), (4, 19), (4, 20), (4, 21), (4, 22), (4, 23), (0, 2), (0, 2), (0, 4), (0, 2), (0, 2), (0, 2), (0, 2), (4, 24), (0, 2), (4, 25), (0, 2), (0, 2), (0, 2), (0, 2), (4, 26), (0, 2), (0, 2), (0, 2), (0, 2), (4, 26), (4, 11), (0, 2), (4, 27), (4, 28), (0, 2), (0, 2)])), (1, .inr (0, 3, 2)), (2, .inr (0, 3, 3))]
-- FarMachineModel.suspect
noncomputable def k293 : ckCtr := (74, ([(0, (1, 0)), (1, (0, 0)), (2, (0, 1))], [], dC246, [(0, 47), (0, 7), (0, 0), (8, 8)], [([(8, (0, 0))], [], []), ([(8, (0, 0))], [], [])], [], [], [], 0, 0), [([], [(0, 2)], dP247, [], [], [(1, 1)], dG245, [], [], [], 0, 0)], 2, 102, 0, 0)
noncomputable def k293_a : ckAs := []
noncomputable def k293_c : List (Nat × ckCtr) := [(3, k21), (19, k292)]
theorem k293_ok (l : Launch) : ckCtrOk l ckMT ckTW ckCL k293 := mt_74 (as := k293_a) (cs := k293_c) (gx := []) (f := 200000) rfl (ckHc (k21_ok l) (ckHc (k292_ok l) (fun _ h => absurd h List.not_mem_nil))) True.intro (by decide +kernel)
-- FarMachineModel.within
noncomputable def k294 : ckCtr := (46, ([(0, (0, 0)), (1, (0, 1)), (2, (0, 2))], [], [], [(8, 2147483647), (0, 0), (7, 7)], [], [], [], [], 0, 0), [([], [(0, 3)], [], [], [], [(-6, -6)], [], [], [], [], 0, 0)], 1, 80, 0, 0)
noncomputable def k294_a : ckAs := []
noncomputable def k294_c : List (Nat × ckCtr) := []
theorem k294_ok (l : Launch) : ckCtrOk l ckMT ckTW ckCL k294 := mt_46 (as := k294_a) (cs := k294_c) (gx := []) (f := 200000) rfl (fun _ h => absurd h List.not_mem_nil) True.intro (by decide +kernel)
-- FarMachineModel.suspect
noncomputable def k295 : ckCtr := (74, ([(0, (1, 0)), (1, (0, 0)), (2, (0, 1))], [], dC43, [(0, 47), (8, 2147483647), (0, 0), (7, 7)], [([(7, (0, 0))], [], [])], [], [], [], 0, 0), [([], [(0, 4)], [(1, .inr (0, 3, 1))], [], [], [(-6, -6), (1, 1)], [([(6, (0, 0)), (7, (1, 1))], [(6, 5)], [])], [], [], [], 0, 0)], 2, 102, 0, 0)
noncomputable def k295_a : ckAs := []
noncomputable def k295_c : List (Nat × ckCtr) := [(3, k21), (19, k294), (92, k25)]
theorem k295_ok (l : Launch) : ckCtrOk l ckMT ckTW ckCL k295 := mt_74 (as := k295_a) (cs := k295_c) (gx := []) (f := 200000) rfl (ckHc (k21_ok l) (ckHc (k294_ok l) (ckHc (k25_ok l) (fun _ h => absurd h List.not_mem_nil)))) True.intro (by decide +kernel)
-- FarMachineModel.within
noncomputable def k296 : ckCtr := (46, ([(0, (0, 0)), (1, (0, 1)), (2, (0, 2))], [], [], [(-2147483648, -1), (0, 0), (7, 7)], [], [], [], [], 0, 0), [([], [(0, 3)], [], [], [], [(-4, -4)], [], [], [], [], 0, 0)], 1, 80, 0, 0)
noncomputable def k296_a : ckAs := []
noncomputable def k296_c : List (Nat × ckCtr) := []
theorem k296_ok (l : Launch) : ckCtrOk l ckMT ckTW ckCL k296 := mt_46 (as := k296_a) (cs := k296_c) (gx := []) (f := 200000) rfl (fun _ h => absurd h List.not_mem_nil) True.intro (by decide +kernel)
-- FarMachineModel.suspect
noncomputable def k297 : ckCtr := (74, ([(0, (1, 0)), (1, (0, 0)), (2, (0, 1))], [], dC43, [(0, 47), (-2147483648, -1), (0, 0), (7, 7)], [([(7, (0, 0))], [], [])], [], [], [], 0, 0), [([], [(0, 4)], [(1, .inr (0, 3, 1))], [], [], [(-4, -4), (1, 1)], [([(4, (0, 0)), (5, (1, 1)), (7, (0, 0))], [(4, 5)], [])], [], [], [], 0, 0)], 2, 102, 0, 0)
noncomputable def k297_a : ckAs := []
noncomputable def k297_c : List (Nat × ckCtr) := [(3, k21), (19, k296), (92, k28)]
theorem k297_ok (l : Launch) : ckCtrOk l ckMT ckTW ckCL k297 := mt_74 (as := k297_a) (cs := k297_c) (gx := []) (f := 200000) rfl (ckHc (k21_ok l) (ckHc (k296_ok l) (ckHc (k28_ok l) (fun _ h => absurd h List.not_mem_nil)))) True.intro (by decide +kernel)
-- FarMachineModel.suspect
noncomputable def k298 : ckCtr := (74, ([(0, (1, 0)), (1, (0, 0)), (2, (0, 1))], [], dC43, [(48, 2147483647), ckTop, (0, 0), (7, 7)], [([(7, (0, 0))], [], [])], [], [], [], 0, 0), [([], [(0, 4)], [(1, .inr (0, 3, 1))], [], [], [(-1, -1), (1, 1)], [([(1, (0, 0)), (2, (1, 1)), (7, (0, 0))], [(1, 5)], [])], [], [], [], 0, 0)], 2, 101, 0, 0)
noncomputable def k298_a : ckAs := []
noncomputable def k298_c : List (Nat × ckCtr) := [(3, k30), (11, k31)]
theorem k298_ok (l : Launch) : ckCtrOk l ckMT ckTW ckCL k298 := mt_74 (as := k298_a) (cs := k298_c) (gx := []) (f := 200000) rfl (ckHc (k30_ok l) (ckHc (k31_ok l) (fun _ h => absurd h List.not_mem_nil))) True.intro (by decide +kernel)
-- FarMachineModel.suspect
noncomputable def k299 : ckCtr := (74, ([(0, (1, 0)), (1, (0, 0)), (2, (0, 1))], [], dC43, [(-2147483648, -1), ckTop, (0, 0), (7, 7)], [([(7, (0, 0))], [], [])], [], [], [], 0, 0), [([], [(0, 4)], [(1, .inr (0, 3, 1))], [], [], [(-1, -1), (1, 1)], [([(1, (0, 0)), (2, (1, 1)), (7, (0, 0))], [(1, 5)], [])], [], [], [], 0, 0)], 2, 101, 0, 0)
noncomputable def k299_a : ckAs := []
noncomputable def k299_c : List (Nat × ckCtr) := [(3, k33), (11, k31)]
theorem k299_ok (l : Launch) : ckCtrOk l ckMT ckTW ckCL k299 := mt_74 (as := k299_a) (cs := k299_c) (gx := []) (f := 200000) rfl (ckHc (k33_ok l) (ckHc (k31_ok l) (fun _ h => absurd h List.not_mem_nil))) True.intro (by decide +kernel)
-- FarMachine$Bytes.isFull
noncomputable def k300 : ckCtr := (113, ([(0, (1, 0))], [], [.inl (0, [(1, 1), (0, 0)]), .inr (0, 1, 0)], [(0, 0), (40, 40)], [([(40, (0, 0))], [], [])], [], [], [], 0, 0), [([], [(0, 0)], [], [], [], [], [], [], [], [], 0, 0)], 1, 80, 0, 0)
noncomputable def k300_a : ckAs := []
noncomputable def k300_c : List (Nat × ckCtr) := []
theorem k300_ok (l : Launch) : ckCtrOk l ckMT ckTW ckCL k300 := mt_113 (as := k300_a) (cs := k300_c) (gx := []) (f := 200000) rfl (fun _ h => absurd h List.not_mem_nil) True.intro (by decide +kernel)
-- FarMachine$Bytes.add
noncomputable def k301 : ckCtr := (114, ([(0, (1, 0)), (1, (0, 0))], [], [.inl (0, [(1, 1), (0, 1)]), .inr (0, 2, 0)], [(-128, 127), (0, 0), (40, 40)], [([(40, (0, 0))], [], [])], [], [], [], 0, 0), [([], [], [(0, .inl (0, [(1, 1), (0, 3)])), (1, .inr (0, 2, 1))], [], [], [(1, 1)], [([(1, (-128, 127)), (40, (0, 0))], [(0, 0)], [])], [], [], [], 0, 0)], 1, 80, 0, 0)
noncomputable def k301_a : ckAs := []
noncomputable def k301_c : List (Nat × ckCtr) := []
theorem k301_ok (l : Launch) : ckCtrOk l ckMT ckTW ckCL k301 := mt_114 (as := k301_a) (cs := k301_c) (gx := []) (f := 200000) rfl (fun _ h => absurd h List.not_mem_nil) True.intro (by decide +kernel)
noncomputable def dC248 : List ckC := [.inl (8, [(4, 10), (4, 11), (0, 1), (1, 1), (4, 12), (4, 13), (4, 14), (1, 2)]), .inl (0, [(1, 3), (0, 1)]), .inr (0, 2, 0), .inr (0, 3, 1)]
-- FarMachine.put
noncomputable def k302 : ckCtr := (13, ([(0, (1, 0)), (1, (0, 0))], [], dC248, [ckTop, (0, 0), (7, 7), (40, 40)], [([(7, (0, 0))], [], []), ([(40, (0, 0))], [], [])], [], [], [], 0, 0), [([], [(0, 4)], [(2, .inr (0, 2, 2))], [], [(0, (-2147483648, -129))], [(-4, -4), (1, 1)], [([(4, (0, 0)), (5, (1, 1)), (7, (0, 0))], [(4, 5)], [])], [], [], [], 0, 0), ([], [(0, 4)], [(1, .inl (0, [(1, 3), (0, 4)])), (3, .inr (0, 3, 2))], [], [(0, (-128, 127))], [(1, 1)], [([(1, (-128, 127)), (40, (0, 0))], [(0, 0)], [])], [], [], [], 0, 0), ([], [(0, 4)], [(2, .inr (0, 2, 2))], [], [(0, (128, 2147483647))], [(-6, -6), (1, 1)], [([(6, (0, 0)), (7, (1, 1))], [(6, 5)], [])], [], [], [], 0, 0)], 2, 101, 0, 0)
noncomputable def k302_a : ckAs := []
noncomputable def k302_c : List (Nat × ckCtr) := [(9, k15), (23, k300), (32, k16), (41, k301)]
theorem k302_ok (l : Launch) : ckCtrOk l ckMT ckTW ckCL k302 := mt_13 (as := k302_a) (cs := k302_c) (gx := []) (f := 200000) rfl (ckHc (k15_ok l) (ckHc (k300_ok l) (ckHc (k16_ok l) (ckHc (k301_ok l) (fun _ h => absurd h List.not_mem_nil))))) True.intro (by decide +kernel)
noncomputable def dC249 : List ckC := [.inl (9, [(4, 10), (4, 11), (4, 12), (4, 13), (4, 14), (4, 15), (4, 16), (4, 17), (1, 1), (4, 18), (4, 19), (4, 20), (4, 21), (4, 22), (4, 23), (4, 24), (0, 1), (0, 1), (0, 1), (0, 1), (0, 1), (0, 1), (0, 1), (4, 25), (0, 1), (4, 26), (0, 1), (0, 1), (0, 1), (0, 1), (4, 27), (0, 1), (0, 1), (0, 1), (0, 1), (4, 27), (4, 11), (0, 1), (4, 28), (4, 29), (0, 1), (0, 1)]), .inr (0, 2, 0)]
noncomputable def dP250 : List (Nat × ckC) := [(0, .inl (9, [(4, 10), (4, 11), (4, 12), (4, 13), (4, 14), (4, 15), (4, 16), (4, 17), (1, 1), (4, 18), (4, 19), (4, 20), (4, 21), (4, 22), (4, 23), (4, 24), (0, 1), (0, 1), (0, 1), (0, 3), (0, 1), (0, 1), (0, 1), (4, 25), (0, 1), (4, 26), (0, 1), (0, 1), (0, 1), (0, 1), (4, 27), (0, 1), (0, 1), (0, 1), (0, 1), (4, 27), (4, 11), (0, 1), (4, 28), (4, 29), (0, 1), (0, 1)])), (1, .inr (0, 2, 1))]
-- FarMachineModel.put
noncomputable def k303 : ckCtr := (75, ([(0, (1, 0)), (1, (0, 0))], [], dC249, [(-128, 127), (0, 0), (40, 40)], [([(40, (0, 0))], [], [])], [], [], [], 0, 0), [([], [(0, 3)], dP250, [], [], [(1, 1)], [([(1, (-128, 127)), (40, (0, 0))], [(0, 0)], [])], [], [], [], 0, 0)], 2, 102, 0, 0)
noncomputable def k303_a : ckAs := []
noncomputable def k303_c : List (Nat × ckCtr) := [(5, k83)]
theorem k303_ok (l : Launch) : ckCtrOk l ckMT ckTW ckCL k303 := mt_75 (as := k303_a) (cs := k303_c) (gx := []) (f := 200000) rfl (ckHc (k83_ok l) (fun _ h => absurd h List.not_mem_nil)) True.intro (by decide +kernel)
-- FarMachineModel.put
noncomputable def k304 : ckCtr := (75, ([(0, (1, 0)), (1, (0, 0))], [], dC42, [(128, 2147483647), (0, 0), (7, 7)], [([(7, (0, 0))], [], [])], [], [], [], 0, 0), [([], [(0, 3)], [(1, .inr (0, 2, 1))], [], [], [(-6, -6), (1, 1)], [([(6, (0, 0)), (7, (1, 1))], [(6, 4)], [])], [], [], [], 0, 0)], 2, 102, 0, 0)
noncomputable def k304_a : ckAs := []
noncomputable def k304_c : List (Nat × ckCtr) := [(5, k91), (31, k25)]
theorem k304_ok (l : Launch) : ckCtrOk l ckMT ckTW ckCL k304 := mt_75 (as := k304_a) (cs := k304_c) (gx := []) (f := 200000) rfl (ckHc (k91_ok l) (ckHc (k25_ok l) (fun _ h => absurd h List.not_mem_nil))) True.intro (by decide +kernel)
-- FarMachineModel.put
noncomputable def k305 : ckCtr := (75, ([(0, (1, 0)), (1, (0, 0))], [], dC42, [(-2147483648, -129), (0, 0), (7, 7)], [([(7, (0, 0))], [], [])], [], [], [], 0, 0), [([], [(0, 3)], [(1, .inr (0, 2, 1))], [], [], [(-4, -4), (1, 1)], [([(4, (0, 0)), (5, (1, 1)), (7, (0, 0))], [(4, 4)], [])], [], [], [], 0, 0)], 2, 102, 0, 0)
noncomputable def k305_a : ckAs := []
noncomputable def k305_c : List (Nat × ckCtr) := [(5, k89), (31, k28)]
theorem k305_ok (l : Launch) : ckCtrOk l ckMT ckTW ckCL k305 := mt_75 (as := k305_a) (cs := k305_c) (gx := []) (f := 200000) rfl (ckHc (k89_ok l) (ckHc (k28_ok l) (fun _ h => absurd h List.not_mem_nil))) True.intro (by decide +kernel)
noncomputable def dC251 : List ckC := [.inl (8, [(4, 10), (4, 11), (0, 0), (1, 1), (4, 12), (4, 13), (4, 14), (4, 15)]), .inl (0, [(4, 16), (0, 0)])]
-- FarMachine.unput
noncomputable def k306 : ckCtr := (14, ([(0, (1, 0))], [], dC251, [(0, 0)], [], [], [], [], 0, 0), [([], [(0, 0)], [], [], [], [], [], [], [], [], 0, 0)], 1, 80, 0, 0)
noncomputable def k306_a : ckAs := []
noncomputable def k306_c : List (Nat × ckCtr) := []
theorem k306_ok (l : Launch) : ckCtrOk l ckMT ckTW ckCL k306 := mt_14 (as := k306_a) (cs := k306_c) (gx := []) (f := 200000) rfl (fun _ h => absurd h List.not_mem_nil) True.intro (by decide +kernel)
-- FarMachineModel.unput
noncomputable def k307 : ckCtr := (76, ([(0, (1, 0))], [], dC215, [(0, 0)], [], [], [], [], 0, 0), [([], [(0, 0)], [], [], [], [], [], [], [], [], 0, 0)], 1, 80, 0, 0)
noncomputable def k307_a : ckAs := []
noncomputable def k307_c : List (Nat × ckCtr) := []
theorem k307_ok (l : Launch) : ckCtrOk l ckMT ckTW ckCL k307 := mt_76 (as := k307_a) (cs := k307_c) (gx := []) (f := 200000) rfl (fun _ h => absurd h List.not_mem_nil) True.intro (by decide +kernel)
noncomputable def dC252 : List ckC := [.inl (7, [(4, 10), (4, 11), (0, 0), (4, 12), (4, 13), (1, 1), (4, 14), (4, 15), (4, 16), (4, 17)]), .inl (0, [(4, 18), (0, 0)])]
-- FarMachine$World.stateCount
noncomputable def k308 : ckCtr := (186, ([(0, (1, 0))], [], dC252, [(0, 0)], [], [], [], [], 0, 0), [([], [(0, 1)], [], [], [], [(1, 1)], [], [], [], [], 0, 0)], 1, 80, 0, 0)
noncomputable def k308_a : ckAs := []
noncomputable def k308_c : List (Nat × ckCtr) := []
theorem k308_ok (l : Launch) : ckCtrOk l ckMT ckTW ckCL k308 := mt_186 (as := k308_a) (cs := k308_c) (gx := []) (f := 200000) rfl (fun _ h => absurd h List.not_mem_nil) True.intro (by decide +kernel)
noncomputable def dC253 : List ckC := [.inl (8, [(1, 1), (4, 10), (0, 1), (4, 11), (4, 12), (4, 13), (4, 14), (4, 15)]), .inl (7, [(4, 16), (4, 17), (0, 1), (4, 18), (4, 19), (1, 2), (4, 20), (4, 21), (4, 22), (4, 23)]), .inl (0, [(4, 24), (0, 1)])]
-- FarMachine.isState
noncomputable def k309 : ckCtr := (37, ([(0, (1, 0)), (1, (0, 0))], [], dC253, [ckTop, (0, 0)], [], [], [], [], 0, 0), [([], [(0, 2)], [], [], [(0, (0, 0))], [(1, 1)], [], [], [], [], 0, 0), ([], [(0, 1)], [], [], [(0, (1, 2147483647))], [], [], [], [], [], 0, 0), ([], [(0, 1)], [], [], [(0, (-2147483648, -1))], [], [], [], [], [], 0, 0)], 2, 100, 0, 0)
noncomputable def k309_a : ckAs := []
noncomputable def k309_c : List (Nat × ckCtr) := [(9, k308)]
theorem k309_ok (l : Launch) : ckCtrOk l ckMT ckTW ckCL k309 := mt_37 (as := k309_a) (cs := k309_c) (gx := []) (f := 200000) rfl (ckHc (k308_ok l) (fun _ h => absurd h List.not_mem_nil)) True.intro (by decide +kernel)
noncomputable def dC254 : List ckC := [.inl (8, [(4, 10), (4, 11), (0, 0), (4, 12), (4, 13), (4, 14), (4, 15), (4, 16)])]
-- FarMachine.refusalOfTried
noncomputable def k310 : ckCtr := (40, ([(0, (1, 0)), (1, (0, 0)), (2, (0, 1)), (3, (0, 2))], [], dC254, [(0, 0), ckTop, (1, 1)], [], [], [], [], 0, 0), [([], [(0, 3)], [], [], [], [(-1, -1)], [], [], [], [], 0, 0)], 1, 80, 0, 0)
noncomputable def k310_a : ckAs := []
noncomputable def k310_c : List (Nat × ckCtr) := []
theorem k310_ok (l : Launch) : ckCtrOk l ckMT ckTW ckCL k310 := mt_40 (as := k310_a) (cs := k310_c) (gx := []) (f := 200000) rfl (fun _ h => absurd h List.not_mem_nil) True.intro (by decide +kernel)
noncomputable def dC255 : List ckC := [.inl (8, [(1, 1), (4, 10), (0, 2), (4, 11), (4, 12), (4, 13), (4, 14), (4, 15)]), .inl (7, [(4, 16), (4, 17), (0, 2), (4, 18), (4, 19), (4, 20), (4, 21), (4, 22), (4, 23), (4, 24)])]
-- FarMachine.refusalOfTried
noncomputable def k311 : ckCtr := (40, ([(0, (1, 0)), (1, (0, 0)), (2, (0, 1)), (3, (0, 0))], [], dC255, [(1, 1), ckTop, (0, 0)], [], [], [], [], 0, 0), [([], [(0, 3)], [], [], [(1, (1, 60))], [(-3, -3)], [], [], [], [], 0, 0), ([], [(0, 3)], [], [], [(1, (61, 2147483647))], [(-6, -6)], [], [], [], [], 0, 0), ([], [(0, 3)], [], [], [(1, (-2147483648, 0))], [(-4, -4)], [], [], [], [], 0, 0)], 1, 80, 0, 0)
noncomputable def k311_a : ckAs := []
noncomputable def k311_c : List (Nat × ckCtr) := []
theorem k311_ok (l : Launch) : ckCtrOk l ckMT ckTW ckCL k311 := mt_40 (as := k311_a) (cs := k311_c) (gx := []) (f := 200000) rfl (fun _ h => absurd h List.not_mem_nil) True.intro (by decide +kernel)
-- FarMachine.refuse
noncomputable def k312 : ckCtr := (34, ([(0, (1, 0)), (1, (0, 0))], [], dC32, [(-3, -3), (0, 0), (7, 7)], [([(7, (0, 0))], [], [])], [], [], [], 0, 0), [([], [(0, 0)], [(1, .inr (0, 2, 1))], [], [], [(1, 1)], [([(3, (0, 0)), (4, (1, 1)), (7, (0, 0))], [(3, 3)], [])], [], [], [], 0, 0)], 1, 80, 0, 0)
noncomputable def k312_a : ckAs := []
noncomputable def k312_c : List (Nat × ckCtr) := []
theorem k312_ok (l : Launch) : ckCtrOk l ckMT ckTW ckCL k312 := mt_34 (as := k312_a) (cs := k312_c) (gx := []) (f := 200000) rfl (fun _ h => absurd h List.not_mem_nil) True.intro (by decide +kernel)
noncomputable def dC256 : List ckC := [.inl (8, [(1, 1), (4, 10), (0, 2), (4, 11), (4, 12), (4, 13), (4, 14), (1, 2)]), .inl (7, [(4, 15), (4, 16), (0, 2), (4, 17), (4, 18), (1, 3), (4, 19), (4, 20), (4, 21), (4, 22)]), .inr (0, 3, 0), .inl (0, [(4, 23), (0, 2)])]
-- FarMachine.fits
noncomputable def k313 : ckCtr := (15, ([(0, (1, 0)), (1, (0, 0)), (2, (0, 1))], [], dC256, [ckTop, ckTop, (0, 0), (7, 7)], [([(7, (0, 0))], [], [])], [], [], [], 0, 0), [([], [(0, 4)], [(2, .inr (0, 3, 1))], [], [(0, (1, 2147483647))], [(-1, -1), (1, 1)], [([(1, (0, 0)), (2, (1, 1)), (7, (0, 0))], [(1, 5)], [])], [], [], [], 0, 0), ([], [(0, 4)], [(2, .inr (0, 3, 1))], [], [(0, (-2147483648, -1))], [(-1, -1), (1, 1)], [([(1, (0, 0)), (2, (1, 1)), (7, (0, 0))], [(1, 5)], [])], [], [], [], 0, 0), ([], [(0, 4)], [(2, .inr (0, 3, 1))], [], [(0, (0, 0)), (1, (61, 2147483647))], [(-6, -6), (1, 1)], [([(6, (0, 0)), (7, (1, 1))], [(6, 5)], [])], [], [], [], 0, 0), ([], [(0, 4)], [(2, .inr (0, 3, 1))], [], [(0, (0, 0)), (1, (-2147483648, 0))], [(-4, -4), (1, 1)], [([(4, (0, 0)), (5, (1, 1)), (7, (0, 0))], [(4, 5)], [])], [], [], [], 0, 0), ([], [(0, 4)], [(2, .inr (0, 3, 1))], [], [(0, (0, 0)), (1, (1, 60))], [(-3, -3), (1, 1)], [([(3, (0, 0)), (4, (1, 1)), (7, (0, 0))], [(3, 5)], [])], [], [], [], 0, 0)], 3, 121, 0, 0)
noncomputable def k313_a : ckAs := []
noncomputable def k313_c : List (Nat × ckCtr) := [(3, k309), (8, k310), (8, k311), (18, k14), (18, k16), (18, k15), (18, k312)]
theorem k313_ok (l : Launch) : ckCtrOk l ckMT ckTW ckCL k313 := mt_15 (as := k313_a) (cs := k313_c) (gx := []) (f := 200000) rfl (ckHc (k309_ok l) (ckHc (k310_ok l) (ckHc (k311_ok l) (ckHc (k14_ok l) (ckHc (k16_ok l) (ckHc (k15_ok l) (ckHc (k312_ok l) (fun _ h => absurd h List.not_mem_nil)))))))) True.intro (by decide +kernel)
-- FarMachineModel.isIn
noncomputable def k314 : ckCtr := (45, ([(0, (0, 0)), (1, (0, 1))], [], [], [(0, 0), (1, 1)], [], [], [], [], 0, 0), [([], [(0, 1)], [], [], [], [], [], [], [], [], 0, 0)], 1, 80, 0, 0)
noncomputable def k314_a : ckAs := []
noncomputable def k314_c : List (Nat × ckCtr) := []
theorem k314_ok (l : Launch) : ckCtrOk l ckMT ckTW ckCL k314 := mt_45 (as := k314_a) (cs := k314_c) (gx := []) (f := 200000) rfl (fun _ h => absurd h List.not_mem_nil) True.intro (by decide +kernel)
-- FarMachineModel.within
noncomputable def k315 : ckCtr := (46, ([(0, (0, 0)), (1, (0, 1)), (2, (0, 2))], [], [], [(1, 60), (1, 1), (60, 60)], [], [], [], [], 0, 0), [([], [(0, 3)], [], [], [], [(0, 0)], [], [], [], [], 0, 0)], 1, 80, 0, 0)
noncomputable def k315_a : ckAs := []
noncomputable def k315_c : List (Nat × ckCtr) := []
theorem k315_ok (l : Launch) : ckCtrOk l ckMT ckTW ckCL k315 := mt_46 (as := k315_a) (cs := k315_c) (gx := []) (f := 200000) rfl (fun _ h => absurd h List.not_mem_nil) True.intro (by decide +kernel)
-- FarMachineModel.refuse
noncomputable def k316 : ckCtr := (44, ([(0, (1, 0)), (1, (0, 0))], [], dC42, [(-3, -3), (0, 0), (7, 7)], [([(7, (0, 0))], [], [])], [], [], [], 0, 0), [([], [(0, 0)], [(1, .inr (0, 2, 1))], [], [], [(1, 1)], [([(3, (0, 0)), (4, (1, 1)), (7, (0, 0))], [(3, 3)], [])], [], [], [], 0, 0)], 1, 80, 0, 0)
noncomputable def k316_a : ckAs := []
noncomputable def k316_c : List (Nat × ckCtr) := []
theorem k316_ok (l : Launch) : ckCtrOk l ckMT ckTW ckCL k316 := mt_44 (as := k316_a) (cs := k316_c) (gx := []) (f := 200000) rfl (fun _ h => absurd h List.not_mem_nil) True.intro (by decide +kernel)
-- FarMachineModel.fits
noncomputable def k317 : ckCtr := (79, ([(0, (1, 0)), (1, (0, 0)), (2, (0, 1))], [], dC106, [(0, 0), (1, 60), (7, 7)], [([(7, (0, 0))], [], [])], [], [], [], 0, 0), [([], [(0, 3)], [(1, .inr (0, 2, 1))], [], [], [(-3, -3), (1, 1)], [([(3, (0, 0)), (4, (1, 1)), (7, (0, 0))], [(3, 4)], [])], [], [], [], 0, 0)], 2, 102, 0, 0)
noncomputable def k317_a : ckAs := []
noncomputable def k317_c : List (Nat × ckCtr) := [(7, k314), (17, k315), (45, k316)]
theorem k317_ok (l : Launch) : ckCtrOk l ckMT ckTW ckCL k317 := mt_79 (as := k317_a) (cs := k317_c) (gx := []) (f := 200000) rfl (ckHc (k314_ok l) (ckHc (k315_ok l) (ckHc (k316_ok l) (fun _ h => absurd h List.not_mem_nil)))) True.intro (by decide +kernel)
-- FarMachineModel.within
noncomputable def k318 : ckCtr := (46, ([(0, (0, 0)), (1, (0, 1)), (2, (0, 2))], [], [], [(61, 2147483647), (1, 1), (60, 60)], [], [], [], [], 0, 0), [([], [(0, 3)], [], [], [], [(-6, -6)], [], [], [], [], 0, 0)], 1, 80, 0, 0)
noncomputable def k318_a : ckAs := []
noncomputable def k318_c : List (Nat × ckCtr) := []
theorem k318_ok (l : Launch) : ckCtrOk l ckMT ckTW ckCL k318 := mt_46 (as := k318_a) (cs := k318_c) (gx := []) (f := 200000) rfl (fun _ h => absurd h List.not_mem_nil) True.intro (by decide +kernel)
-- FarMachineModel.fits
noncomputable def k319 : ckCtr := (79, ([(0, (1, 0)), (1, (0, 0)), (2, (0, 1))], [], dC106, [(0, 0), (61, 2147483647), (7, 7)], [([(7, (0, 0))], [], [])], [], [], [], 0, 0), [([], [(0, 3)], [(1, .inr (0, 2, 1))], [], [], [(-6, -6), (1, 1)], [([(6, (0, 0)), (7, (1, 1))], [(6, 4)], [])], [], [], [], 0, 0)], 2, 102, 0, 0)
noncomputable def k319_a : ckAs := []
noncomputable def k319_c : List (Nat × ckCtr) := [(7, k314), (17, k318), (45, k25)]
theorem k319_ok (l : Launch) : ckCtrOk l ckMT ckTW ckCL k319 := mt_79 (as := k319_a) (cs := k319_c) (gx := []) (f := 200000) rfl (ckHc (k314_ok l) (ckHc (k318_ok l) (ckHc (k25_ok l) (fun _ h => absurd h List.not_mem_nil)))) True.intro (by decide +kernel)
-- FarMachineModel.within
noncomputable def k320 : ckCtr := (46, ([(0, (0, 0)), (1, (0, 1)), (2, (0, 2))], [], [], [(-2147483648, 0), (1, 1), (60, 60)], [], [], [], [], 0, 0), [([], [(0, 3)], [], [], [], [(-4, -4)], [], [], [], [], 0, 0)], 1, 80, 0, 0)
noncomputable def k320_a : ckAs := []
noncomputable def k320_c : List (Nat × ckCtr) := []
theorem k320_ok (l : Launch) : ckCtrOk l ckMT ckTW ckCL k320 := mt_46 (as := k320_a) (cs := k320_c) (gx := []) (f := 200000) rfl (fun _ h => absurd h List.not_mem_nil) True.intro (by decide +kernel)
-- FarMachineModel.fits
noncomputable def k321 : ckCtr := (79, ([(0, (1, 0)), (1, (0, 0)), (2, (0, 1))], [], dC106, [(0, 0), (-2147483648, 0), (7, 7)], [([(7, (0, 0))], [], [])], [], [], [], 0, 0), [([], [(0, 3)], [(1, .inr (0, 2, 1))], [], [], [(-4, -4), (1, 1)], [([(4, (0, 0)), (5, (1, 1)), (7, (0, 0))], [(4, 4)], [])], [], [], [], 0, 0)], 2, 102, 0, 0)
noncomputable def k321_a : ckAs := []
noncomputable def k321_c : List (Nat × ckCtr) := [(7, k314), (17, k320), (45, k28)]
theorem k321_ok (l : Launch) : ckCtrOk l ckMT ckTW ckCL k321 := mt_79 (as := k321_a) (cs := k321_c) (gx := []) (f := 200000) rfl (ckHc (k314_ok l) (ckHc (k320_ok l) (ckHc (k28_ok l) (fun _ h => absurd h List.not_mem_nil)))) True.intro (by decide +kernel)
-- FarMachineModel.isIn
noncomputable def k322 : ckCtr := (45, ([(0, (0, 0)), (1, (0, 1))], [], [], [(1, 2147483647), (1, 1)], [], [], [], [], 0, 0), [([], [(0, 2)], [], [], [], [(0, 0)], [], [], [], [], 0, 0)], 1, 80, 0, 0)
noncomputable def k322_a : ckAs := []
noncomputable def k322_c : List (Nat × ckCtr) := []
theorem k322_ok (l : Launch) : ckCtrOk l ckMT ckTW ckCL k322 := mt_45 (as := k322_a) (cs := k322_c) (gx := []) (f := 200000) rfl (fun _ h => absurd h List.not_mem_nil) True.intro (by decide +kernel)
-- FarMachineModel.fits
noncomputable def k323 : ckCtr := (79, ([(0, (1, 0)), (1, (0, 0)), (2, (0, 1))], [], dC43, [(1, 2147483647), ckTop, (0, 0), (7, 7)], [([(7, (0, 0))], [], [])], [], [], [], 0, 0), [([], [(0, 4)], [(1, .inr (0, 3, 1))], [], [], [(-1, -1), (1, 1)], [([(1, (0, 0)), (2, (1, 1)), (7, (0, 0))], [(1, 5)], [])], [], [], [], 0, 0)], 2, 101, 0, 0)
noncomputable def k323_a : ckAs := []
noncomputable def k323_c : List (Nat × ckCtr) := [(7, k322), (45, k31)]
theorem k323_ok (l : Launch) : ckCtrOk l ckMT ckTW ckCL k323 := mt_79 (as := k323_a) (cs := k323_c) (gx := []) (f := 200000) rfl (ckHc (k322_ok l) (ckHc (k31_ok l) (fun _ h => absurd h List.not_mem_nil))) True.intro (by decide +kernel)
-- FarMachineModel.isIn
noncomputable def k324 : ckCtr := (45, ([(0, (0, 0)), (1, (0, 1))], [], [], [(-2147483648, -1), (1, 1)], [], [], [], [], 0, 0), [([], [(0, 2)], [], [], [], [(0, 0)], [], [], [], [], 0, 0)], 1, 80, 0, 0)
noncomputable def k324_a : ckAs := []
noncomputable def k324_c : List (Nat × ckCtr) := []
theorem k324_ok (l : Launch) : ckCtrOk l ckMT ckTW ckCL k324 := mt_45 (as := k324_a) (cs := k324_c) (gx := []) (f := 200000) rfl (fun _ h => absurd h List.not_mem_nil) True.intro (by decide +kernel)
-- FarMachineModel.fits
noncomputable def k325 : ckCtr := (79, ([(0, (1, 0)), (1, (0, 0)), (2, (0, 1))], [], dC43, [(-2147483648, -1), ckTop, (0, 0), (7, 7)], [([(7, (0, 0))], [], [])], [], [], [], 0, 0), [([], [(0, 4)], [(1, .inr (0, 3, 1))], [], [], [(-1, -1), (1, 1)], [([(1, (0, 0)), (2, (1, 1)), (7, (0, 0))], [(1, 5)], [])], [], [], [], 0, 0)], 2, 101, 0, 0)
noncomputable def k325_a : ckAs := []
noncomputable def k325_c : List (Nat × ckCtr) := [(7, k324), (45, k31)]
theorem k325_ok (l : Launch) : ckCtrOk l ckMT ckTW ckCL k325 := mt_79 (as := k325_a) (cs := k325_c) (gx := []) (f := 200000) rfl (ckHc (k324_ok l) (ckHc (k31_ok l) (fun _ h => absurd h List.not_mem_nil))) True.intro (by decide +kernel)
noncomputable def dC257 : List ckC := [.inl (8, [(1, 1), (4, 10), (0, 2), (4, 11), (4, 12), (4, 13), (4, 14), (1, 2)]), .inl (7, [(4, 15), (4, 16), (0, 2), (4, 17), (4, 18), (4, 19), (4, 20), (4, 21), (4, 22), (4, 23)]), .inr (0, 3, 0)]
-- FarMachine.fitting
noncomputable def k326 : ckCtr := (16, ([(0, (1, 0)), (1, (0, 0)), (2, (0, 1))], [], dC257, [ckTop, ckTop, (0, 0), (7, 7)], [([(7, (0, 0))], [], [])], [], [], [], 0, 0), [([], [(0, 4)], [(2, .inr (0, 3, 1))], [], [(1, (4, 2147483647))], [(-2, -2), (1, 1)], [([(2, (0, 0)), (3, (1, 1)), (7, (0, 0))], [(2, 5)], [])], [], [], [], 0, 0), ([], [(0, 4)], [(2, .inr (0, 3, 1))], [], [(0, (61, 2147483647)), (1, (0, 3))], [(-6, -6), (1, 1)], [([(6, (0, 0)), (7, (1, 1))], [(6, 5)], [])], [], [], [], 0, 0), ([], [(0, 4)], [(2, .inr (0, 3, 1))], [], [(0, (-2147483648, 0)), (1, (0, 3))], [(-4, -4), (1, 1)], [([(4, (0, 0)), (5, (1, 1)), (7, (0, 0))], [(4, 5)], [])], [], [], [], 0, 0), ([], [(0, 4)], [(2, .inr (0, 3, 1))], [], [(0, (1, 60)), (1, (0, 3))], [(-3, -3), (1, 1)], [([(3, (0, 0)), (4, (1, 1)), (7, (0, 0))], [(3, 5)], [])], [], [], [], 0, 0), ([], [(0, 4)], [(2, .inr (0, 3, 1))], [], [(1, (-2147483648, -1))], [(-2, -2), (1, 1)], [([(2, (0, 0)), (3, (1, 1)), (7, (0, 0))], [(2, 5)], [])], [], [], [], 0, 0)], 2, 103, 0, 0)
noncomputable def k326_a : ckAs := []
noncomputable def k326_c : List (Nat × ckCtr) := [(12, k39), (20, k311), (30, k16), (30, k15), (30, k312)]
theorem k326_ok (l : Launch) : ckCtrOk l ckMT ckTW ckCL k326 := mt_16 (as := k326_a) (cs := k326_c) (gx := []) (f := 200000) rfl (ckHc (k39_ok l) (ckHc (k311_ok l) (ckHc (k16_ok l) (ckHc (k15_ok l) (ckHc (k312_ok l) (fun _ h => absurd h List.not_mem_nil)))))) True.intro (by decide +kernel)
-- FarMachineModel.isIn
noncomputable def k327 : ckCtr := (45, ([(0, (0, 0)), (1, (0, 1))], [], [], [(0, 3), (4, 4)], [], [], [], [], 0, 0), [([], [(0, 2)], [], [], [], [(1, 1)], [], [], [], [], 0, 0)], 1, 80, 0, 0)
noncomputable def k327_a : ckAs := []
noncomputable def k327_c : List (Nat × ckCtr) := []
theorem k327_ok (l : Launch) : ckCtrOk l ckMT ckTW ckCL k327 := mt_45 (as := k327_a) (cs := k327_c) (gx := []) (f := 200000) rfl (fun _ h => absurd h List.not_mem_nil) True.intro (by decide +kernel)
-- FarMachineModel.fitting
noncomputable def k328 : ckCtr := (81, ([(0, (1, 0)), (1, (0, 0)), (2, (0, 1))], [], dC43, [(1, 60), (0, 3), (0, 0), (7, 7)], [([(7, (0, 0))], [], [])], [], [], [], 0, 0), [([], [(0, 4)], [(1, .inr (0, 3, 1))], [], [], [(-3, -3), (1, 1)], [([(3, (0, 0)), (4, (1, 1)), (7, (0, 0))], [(3, 5)], [])], [], [], [], 0, 0)], 2, 102, 0, 0)
noncomputable def k328_a : ckAs := []
noncomputable def k328_c : List (Nat × ckCtr) := [(2, k327), (12, k315), (41, k316)]
theorem k328_ok (l : Launch) : ckCtrOk l ckMT ckTW ckCL k328 := mt_81 (as := k328_a) (cs := k328_c) (gx := []) (f := 200000) rfl (ckHc (k327_ok l) (ckHc (k315_ok l) (ckHc (k316_ok l) (fun _ h => absurd h List.not_mem_nil)))) True.intro (by decide +kernel)
-- FarMachineModel.fitting
noncomputable def k329 : ckCtr := (81, ([(0, (1, 0)), (1, (0, 0)), (2, (0, 1))], [], dC43, [(61, 2147483647), (0, 3), (0, 0), (7, 7)], [([(7, (0, 0))], [], [])], [], [], [], 0, 0), [([], [(0, 4)], [(1, .inr (0, 3, 1))], [], [], [(-6, -6), (1, 1)], [([(6, (0, 0)), (7, (1, 1))], [(6, 5)], [])], [], [], [], 0, 0)], 2, 102, 0, 0)
noncomputable def k329_a : ckAs := []
noncomputable def k329_c : List (Nat × ckCtr) := [(2, k327), (12, k318), (41, k25)]
theorem k329_ok (l : Launch) : ckCtrOk l ckMT ckTW ckCL k329 := mt_81 (as := k329_a) (cs := k329_c) (gx := []) (f := 200000) rfl (ckHc (k327_ok l) (ckHc (k318_ok l) (ckHc (k25_ok l) (fun _ h => absurd h List.not_mem_nil)))) True.intro (by decide +kernel)
-- FarMachineModel.fitting
noncomputable def k330 : ckCtr := (81, ([(0, (1, 0)), (1, (0, 0)), (2, (0, 1))], [], dC43, [(-2147483648, 0), (0, 3), (0, 0), (7, 7)], [([(7, (0, 0))], [], [])], [], [], [], 0, 0), [([], [(0, 4)], [(1, .inr (0, 3, 1))], [], [], [(-4, -4), (1, 1)], [([(4, (0, 0)), (5, (1, 1)), (7, (0, 0))], [(4, 5)], [])], [], [], [], 0, 0)], 2, 102, 0, 0)
noncomputable def k330_a : ckAs := []
noncomputable def k330_c : List (Nat × ckCtr) := [(2, k327), (12, k320), (41, k28)]
theorem k330_ok (l : Launch) : ckCtrOk l ckMT ckTW ckCL k330 := mt_81 (as := k330_a) (cs := k330_c) (gx := []) (f := 200000) rfl (ckHc (k327_ok l) (ckHc (k320_ok l) (ckHc (k28_ok l) (fun _ h => absurd h List.not_mem_nil)))) True.intro (by decide +kernel)
-- FarMachineModel.isIn
noncomputable def k331 : ckCtr := (45, ([(0, (0, 0)), (1, (0, 1))], [], [], [(4, 2147483647), (4, 4)], [], [], [], [], 0, 0), [([], [(0, 2)], [], [], [], [(0, 0)], [], [], [], [], 0, 0)], 1, 80, 0, 0)
noncomputable def k331_a : ckAs := []
noncomputable def k331_c : List (Nat × ckCtr) := []
theorem k331_ok (l : Launch) : ckCtrOk l ckMT ckTW ckCL k331 := mt_45 (as := k331_a) (cs := k331_c) (gx := []) (f := 200000) rfl (fun _ h => absurd h List.not_mem_nil) True.intro (by decide +kernel)
-- FarMachineModel.fitting
noncomputable def k332 : ckCtr := (81, ([(0, (1, 0)), (1, (0, 0)), (2, (0, 1))], [], dC43, [ckTop, (4, 2147483647), (0, 0), (7, 7)], [([(7, (0, 0))], [], [])], [], [], [], 0, 0), [([], [(0, 4)], [(1, .inr (0, 3, 1))], [], [], [(-2, -2), (1, 1)], [([(2, (0, 0)), (3, (1, 1)), (7, (0, 0))], [(2, 5)], [])], [], [], [], 0, 0)], 2, 101, 0, 0)
noncomputable def k332_a : ckAs := []
noncomputable def k332_c : List (Nat × ckCtr) := [(2, k331), (41, k48)]
theorem k332_ok (l : Launch) : ckCtrOk l ckMT ckTW ckCL k332 := mt_81 (as := k332_a) (cs := k332_c) (gx := []) (f := 200000) rfl (ckHc (k331_ok l) (ckHc (k48_ok l) (fun _ h => absurd h List.not_mem_nil))) True.intro (by decide +kernel)
-- FarMachineModel.isIn
noncomputable def k333 : ckCtr := (45, ([(0, (0, 0)), (1, (0, 1))], [], [], [(-2147483648, -1), (4, 4)], [], [], [], [], 0, 0), [([], [(0, 2)], [], [], [], [(0, 0)], [], [], [], [], 0, 0)], 1, 80, 0, 0)
noncomputable def k333_a : ckAs := []
noncomputable def k333_c : List (Nat × ckCtr) := []
theorem k333_ok (l : Launch) : ckCtrOk l ckMT ckTW ckCL k333 := mt_45 (as := k333_a) (cs := k333_c) (gx := []) (f := 200000) rfl (fun _ h => absurd h List.not_mem_nil) True.intro (by decide +kernel)
-- FarMachineModel.fitting
noncomputable def k334 : ckCtr := (81, ([(0, (1, 0)), (1, (0, 0)), (2, (0, 1))], [], dC43, [ckTop, (-2147483648, -1), (0, 0), (7, 7)], [([(7, (0, 0))], [], [])], [], [], [], 0, 0), [([], [(0, 4)], [(1, .inr (0, 3, 1))], [], [], [(-2, -2), (1, 1)], [([(2, (0, 0)), (3, (1, 1)), (7, (0, 0))], [(2, 5)], [])], [], [], [], 0, 0)], 2, 101, 0, 0)
noncomputable def k334_a : ckAs := []
noncomputable def k334_c : List (Nat × ckCtr) := [(2, k333), (41, k48)]
theorem k334_ok (l : Launch) : ckCtrOk l ckMT ckTW ckCL k334 := mt_81 (as := k334_a) (cs := k334_c) (gx := []) (f := 200000) rfl (ckHc (k333_ok l) (ckHc (k48_ok l) (fun _ h => absurd h List.not_mem_nil))) True.intro (by decide +kernel)
-- FarMachine$Bytes.add
noncomputable def k335 : ckCtr := (114, ([(0, (1, 0)), (1, (0, 0))], [], [.inl (0, [(1, 1), (0, 1)]), .inr (0, 2, 0)], [(0, 255), (0, 0), (30, 30)], [([(30, (0, 0))], [], [])], [], [], [], 0, 0), [([], [], [(0, .inl (0, [(1, 1), (0, 3)])), (1, .inr (0, 2, 1))], [], [], [(1, 1)], [([(1, (0, 255)), (30, (0, 0))], [(0, 0)], [])], [], [], [], 0, 0)], 1, 80, 0, 0)
noncomputable def k335_a : ckAs := []
noncomputable def k335_c : List (Nat × ckCtr) := []
theorem k335_ok (l : Launch) : ckCtrOk l ckMT ckTW ckCL k335 := mt_114 (as := k335_a) (cs := k335_c) (gx := []) (f := 200000) rfl (fun _ h => absurd h List.not_mem_nil) True.intro (by decide +kernel)
noncomputable def dG258 : List ckG := [([(1, (0, 255)), (2, (0, 255)), (30, (0, 0))], [(0, 3), (1, 0)], [])]
-- FarMachine$Bytes.add
noncomputable def k336 : ckCtr := (114, ([(0, (1, 0)), (1, (0, 0))], [], [.inl (0, [(1, 1), (0, 1)]), .inr (0, 2, 0)], [(0, 255), (1, 1), (30, 30), (0, 255)], [([(1, (0, 255)), (30, (0, 0))], [(0, 3)], [])], [], [], [], 0, 0), [([], [], [(0, .inl (0, [(1, 1), (0, 4)])), (1, .inr (0, 2, 1))], [], [], [(2, 2)], dG258, [], [], [], 0, 0)], 1, 80, 0, 0)
noncomputable def k336_a : ckAs := []
noncomputable def k336_c : List (Nat × ckCtr) := []
theorem k336_ok (l : Launch) : ckCtrOk l ckMT ckTW ckCL k336 := mt_114 (as := k336_a) (cs := k336_c) (gx := []) (f := 200000) rfl (fun _ h => absurd h List.not_mem_nil) True.intro (by decide +kernel)
noncomputable def dG259 : List ckG := [([(1, (0, 255)), (2, (0, 255)), (30, (0, 0))], [(0, 3), (1, 4)], [])]
noncomputable def dG260 : List ckG := [([(1, (0, 255)), (2, (0, 255)), (3, (0, 255)), (30, (0, 0))], [(0, 3), (1, 4), (2, 0)], [])]
-- FarMachine$Bytes.add
noncomputable def k337 : ckCtr := (114, ([(0, (1, 0)), (1, (0, 0))], [], [.inl (0, [(1, 1), (0, 1)]), .inr (0, 2, 0)], [(0, 255), (2, 2), (30, 30), (0, 255), (0, 255)], dG259, [], [], [], 0, 0), [([], [], [(0, .inl (0, [(1, 1), (0, 5)])), (1, .inr (0, 2, 1))], [], [], [(3, 3)], dG260, [], [], [], 0, 0)], 1, 80, 0, 0)
noncomputable def k337_a : ckAs := []
noncomputable def k337_c : List (Nat × ckCtr) := []
theorem k337_ok (l : Launch) : ckCtrOk l ckMT ckTW ckCL k337 := mt_114 (as := k337_a) (cs := k337_c) (gx := []) (f := 200000) rfl (fun _ h => absurd h List.not_mem_nil) True.intro (by decide +kernel)
noncomputable def dG261 : List ckG := [([(1, (0, 255)), (2, (0, 255)), (3, (0, 255)), (30, (0, 0))], [(0, 3), (1, 4), (2, 5)], [])]
noncomputable def dG262 : List ckG := [([(1, (0, 255)), (2, (0, 255)), (3, (0, 255)), (4, (0, 255)), (30, (0, 0))], [(0, 3), (1, 4), (2, 5), (3, 0)], [])]
-- FarMachine$Bytes.add
noncomputable def k338 : ckCtr := (114, ([(0, (1, 0)), (1, (0, 0))], [], [.inl (0, [(1, 1), (0, 1)]), .inr (0, 2, 0)], [(0, 255), (3, 3), (30, 30), (0, 255), (0, 255), (0, 255)], dG261, [], [], [], 0, 0), [([], [], [(0, .inl (0, [(1, 1), (0, 6)])), (1, .inr (0, 2, 1))], [], [], [(4, 4)], dG262, [], [], [], 0, 0)], 1, 80, 0, 0)
noncomputable def k338_a : ckAs := []
noncomputable def k338_c : List (Nat × ckCtr) := []
theorem k338_ok (l : Launch) : ckCtrOk l ckMT ckTW ckCL k338 := mt_114 (as := k338_a) (cs := k338_c) (gx := []) (f := 200000) rfl (fun _ h => absurd h List.not_mem_nil) True.intro (by decide +kernel)
noncomputable def dT263 : List ckI := [(0, 255), (4, 4), (30, 30), (0, 255), (0, 255), (0, 255), (0, 255)]
noncomputable def dG264 : List ckG := [([(1, (0, 255)), (2, (0, 255)), (3, (0, 255)), (4, (0, 255)), (30, (0, 0))], [(0, 3), (1, 4), (2, 5), (3, 6)], [])]
noncomputable def dG265 : List ckG := [([(1, (0, 255)), (2, (0, 255)), (3, (0, 255)), (4, (0, 255)), (5, (0, 255)), (30, (0, 0))], [(0, 3), (1, 4), (2, 5), (3, 6), (4, 0)], [])]
-- FarMachine$Bytes.add
noncomputable def k339 : ckCtr := (114, ([(0, (1, 0)), (1, (0, 0))], [], [.inl (0, [(1, 1), (0, 1)]), .inr (0, 2, 0)], dT263, dG264, [], [], [], 0, 0), [([], [], [(0, .inl (0, [(1, 1), (0, 7)])), (1, .inr (0, 2, 1))], [], [], [(5, 5)], dG265, [], [], [], 0, 0)], 1, 80, 0, 0)
noncomputable def k339_a : ckAs := []
noncomputable def k339_c : List (Nat × ckCtr) := []
theorem k339_ok (l : Launch) : ckCtrOk l ckMT ckTW ckCL k339 := mt_114 (as := k339_a) (cs := k339_c) (gx := []) (f := 200000) rfl (fun _ h => absurd h List.not_mem_nil) True.intro (by decide +kernel)
noncomputable def dT266 : List ckI := [(0, 255), (5, 5), (30, 30), (0, 255), (0, 255), (0, 255), (0, 255), (0, 255)]
noncomputable def dG267 : List ckG := [([(1, (0, 255)), (2, (0, 255)), (3, (0, 255)), (4, (0, 255)), (5, (0, 255)), (30, (0, 0))], [(0, 3), (1, 4), (2, 5), (3, 6), (4, 7)], [])]
noncomputable def dG268 : List ckG := [([(1, (0, 255)), (2, (0, 255)), (3, (0, 255)), (4, (0, 255)), (5, (0, 255)), (6, (0, 255)), (30, (0, 0))], [(0, 3), (1, 4), (2, 5), (3, 6), (4, 7), (5, 0)], [])]
-- FarMachine$Bytes.add
noncomputable def k340 : ckCtr := (114, ([(0, (1, 0)), (1, (0, 0))], [], [.inl (0, [(1, 1), (0, 1)]), .inr (0, 2, 0)], dT266, dG267, [], [], [], 0, 0), [([], [], [(0, .inl (0, [(1, 1), (0, 8)])), (1, .inr (0, 2, 1))], [], [], [(6, 6)], dG268, [], [], [], 0, 0)], 1, 80, 0, 0)
noncomputable def k340_a : ckAs := []
noncomputable def k340_c : List (Nat × ckCtr) := []
theorem k340_ok (l : Launch) : ckCtrOk l ckMT ckTW ckCL k340 := mt_114 (as := k340_a) (cs := k340_c) (gx := []) (f := 200000) rfl (fun _ h => absurd h List.not_mem_nil) True.intro (by decide +kernel)
noncomputable def dT269 : List ckI := [(0, 255), (6, 6), (30, 30), (0, 255), (0, 255), (0, 255), (0, 255), (0, 255), (0, 255)]
noncomputable def dG270 : List ckG := [([(1, (0, 255)), (2, (0, 255)), (3, (0, 255)), (4, (0, 255)), (5, (0, 255)), (6, (0, 255)), (30, (0, 0))], [(0, 3), (1, 4), (2, 5), (3, 6), (4, 7), (5, 8)], [])]
noncomputable def dG271 : List ckG := [([(1, (0, 255)), (2, (0, 255)), (3, (0, 255)), (4, (0, 255)), (5, (0, 255)), (6, (0, 255)), (7, (0, 255)), (30, (0, 0))], [(0, 3), (1, 4), (2, 5), (3, 6), (4, 7), (5, 8), (6, 0)], [])]
-- FarMachine$Bytes.add
noncomputable def k341 : ckCtr := (114, ([(0, (1, 0)), (1, (0, 0))], [], [.inl (0, [(1, 1), (0, 1)]), .inr (0, 2, 0)], dT269, dG270, [], [], [], 0, 0), [([], [], [(0, .inl (0, [(1, 1), (0, 9)])), (1, .inr (0, 2, 1))], [], [], [(7, 7)], dG271, [], [], [], 0, 0)], 1, 80, 0, 0)
noncomputable def k341_a : ckAs := []
noncomputable def k341_c : List (Nat × ckCtr) := []
theorem k341_ok (l : Launch) : ckCtrOk l ckMT ckTW ckCL k341 := mt_114 (as := k341_a) (cs := k341_c) (gx := []) (f := 200000) rfl (fun _ h => absurd h List.not_mem_nil) True.intro (by decide +kernel)
noncomputable def dT272 : List ckI := [(0, 255), (7, 7), (30, 30), (0, 255), (0, 255), (0, 255), (0, 255), (0, 255), (0, 255), (0, 255)]
noncomputable def dG273 : List ckG := [([(1, (0, 255)), (2, (0, 255)), (3, (0, 255)), (4, (0, 255)), (5, (0, 255)), (6, (0, 255)), (7, (0, 255)), (30, (0, 0))], [(0, 3), (1, 4), (2, 5), (3, 6), (4, 7), (5, 8), (6, 9)], [])]
noncomputable def dG274 : List ckG := [([(1, (0, 255)), (2, (0, 255)), (3, (0, 255)), (4, (0, 255)), (5, (0, 255)), (6, (0, 255)), (7, (0, 255)), (8, (0, 255)), (30, (0, 0))], [(0, 3), (1, 4), (2, 5), (3, 6), (4, 7), (5, 8), (6, 9), (7, 0)], [])]
-- FarMachine$Bytes.add
noncomputable def k342 : ckCtr := (114, ([(0, (1, 0)), (1, (0, 0))], [], [.inl (0, [(1, 1), (0, 1)]), .inr (0, 2, 0)], dT272, dG273, [], [], [], 0, 0), [([], [], [(0, .inl (0, [(1, 1), (0, 10)])), (1, .inr (0, 2, 1))], [], [], [(8, 8)], dG274, [], [], [], 0, 0)], 1, 80, 0, 0)
noncomputable def k342_a : ckAs := []
noncomputable def k342_c : List (Nat × ckCtr) := []
theorem k342_ok (l : Launch) : ckCtrOk l ckMT ckTW ckCL k342 := mt_114 (as := k342_a) (cs := k342_c) (gx := []) (f := 200000) rfl (fun _ h => absurd h List.not_mem_nil) True.intro (by decide +kernel)
noncomputable def dC275 : List ckC := [.inl (8, [(4, 10), (4, 11), (0, 1), (4, 12), (1, 1), (4, 13), (4, 14), (1, 2)]), .inl (0, [(1, 3), (0, 1)]), .inr (0, 2, 0), .inr (0, 3, 1)]
noncomputable def dT276 : List ckI := [(8, 8), (0, 255), (0, 255), (0, 255), (0, 255), (0, 255), (0, 255), (0, 255), (0, 255)]
noncomputable def dG277 : List ckG := [([(1, (0, 255)), (2, (0, 255)), (3, (0, 255)), (4, (0, 255)), (5, (0, 255)), (6, (0, 255)), (7, (0, 255)), (8, (0, 255)), (30, (0, 0))], [(0, 5), (1, 6), (2, 7), (3, 8), (4, 9), (5, 10), (6, 11), (7, 12)], [])]
noncomputable def dT278 : List ckI := [(0, 255), (0, 255), (0, 255), (0, 255), (0, 255), (0, 255), (0, 255)]
noncomputable def dG279 : List ckG := [([(1, (0, 255)), (2, (0, 255)), (3, (0, 255)), (4, (0, 255)), (5, (0, 255)), (6, (0, 255)), (7, (0, 255)), (30, (0, 0))], [(0, 4), (1, 5), (2, 6), (3, 7), (4, 8), (5, 9), (6, 10)], [])]
noncomputable def dT280 : List ckI := [(6, 6), (0, 255), (0, 255), (0, 255), (0, 255), (0, 255), (0, 255)]
noncomputable def dG281 : List ckG := [([(1, (0, 255)), (2, (0, 255)), (3, (0, 255)), (4, (0, 255)), (5, (0, 255)), (6, (0, 255)), (30, (0, 0))], [(0, 5), (1, 6), (2, 7), (3, 8), (4, 9), (5, 10)], [])]
noncomputable def dG282 : List ckG := [([(1, (0, 255)), (2, (0, 255)), (3, (0, 255)), (4, (0, 255)), (5, (0, 255)), (30, (0, 0))], [(0, 5), (1, 6), (2, 7), (3, 8), (4, 9)], [])]
noncomputable def dG283 : List ckG := [([(1, (0, 255)), (2, (0, 255)), (3, (0, 255)), (4, (0, 255)), (30, (0, 0))], [(0, 5), (1, 6), (2, 7), (3, 8)], [])]
noncomputable def dG284 : List ckG := [([(1, (0, 255)), (2, (0, 255)), (3, (0, 255)), (30, (0, 0))], [(0, 5), (1, 6), (2, 7)], [])]
noncomputable def dG285 : List ckG := [([(1, (0, 255)), (2, (0, 255)), (30, (0, 0))], [(0, 5), (1, 6)], [])]
-- FarMachine.feed
noncomputable def k343 : ckCtr := (17, ([(0, (1, 0)), (1, (0, 0)), (2, (2, 0))], [], dC275, [ckTop, (0, 0), (7, 7), (30, 30)], [([(7, (0, 0))], [], []), ([(30, (0, 0))], [], [])], [], [], [], 0, 0), [([], [(0, 4)], [(2, .inr (0, 2, 2))], [], [(0, (-2147483648, 0))], [(-4, -4), (1, 1)], [([(4, (0, 0)), (5, (1, 1)), (7, (0, 0))], [(4, 5)], [])], [], [], [], 0, 0), ([], [(0, 4)], [(1, .inl (0, [(1, 3), (0, 4)])), (3, .inr (0, 3, 2))], [], [(0, (8, 8))], dT276, dG277, [], [], [], 0, 0), ([], [(0, 2)], [(1, .inl (0, [(1, 3), (0, 2)])), (3, .inr (0, 3, 2))], [], [(0, (7, 7))], dT278, dG279, [], [], [], 0, 0), ([], [(0, 4)], [(1, .inl (0, [(1, 3), (0, 4)])), (3, .inr (0, 3, 2))], [], [(0, (6, 6))], dT280, dG281, [], [], [], 0, 0), ([], [(0, 4)], [(1, .inl (0, [(1, 3), (0, 4)])), (3, .inr (0, 3, 2))], [], [(0, (5, 5))], [(5, 5), (0, 255), (0, 255), (0, 255), (0, 255), (0, 255)], dG282, [], [], [], 0, 0), ([], [(0, 4)], [(1, .inl (0, [(1, 3), (0, 4)])), (3, .inr (0, 3, 2))], [], [(0, (4, 4))], [(4, 4), (0, 255), (0, 255), (0, 255), (0, 255)], dG283, [], [], [], 0, 0), ([], [(0, 4)], [(1, .inl (0, [(1, 3), (0, 4)])), (3, .inr (0, 3, 2))], [], [(0, (3, 3))], [(3, 3), (0, 255), (0, 255), (0, 255)], dG284, [], [], [], 0, 0), ([], [(0, 4)], [(1, .inl (0, [(1, 3), (0, 4)])), (3, .inr (0, 3, 2))], [], [(0, (2, 2))], [(2, 2), (0, 255), (0, 255)], dG285, [], [], [], 0, 0), ([], [(0, 4)], [(1, .inl (0, [(1, 3), (0, 4)])), (3, .inr (0, 3, 2))], [], [(0, (1, 1))], [(1, 1), (0, 255)], [([(1, (0, 255)), (30, (0, 0))], [(0, 5)], [])], [], [], [], 0, 0), ([], [(0, 4)], [(2, .inr (0, 2, 2))], [], [(0, (9, 2147483647))], [(-6, -6), (1, 1)], [([(6, (0, 0)), (7, (1, 1))], [(6, 5)], [])], [], [], [], 0, 0)], 2, 101, 0, 0)
noncomputable def k343_a : ckAs := []
noncomputable def k343_c : List (Nat × ckCtr) := [(8, k15), (35, k16), (64, k335), (64, k336), (64, k337), (64, k338), (64, k339), (64, k340), (64, k341), (64, k342)]
theorem k343_ok (l : Launch) : ckCtrOk l ckMT ckTW ckCL k343 := mt_17 (as := k343_a) (cs := k343_c) (gx := []) (f := 200000) rfl (ckHc (k15_ok l) (ckHc (k16_ok l) (ckHc (k335_ok l) (ckHc (k336_ok l) (ckHc (k337_ok l) (ckHc (k338_ok l) (ckHc (k339_ok l) (ckHc (k340_ok l) (ckHc (k341_ok l) (ckHc (k342_ok l) (fun _ h => absurd h List.not_mem_nil))))))))))) True.intro (by decide +kernel)
noncomputable def dC286 : List ckC := [.inl (9, [(4, 10), (4, 11), (4, 12), (4, 13), (4, 14), (4, 15), (4, 16), (4, 17), (4, 18), (4, 19), (4, 20), (4, 21), (4, 22), (4, 23), (4, 24), (4, 25), (0, 1), (0, 1), (0, 1), (0, 1), (0, 1), (0, 1), (0, 1), (4, 26), (0, 1), (4, 27), (0, 1), (0, 1), (0, 1), (0, 1), (1, 1), (0, 1), (0, 1), (0, 1), (0, 1), (1, 1), (4, 11), (0, 1), (4, 28), (4, 29), (0, 1), (0, 1)]), .inr (0, 2, 0)]
noncomputable def dP287 : List (Nat × ckC) := [(0, .inl (9, [(4, 10), (4, 11), (4, 12), (4, 13), (4, 14), (4, 15), (4, 16), (4, 17), (4, 18), (4, 19), (4, 20), (4, 21), (4, 22), (4, 23), (4, 24), (4, 25), (0, 1), (0, 1), (0, 1), (0, 1), (0, 1), (0, 1), (0, 1), (4, 26), (0, 1), (4, 27), (0, 1), (0, 1), (0, 1), (0, 1), (1, 1), (0, 0), (0, 1), (0, 1), (0, 1), (1, 1), (4, 11), (0, 1), (4, 28), (4, 29), (0, 1), (0, 1)])), (1, .inr (0, 2, 1))]
noncomputable def dG288 : List ckG := [([(1, ckTop), (2, ckTop), (3, ckTop), (4, ckTop), (5, ckTop), (6, ckTop), (7, ckTop), (8, ckTop), (30, (0, 0))], [(0, 10), (1, 9), (2, 8), (3, 7), (4, 6), (5, 5), (6, 4), (7, 3)], [])]
-- FarMachineModel.feed
noncomputable def k344 : ckCtr := (82, ([(0, (1, 0)), (1, (0, 0)), (2, (2, 0))], [], dC286, [(8, 8), (0, 0), (30, 30)], [([(30, (0, 0))], [], [])], [], [], [], 0, 0), [([], [(0, 0)], dP287, [], [], [ckTop, ckTop, ckTop, ckTop, ckTop, ckTop, ckTop, ckTop], dG288, [], [], [], 0, 0)], 1, 80, 0, 0)
noncomputable def k344_a : ckAs := []
noncomputable def k344_c : List (Nat × ckCtr) := []
theorem k344_ok (l : Launch) : ckCtrOk l ckMT ckTW ckCL k344 := mt_82 (as := k344_a) (cs := k344_c) (gx := []) (f := 200000) rfl (fun _ h => absurd h List.not_mem_nil) True.intro (by decide +kernel)
noncomputable def dG289 : List ckG := [([(1, ckTop), (2, ckTop), (3, ckTop), (4, ckTop), (5, ckTop), (6, ckTop), (7, ckTop), (30, (0, 0))], [(0, 9), (1, 8), (2, 7), (3, 6), (4, 5), (5, 4), (6, 3)], [])]
-- FarMachineModel.feed
noncomputable def k345 : ckCtr := (82, ([(0, (1, 0)), (1, (0, 0)), (2, (2, 0))], [], dC286, [(7, 7), (0, 0), (30, 30)], [([(30, (0, 0))], [], [])], [], [], [], 0, 0), [([], [(0, 0)], dP287, [], [], [ckTop, ckTop, ckTop, ckTop, ckTop, ckTop, ckTop], dG289, [], [], [], 0, 0)], 1, 80, 0, 0)
noncomputable def k345_a : ckAs := []
noncomputable def k345_c : List (Nat × ckCtr) := []
theorem k345_ok (l : Launch) : ckCtrOk l ckMT ckTW ckCL k345 := mt_82 (as := k345_a) (cs := k345_c) (gx := []) (f := 200000) rfl (fun _ h => absurd h List.not_mem_nil) True.intro (by decide +kernel)
noncomputable def dG290 : List ckG := [([(1, ckTop), (2, ckTop), (3, ckTop), (4, ckTop), (5, ckTop), (6, ckTop), (30, (0, 0))], [(0, 8), (1, 7), (2, 6), (3, 5), (4, 4), (5, 3)], [])]
-- FarMachineModel.feed
noncomputable def k346 : ckCtr := (82, ([(0, (1, 0)), (1, (0, 0)), (2, (2, 0))], [], dC286, [(6, 6), (0, 0), (30, 30)], [([(30, (0, 0))], [], [])], [], [], [], 0, 0), [([], [(0, 0)], dP287, [], [], [ckTop, ckTop, ckTop, ckTop, ckTop, ckTop], dG290, [], [], [], 0, 0)], 1, 80, 0, 0)
noncomputable def k346_a : ckAs := []
noncomputable def k346_c : List (Nat × ckCtr) := []
theorem k346_ok (l : Launch) : ckCtrOk l ckMT ckTW ckCL k346 := mt_82 (as := k346_a) (cs := k346_c) (gx := []) (f := 200000) rfl (fun _ h => absurd h List.not_mem_nil) True.intro (by decide +kernel)
noncomputable def dG291 : List ckG := [([(1, ckTop), (2, ckTop), (3, ckTop), (4, ckTop), (5, ckTop), (30, (0, 0))], [(0, 7), (1, 6), (2, 5), (3, 4), (4, 3)], [])]
-- FarMachineModel.feed
noncomputable def k347 : ckCtr := (82, ([(0, (1, 0)), (1, (0, 0)), (2, (2, 0))], [], dC286, [(5, 5), (0, 0), (30, 30)], [([(30, (0, 0))], [], [])], [], [], [], 0, 0), [([], [(0, 0)], dP287, [], [], [ckTop, ckTop, ckTop, ckTop, ckTop], dG291, [], [], [], 0, 0)], 1, 80, 0, 0)
noncomputable def k347_a : ckAs := []
noncomputable def k347_c : List (Nat × ckCtr) := []
theorem k347_ok (l : Launch) : ckCtrOk l ckMT ckTW ckCL k347 := mt_82 (as := k347_a) (cs := k347_c) (gx := []) (f := 200000) rfl (fun _ h => absurd h List.not_mem_nil) True.intro (by decide +kernel)
noncomputable def dG292 : List ckG := [([(1, ckTop), (2, ckTop), (3, ckTop), (4, ckTop), (30, (0, 0))], [(0, 6), (1, 5), (2, 4), (3, 3)], [])]
-- FarMachineModel.feed
noncomputable def k348 : ckCtr := (82, ([(0, (1, 0)), (1, (0, 0)), (2, (2, 0))], [], dC286, [(4, 4), (0, 0), (30, 30)], [([(30, (0, 0))], [], [])], [], [], [], 0, 0), [([], [(0, 0)], dP287, [], [], [ckTop, ckTop, ckTop, ckTop], dG292, [], [], [], 0, 0)], 1, 80, 0, 0)
noncomputable def k348_a : ckAs := []
noncomputable def k348_c : List (Nat × ckCtr) := []
theorem k348_ok (l : Launch) : ckCtrOk l ckMT ckTW ckCL k348 := mt_82 (as := k348_a) (cs := k348_c) (gx := []) (f := 200000) rfl (fun _ h => absurd h List.not_mem_nil) True.intro (by decide +kernel)
noncomputable def dG293 : List ckG := [([(1, ckTop), (2, ckTop), (3, ckTop), (30, (0, 0))], [(0, 5), (1, 4), (2, 3)], [])]
-- FarMachineModel.feed
noncomputable def k349 : ckCtr := (82, ([(0, (1, 0)), (1, (0, 0)), (2, (2, 0))], [], dC286, [(3, 3), (0, 0), (30, 30)], [([(30, (0, 0))], [], [])], [], [], [], 0, 0), [([], [(0, 0)], dP287, [], [], [ckTop, ckTop, ckTop], dG293, [], [], [], 0, 0)], 1, 80, 0, 0)
noncomputable def k349_a : ckAs := []
noncomputable def k349_c : List (Nat × ckCtr) := []
theorem k349_ok (l : Launch) : ckCtrOk l ckMT ckTW ckCL k349 := mt_82 (as := k349_a) (cs := k349_c) (gx := []) (f := 200000) rfl (fun _ h => absurd h List.not_mem_nil) True.intro (by decide +kernel)
noncomputable def dG294 : List ckG := [([(1, ckTop), (2, ckTop), (30, (0, 0))], [(0, 4), (1, 3)], [])]
-- FarMachineModel.feed
noncomputable def k350 : ckCtr := (82, ([(0, (1, 0)), (1, (0, 0)), (2, (2, 0))], [], dC286, [(2, 2), (0, 0), (30, 30)], [([(30, (0, 0))], [], [])], [], [], [], 0, 0), [([], [(0, 0)], dP287, [], [], [ckTop, ckTop], dG294, [], [], [], 0, 0)], 1, 80, 0, 0)
noncomputable def k350_a : ckAs := []
noncomputable def k350_c : List (Nat × ckCtr) := []
theorem k350_ok (l : Launch) : ckCtrOk l ckMT ckTW ckCL k350 := mt_82 (as := k350_a) (cs := k350_c) (gx := []) (f := 200000) rfl (fun _ h => absurd h List.not_mem_nil) True.intro (by decide +kernel)
-- FarMachineModel.feed
noncomputable def k351 : ckCtr := (82, ([(0, (1, 0)), (1, (0, 0)), (2, (2, 0))], [], dC286, [(1, 1), (0, 0), (30, 30)], [([(30, (0, 0))], [], [])], [], [], [], 0, 0), [([], [(0, 0)], dP287, [], [], [ckTop], [([(1, ckTop), (30, (0, 0))], [(0, 3)], [])], [], [], [], 0, 0)], 1, 80, 0, 0)
noncomputable def k351_a : ckAs := []
noncomputable def k351_c : List (Nat × ckCtr) := []
theorem k351_ok (l : Launch) : ckCtrOk l ckMT ckTW ckCL k351 := mt_82 (as := k351_a) (cs := k351_c) (gx := []) (f := 200000) rfl (fun _ h => absurd h List.not_mem_nil) True.intro (by decide +kernel)
-- FarMachineModel.feed
noncomputable def k352 : ckCtr := (82, ([(0, (1, 0)), (1, (0, 0)), (2, (2, 0))], [], dC42, [(9, 2147483647), (0, 0), (7, 7)], [([(7, (0, 0))], [], [])], [], [], [], 0, 0), [([], [(0, 3)], [(1, .inr (0, 2, 1))], [], [], [(-6, -6), (1, 1)], [([(6, (0, 0)), (7, (1, 1))], [(6, 4)], [])], [], [], [], 0, 0)], 2, 101, 0, 0)
noncomputable def k352_a : ckAs := []
noncomputable def k352_c : List (Nat × ckCtr) := [(32, k25)]
theorem k352_ok (l : Launch) : ckCtrOk l ckMT ckTW ckCL k352 := mt_82 (as := k352_a) (cs := k352_c) (gx := []) (f := 200000) rfl (ckHc (k25_ok l) (fun _ h => absurd h List.not_mem_nil)) True.intro (by decide +kernel)
-- FarMachineModel.feed
noncomputable def k353 : ckCtr := (82, ([(0, (1, 0)), (1, (0, 0)), (2, (2, 0))], [], dC42, [(-2147483648, 0), (0, 0), (7, 7)], [([(7, (0, 0))], [], [])], [], [], [], 0, 0), [([], [(0, 3)], [(1, .inr (0, 2, 1))], [], [], [(-4, -4), (1, 1)], [([(4, (0, 0)), (5, (1, 1)), (7, (0, 0))], [(4, 4)], [])], [], [], [], 0, 0)], 2, 101, 0, 0)
noncomputable def k353_a : ckAs := []
noncomputable def k353_c : List (Nat × ckCtr) := [(8, k28)]
theorem k353_ok (l : Launch) : ckCtrOk l ckMT ckTW ckCL k353 := mt_82 (as := k353_a) (cs := k353_c) (gx := []) (f := 200000) rfl (ckHc (k28_ok l) (fun _ h => absurd h List.not_mem_nil)) True.intro (by decide +kernel)
noncomputable def dC295 : List ckC := [.inl (4, [(3, 0), (3, 0), (0, 0), (0, 0)]), .inl (0, [(4, 10), (0, 0)]), .inl (5, [(4, 11), (4, 12), (4, 13), (4, 14), (4, 15), (0, 0)])]
-- FarMachine$RuleReader.<init>
noncomputable def k354 : ckCtr := (158, ([(0, (1, 0)), (1, (1, 1)), (2, (1, 2))], [], dC295, [(0, 0)], [], [], [], [], 0, 0), [([], [], [(0, .inl (4, [(1, 1), (1, 2), (0, 0), (0, 0)]))], [], [], [], [], [], [], [], 0, 0)], 1, 80, 0, 0)
noncomputable def k354_a : ckAs := []
noncomputable def k354_c : List (Nat × ckCtr) := []
theorem k354_ok (l : Launch) : ckCtrOk l ckMT ckTW ckCL k354 := mt_158 (as := k354_a) (cs := k354_c) (gx := []) (f := 200000) rfl (fun _ h => absurd h List.not_mem_nil) True.intro (by decide +kernel)
noncomputable def dC296 : List ckC := [.inl (5, [(4, 10), (4, 11), (4, 12), (4, 13), (1, 1), (0, 0)]), .inr (0, 1, 0)]
-- FarMachine$Rules.begin
noncomputable def k355 : ckCtr := (169, ([(0, (1, 0))], [], dC296, [(0, 0), (10, 10)], [([(10, (0, 0))], [], [])], [], [], [], 0, 0), [([], [], [(1, .inr (0, 1, 1))], [], [], [], [([(1, (0, 0)), (10, (0, 0))], [(0, 0)], [])], [], [], [], 0, 0)], 1, 80, 0, 0)
noncomputable def k355_a : ckAs := []
noncomputable def k355_c : List (Nat × ckCtr) := []
theorem k355_ok (l : Launch) : ckCtrOk l ckMT ckTW ckCL k355 := mt_169 (as := k355_a) (cs := k355_c) (gx := []) (f := 200000) rfl (fun _ h => absurd h List.not_mem_nil) True.intro (by decide +kernel)
