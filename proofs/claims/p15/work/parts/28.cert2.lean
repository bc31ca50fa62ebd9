/-! THE CHECKER: contracts with their certificates (printed by wip/gen2/p14gen.py) -/
-- FarMachineModel.isIn
noncomputable def k109 : ckCtr := (45, ([(0, (0, 0)), (1, (0, 1))], [], [], [ckTop, (3, 3)], [], [], [], [], 0, 0), [([], [(0, 2)], [], [], [(0, (0, 2))], [(1, 1)], [], [], [], [], 0, 0), ([], [(0, 2)], [], [], [(0, (3, 2147483647))], [(0, 0)], [], [], [], [], 0, 0), ([], [(0, 2)], [], [], [(0, (-2147483648, -1))], [(0, 0)], [], [], [], [], 0, 0)], 1, 80, 0, 0)
noncomputable def k109_a : ckAs := []
noncomputable def k109_c : List (Nat × ckCtr) := []
theorem k109_ok (l : Launch) : ckCtrOk l ckMT ckTW ckCL k109 := mt_45 (as := k109_a) (cs := k109_c) (gx := []) (f := 200000) rfl (fun _ h => absurd h List.not_mem_nil) True.intro (by decide +kernel)
noncomputable def dC174 : List ckC := [.inl (9, [(4, 10), (4, 11), (4, 12), (4, 13), (4, 14), (4, 15), (4, 16), (4, 17), (4, 18), (4, 19), (4, 20), (4, 21), (4, 22), (4, 23), (4, 24), (4, 25), (0, 4), (0, 5), (0, 6), (0, 7), (0, 8), (0, 9), (0, 10), (4, 26), (0, 11), (4, 27), (0, 12), (0, 13), (0, 14), (0, 15), (4, 28), (0, 16), (0, 17), (0, 18), (0, 19), (5, 0), (5, 0), (0, 20), (4, 29), (4, 30), (0, 21), (0, 22)])]
noncomputable def dT175 : List ckI := [ckTop, ckTop, ckTop, (0, 1), (0, 1), (0, 1), (0, 8), (0, 40), (0, 6), (0, 8), (0, 10), (0, 130000), ckTop, ckTop, ckTop, ckTop, (0, 30), ckTop, ckTop, ckTop, (0, 1), ckTop, (0, 1)]
-- FarMachineModel.wrongCommand
noncomputable def k110 : ckCtr := (68, ([(0, (1, 0)), (1, (0, 0)), (2, (0, 1)), (3, (0, 2)), (4, (0, 3))], [], dC174, dT175, [], [], [], [], 0, 0), [([], [(0, 23)], [], [], [(0, (3, 2147483647))], [(-2, -2)], [], [], [], [], 0, 0), ([], [(0, 23)], [], [], [(0, (-2147483648, -1))], [(-2, -2)], [], [], [], [], 0, 0), ([], [(0, 23)], [], [], [(0, (0, 0)), (1, (48, 2147483647))], [(-1, -1)], [], [], [], [], 0, 0), ([], [(0, 23)], [], [], [(0, (0, 0)), (1, (-2147483648, -1))], [(-1, -1)], [], [], [], [], 0, 0), ([], [(0, 23)], [], [], [(0, (0, 0)), (1, (0, 47)), (2, (256, 2147483647))], [(-6, -6)], [], [], [], [], 0, 0), ([], [(0, 23)], [], [], [(0, (0, 0)), (1, (0, 47)), (2, (0, 255)), (3, (1, 1))], [(-6, -6)], [], [], [], [], 0, 0), ([], [(0, 23)], [], [], [(0, (0, 0)), (1, (0, 47)), (2, (0, 255)), (3, (0, 0))], [(0, 0)], [], [], [], [], 0, 0), ([], [(0, 23)], [], [], [(0, (0, 0)), (1, (0, 47)), (2, (-2147483648, -1))], [(-4, -4)], [], [], [], [], 0, 0), ([], [(0, 23)], [], [], [(0, (2, 2)), (3, (1, 1))], [(-6, -6)], [], [], [], [], 0, 0), ([], [(0, 23)], [], [], [(0, (2, 2)), (3, (0, 0))], [(0, 0)], [], [], [], [], 0, 0), ([], [(0, 23)], [], [], [(0, (1, 1)), (2, (48, 2147483647))], [(-6, -6)], [], [], [], [], 0, 0), ([], [(0, 23)], [], [], [(0, (1, 1)), (2, (0, 47)), (3, (1, 1))], [(-6, -6)], [], [], [], [], 0, 0), ([], [(0, 23)], [], [], [(0, (1, 1)), (2, (0, 47)), (3, (0, 0))], [(0, 0)], [], [], [], [], 0, 0), ([], [(0, 23)], [], [], [(0, (1, 1)), (2, (-2147483648, -1))], [(-4, -4)], [], [], [], [], 0, 0)], 2, 102, 0, 0)
noncomputable def k110_a : ckAs := []
noncomputable def k110_c : List (Nat × ckCtr) := [(2, k109), (18, k20), (49, k21), (49, k38)]
theorem k110_ok (l : Launch) : ckCtrOk l ckMT ckTW ckCL k110 := mt_68 (as := k110_a) (cs := k110_c) (gx := []) (f := 200000) rfl (ckHc (k109_ok l) (ckHc (k20_ok l) (ckHc (k21_ok l) (ckHc (k38_ok l) (fun _ h => absurd h List.not_mem_nil))))) True.intro (by decide +kernel)
noncomputable def dT176 : List ckI := [ckTop, ckTop, ckTop, (0, 1), (0, 1), (0, 8), (0, 40), (0, 6), (0, 8), (0, 10), (0, 126000), ckTop, ckTop, ckTop, ckTop, (0, 30), ckTop, ckTop, ckTop, (0, 1), ckTop, (0, 1), (7, 7), (318, 318), (1, 99), (0, 126000)]
noncomputable def dG177 : List ckG := [([(1, ckTop), (2, ckTop), (3, ckTop), (4, ckTop), (5, ckTop), (6, ckTop), (7, ckTop)], [], []), ([(48, ckTop), (49, (0, 47)), (50, ckTop), (51, ckTop), (52, ckTop), (54, ckTop), (55, ckTop), (56, ckTop), (57, ckTop), (58, ckTop), (59, ckTop), (76, ckTop), (77, (0, 30)), (197, ckTop), (198, (0, 60)), (318, ckTop)], [(55, 24), (58, 25), (76, 27)], [])]
-- FarMachineModel.command
noncomputable def k111 : ckCtr := (69, ([(0, (1, 0)), (1, (0, 0)), (2, (0, 1)), (3, (0, 2))], [], dC63, dT176, dG65, [], [], [(1, 1, 0, 0, [])], 0, 0), [([], [(0, 26)], [(1, .inr (0, 22, 2)), (2, .inr (0, 23, 3))], [], [], [(-6, 30), (0, 30)], dG177, [], [(26, 27, 0)], [(1, 1, 0, 0, []), (1, 3, 0, 0, [])], 0, 0)], 3, 127, 0, 0)
noncomputable def k111_a : ckAs := [(104, [(742526, [(4, 1, 0, ([], [], [], [], [], [], [], [], [], [(0, 0, 0, 0, [27, 34, 32, 35, 31, 35, 0, 0, 34, 32, 35, 31, 37, 36, 1, 34, 32, 35, 31, 39, 38, 2, 1, 2, 3, 4, 0, 0, 0, 0, 0, 0, 0, 0, 0, 0, 0, 0])], 0, 0)), (4, 2, 0, ([], [], [], [], [], [], [], [], [], [(0, 0, 0, 0, [27, 34, 32, 35, 31, 41, 40, 4, 5, 45])], 0, 0))]), (40123, [(4, 1, 0, ([], [], [], [], [], [], [], [], [], [(0, 0, 0, 0, [27, 34, 32, 35, 31, 35, 0, 0, 34, 32, 35, 31, 37, 36, 1, 34, 32, 35, 31, 39, 38, 2, 1, 2, 3, 4, 0, 0, 0, 0, 0, 0, 0, 0, 0, 0, 0, 0])], 0, 0)), (4, 2, 0, ([], [], [], [], [], [], [], [], [], [(0, 0, 0, 0, [27, 34, 32, 35, 31, 41, 40, 4, 5, 45])], 0, 0))]), (417731, [(4, 1, 0, ([], [], [], [], [], [], [], [], [], [(0, 0, 0, 0, [27, 34, 32, 35, 31, 35, 0, 0, 34, 32, 35, 31, 37, 36, 1, 34, 32, 35, 31, 39, 38, 2, 1, 2, 3, 4, 0, 0, 0, 0, 0, 0, 0, 0, 0, 0, 0, 0])], 0, 0)), (4, 2, 0, ([], [], [], [], [], [], [], [], [], [(0, 0, 0, 0, [27, 34, 32, 35, 31, 41, 40, 4, 5, 45])], 0, 0))])])]
noncomputable def k111_c : List (Nat × ckCtr) := [(21, k110), (34, k33), (34, k22), (34, k23), (34, k24)]
theorem k111_ok (l : Launch) : ckCtrOk l ckMT ckTW ckCL k111 := mt_69 (as := k111_a) (cs := k111_c) (gx := []) (f := 200000) rfl (ckHc (k110_ok l) (ckHc (k33_ok l) (ckHc (k22_ok l) (ckHc (k23_ok l) (ckHc (k24_ok l) (fun _ h => absurd h List.not_mem_nil)))))) True.intro (by decide +kernel)
noncomputable def dC178 : List ckC := [.inl (8, [(1, 1), (4, 10), (0, 0), (4, 11), (4, 12), (4, 13), (4, 14), (4, 15)]), .inl (7, [(4, 16), (4, 17), (0, 1), (1, 2), (4, 18), (4, 19), (4, 20), (4, 21), (4, 22), (4, 23)]), .inl (0, [(4, 24), (0, 2)])]
-- FarMachine.sent
noncomputable def k112 : ckCtr := (9, ([(0, (1, 0))], [], dC178, [(0, 1), (0, 1), ckTop], [], [], [], [], 0, 0), [([], [(0, 2)], [], [], [], [], [], [], [], [], 0, 0)], 1, 80, 0, 0)
noncomputable def k112_a : ckAs := []
noncomputable def k112_c : List (Nat × ckCtr) := []
theorem k112_ok (l : Launch) : ckCtrOk l ckMT ckTW ckCL k112 := mt_9 (as := k112_a) (cs := k112_c) (gx := []) (f := 200000) rfl (fun _ h => absurd h List.not_mem_nil) True.intro (by decide +kernel)
noncomputable def dC179 : List ckC := [.inl (9, [(4, 10), (1, 1), (4, 11), (4, 12), (4, 13), (4, 14), (4, 15), (4, 16), (4, 17), (4, 18), (4, 19), (4, 20), (4, 21), (4, 22), (4, 23), (4, 24), (0, 0), (0, 1), (0, 2), (0, 3), (0, 4), (0, 5), (0, 6), (4, 25), (0, 7), (4, 26), (0, 8), (0, 9), (0, 10), (0, 11), (4, 27), (0, 12), (0, 13), (0, 14), (0, 15), (5, 0), (5, 0), (0, 16), (4, 28), (4, 29), (0, 17), (0, 18)]), .inr (0, 19, 0)]
noncomputable def dT180 : List ckI := [(0, 1), (0, 1), (0, 8), (0, 40), (0, 6), (0, 8), (0, 10), (0, 126000), ckTop, ckTop, ckTop, ckTop, (0, 30), ckTop, ckTop, ckTop, (0, 1), ckTop, (0, 1), (318, 318), (1, 99), (0, 126000)]
noncomputable def dG181 : List ckG := [([(48, ckTop), (49, (0, 47)), (50, ckTop), (51, ckTop), (52, ckTop), (54, ckTop), (55, ckTop), (56, ckTop), (57, ckTop), (58, ckTop), (59, ckTop), (76, ckTop), (77, (0, 30)), (197, ckTop), (198, (0, 60)), (318, ckTop)], [(55, 20), (58, 21)], [])]
-- FarMachineModel.sent
noncomputable def k113 : ckCtr := (70, ([(0, (1, 0))], [], dC179, dT180, dG181, [], [], [(1, 0, 0, 0, [])], 0, 0), [([], [(0, 22)], [], [], [], [(0, 60)], [], [], [], [(1, 0, 0, 0, [])], 0, 0)], 1, 80, 0, 0)
noncomputable def k113_a : ckAs := []
noncomputable def k113_c : List (Nat × ckCtr) := []
theorem k113_ok (l : Launch) : ckCtrOk l ckMT ckTW ckCL k113 := mt_70 (as := k113_a) (cs := k113_c) (gx := []) (f := 200000) rfl (fun _ h => absurd h List.not_mem_nil) True.intro (by decide +kernel)
-- FarMachine$Bytes.at
noncomputable def k114 : ckCtr := (115, ([(0, (1, 0)), (1, (0, 0))], [], [.inl (0, [(1, 1), (0, 1)]), .inr (0, 2, 0)], [ckTop, ckTop, (60, 60)], [([(60, ckTop)], [], [])], [], [], [], 0, 0), [([], [(0, 3)], [], [], [(0, (0, 59))], [ckTop], [], [], [], [], 0, 0), ([], [(0, 3)], [], [], [], [(0, 0)], [], [], [], [], 0, 0)], 1, 80, 0, 0)
noncomputable def k114_a : ckAs := []
noncomputable def k114_c : List (Nat × ckCtr) := []
theorem k114_ok (l : Launch) : ckCtrOk l ckMT ckTW ckCL k114 := mt_115 (as := k114_a) (cs := k114_c) (gx := []) (f := 200000) rfl (fun _ h => absurd h List.not_mem_nil) True.intro (by decide +kernel)
noncomputable def dC182 : List ckC := [.inl (7, [(1, 1), (4, 10), (0, 1), (1, 2), (1, 3), (4, 11), (4, 12), (4, 13), (4, 14), (4, 15)]), .inl (2, [(4, 16), (4, 17), (4, 18), (0, 2), (0, 3), (0, 4), (0, 5), (0, 6), (0, 7), (0, 8), (0, 9), (0, 10), (0, 11), (0, 12), (0, 13), (0, 14)]), .inl (0, [(4, 19), (0, 15)]), .inl (0, [(1, 4), (0, 16)]), .inr (0, 17, 0)]
noncomputable def dT183 : List ckI := [ckTop, (0, 1), ckTop, ckTop, ckTop, ckTop, ckTop, ckTop, ckTop, ckTop, ckTop, ckTop, ckTop, ckTop, ckTop, ckTop, ckTop, (60, 60)]
-- FarMachine$World.placeOfHeard
noncomputable def k115 : ckCtr := (185, ([(0, (1, 0)), (1, (0, 0))], [], dC182, dT183, [([(60, ckTop)], [], [])], [], [], [], 0, 0), [([], [(0, 18)], [], [], [(0, (0, 2147483646)), (15, (1, 2147483647))], [(0, 2147483646)], [], [], [(0, 15, (-1)), (0, 18, 0), (18, 15, (-1))], [], 0, 0), ([], [(0, 18)], [], [], [], [(-1, -1)], [], [], [], [], 0, 0)], 2, 101, 0, 0)
noncomputable def k115_a : ckAs := [(4, [(424626, [(1, 0, 1, ([(0, (1, 0)), (1, (0, 0)), (2, (0, 20)), (3, (0, 21))], [], [], [], [], [(0, 2147483647), (0, 2147483647)], [], [], [(20, 21, 0)], [], 0, 0))])])]
noncomputable def k115_c : List (Nat × ckCtr) := [(20, k114)]
theorem k115_ok (l : Launch) : ckCtrOk l ckMT ckTW ckCL k115 := mt_185 (as := k115_a) (cs := k115_c) (gx := []) (f := 200000) rfl (ckHc (k114_ok l) (fun _ h => absurd h List.not_mem_nil)) True.intro (by decide +kernel)
-- FarMachine.refuseFar
noncomputable def k116 : ckCtr := (35, ([(0, (1, 0)), (1, (0, 0))], [], dC33, [(-1, -1), (0, 1), (7, 7)], [([(7, ckTop)], [], [])], [], [], [], 0, 0), [([], [(0, 3)], [(1, .inr (0, 2, 1))], [], [], [(1001, 1001), ckTop], [([(1, ckTop), (2, ckTop), (7, ckTop)], [(1, 4)], [])], [], [], [], 0, 0)], 2, 101, 0, 0)
noncomputable def k116_a : ckAs := []
noncomputable def k116_c : List (Nat × ckCtr) := [(5, k14)]
theorem k116_ok (l : Launch) : ckCtrOk l ckMT ckTW ckCL k116 := mt_35 (as := k116_a) (cs := k116_c) (gx := []) (f := 200000) rfl (ckHc (k14_ok l) (fun _ h => absurd h List.not_mem_nil)) True.intro (by decide +kernel)
noncomputable def dC184 : List ckC := [.inl (8, [(1, 1), (4, 10), (0, 1), (4, 11), (4, 12), (4, 13), (4, 14), (1, 2)]), .inl (7, [(1, 3), (4, 15), (0, 2), (1, 4), (1, 5), (4, 16), (4, 17), (4, 18), (4, 19), (4, 20)]), .inr (0, 3, 0), .inl (2, [(4, 21), (4, 22), (4, 23), (0, 4), (0, 5), (0, 6), (0, 7), (0, 8), (0, 9), (0, 10), (0, 11), (0, 12), (0, 13), (0, 14), (0, 15), (0, 16)]), .inl (0, [(1, 6), (0, 17)]), .inl (0, [(1, 7), (0, 18)]), .inr (0, 19, 1), .inr (0, 19, 2)]
noncomputable def dT185 : List ckI := [ckTop, (0, 1), (0, 1), (7, 7), ckTop, ckTop, ckTop, ckTop, ckTop, ckTop, ckTop, ckTop, ckTop, ckTop, ckTop, ckTop, ckTop, ckTop, ckTop, (60, 60)]
noncomputable def dG186 : List ckG := [([(7, ckTop)], [], []), ([(60, ckTop)], [], []), ([(60, ckTop)], [], [])]
-- FarMachine.heard
noncomputable def k117 : ckCtr := (10, ([(0, (1, 0)), (1, (0, 0))], [], dC184, dT185, dG186, [], [], [], 0, 0), [([], [(0, 20)], [(2, .inr (0, 3, 3))], [], [], [ckTop], [([(1, ckTop), (2, ckTop), (7, ckTop)], [], [])], [], [], [], 0, 0)], 3, 124, 0, 0)
noncomputable def k117_a : ckAs := []
noncomputable def k117_c : List (Nat × ckCtr) := [(5, k115), (15, k116), (29, k114)]
theorem k117_ok (l : Launch) : ckCtrOk l ckMT ckTW ckCL k117 := mt_10 (as := k117_a) (cs := k117_c) (gx := []) (f := 200000) rfl (ckHc (k115_ok l) (ckHc (k116_ok l) (ckHc (k114_ok l) (fun _ h => absurd h List.not_mem_nil)))) True.intro (by decide +kernel)
-- FarMachineModel.heard
noncomputable def k118 : ckCtr := (71, ([(0, (1, 0)), (1, (0, 0))], [], dC51, dT52, dG53, [], [], [(1, 1, 0, 0, [])], 0, 0), [([], [(0, 24)], [(1, .inr (0, 20, 2))], [], [], [ckTop], [([(1, ckTop), (2, ckTop), (7, ckTop)], [], [])], [], [], [(1, 1, 0, 0, [])], 0, 0)], 2, 101, 0, 0)
noncomputable def k118_a : ckAs := [(4, [(9520, [(1, 0, 1, ([(0, (1, 0)), (1, (0, 0)), (2, (0, 26)), (3, (0, 27))], [], [], [], [], [(0, 60), (0, 60)], [], [], [(26, 27, 0)], [(1, 1, 0, 0, [])], 0, 0))])])]
noncomputable def k118_c : List (Nat × ckCtr) := [(75, k22)]
theorem k118_ok (l : Launch) : ckCtrOk l ckMT ckTW ckCL k118 := mt_71 (as := k118_a) (cs := k118_c) (gx := []) (f := 200000) rfl (ckHc (k22_ok l) (fun _ h => absurd h List.not_mem_nil)) True.intro (by decide +kernel)
-- FarMachine.copyRow
noncomputable def k119 : ckCtr := (42, ([(0, (1, 0)), (1, (1, 1))], [], [.inr (0, 0, 0), .inr (0, 0, 1)], [(48, 48)], [([(48, ckTop)], [], []), ([(48, ckTop)], [], [])], [], [], [], 0, 0), [([], [], [(1, .inr (0, 0, 0))], [], [], [], [], [], [], [], 0, 0)], 1, 80, 0, 0)
noncomputable def k119_a : ckAs := []
noncomputable def k119_c : List (Nat × ckCtr) := []
theorem k119_ok (l : Launch) : ckCtrOk l ckMT ckTW ckCL k119 := mt_42 (as := k119_a) (cs := k119_c) (gx := []) (f := 200000) rfl (fun _ h => absurd h List.not_mem_nil) True.intro (by decide +kernel)
-- FarMachine.copyRow
noncomputable def k120 : ckCtr := (42, ([(0, (1, 0)), (1, (1, 1))], [], [.inr (0, 0, 0), .inr (0, 0, 1)], [(8, 8)], [([(8, ckTop)], [], []), ([(8, ckTop)], [], [])], [], [], [], 0, 0), [([], [], [(1, .inr (0, 0, 0))], [], [], [], [], [], [], [], 0, 0)], 1, 80, 0, 0)
noncomputable def k120_a : ckAs := []
noncomputable def k120_c : List (Nat × ckCtr) := []
theorem k120_ok (l : Launch) : ckCtrOk l ckMT ckTW ckCL k120 := mt_42 (as := k120_a) (cs := k120_c) (gx := []) (f := 200000) rfl (fun _ h => absurd h List.not_mem_nil) True.intro (by decide +kernel)
-- FarMachine.copyRow
noncomputable def k121 : ckCtr := (42, ([(0, (1, 0)), (1, (1, 1))], [], [.inr (0, 0, 0), .inr (0, 0, 1)], [(30, 30)], [([(30, ckTop)], [], []), ([(30, ckTop)], [], [])], [], [], [], 0, 0), [([], [], [(1, .inr (0, 0, 0))], [], [], [], [], [], [], [], 0, 0)], 1, 80, 0, 0)
noncomputable def k121_a : ckAs := []
noncomputable def k121_c : List (Nat × ckCtr) := []
theorem k121_ok (l : Launch) : ckCtrOk l ckMT ckTW ckCL k121 := mt_42 (as := k121_a) (cs := k121_c) (gx := []) (f := 200000) rfl (fun _ h => absurd h List.not_mem_nil) True.intro (by decide +kernel)
noncomputable def dC187 : List ckC := [.inl (1, [(1, 2), (1, 3), (1, 4), (1, 5), (0, 0)]), .inl (1, [(1, 6), (1, 7), (1, 8), (1, 9), (0, 1)]), .inr (0, 2, 0), .inr (0, 2, 1), .inr (0, 2, 2), .inr (0, 2, 3), .inr (0, 2, 4), .inr (0, 2, 5), .inr (0, 2, 6), .inr (0, 2, 7)]
noncomputable def dG188 : List ckG := [([(30, ckTop)], [], []), ([(30, ckTop)], [], []), ([(30, ckTop)], [], []), ([(30, ckTop)], [], []), ([(30, ckTop)], [], []), ([(30, ckTop)], [], []), ([(30, ckTop)], [], []), ([(30, ckTop)], [], [])]
noncomputable def dP189 : List (Nat × ckC) := [(0, .inl (1, [(1, 2), (1, 3), (1, 4), (1, 5), (0, 1)])), (2, .inr (0, 2, 4)), (3, .inr (0, 2, 5)), (4, .inr (0, 2, 6)), (5, .inr (0, 2, 7))]
-- FarMachine$Commands.copyFrom
noncomputable def k122 : ckCtr := (124, ([(0, (1, 0)), (1, (1, 1))], [], dC187, [ckTop, ckTop, (30, 30)], dG188, [], [], [], 0, 0), [([], [], dP189, [], [], [], [], [], [], [], 0, 0)], 2, 101, 0, 0)
noncomputable def k122_a : ckAs := []
noncomputable def k122_c : List (Nat × ckCtr) := [(8, k121), (19, k121), (30, k121), (41, k121)]
theorem k122_ok (l : Launch) : ckCtrOk l ckMT ckTW ckCL k122 := mt_124 (as := k122_a) (cs := k122_c) (gx := []) (f := 200000) rfl (ckHc (k121_ok l) (ckHc (k121_ok l) (ckHc (k121_ok l) (ckHc (k121_ok l) (fun _ h => absurd h List.not_mem_nil))))) True.intro (by decide +kernel)
noncomputable def dC190 : List ckC := [.inl (2, [(1, 2), (1, 3), (1, 4), (0, 0), (0, 1), (0, 2), (0, 3), (0, 4), (0, 5), (0, 6), (0, 7), (0, 8), (0, 9), (0, 10), (0, 11), (0, 12)]), .inl (2, [(1, 5), (1, 6), (1, 7), (0, 13), (0, 14), (0, 15), (0, 16), (0, 17), (0, 18), (0, 19), (0, 20), (0, 21), (0, 22), (0, 23), (0, 24), (0, 25)]), .inr (0, 26, 0), .inr (0, 27, 1), .inl (1, [(1, 8), (1, 9), (1, 10), (1, 11), (0, 28)]), .inr (0, 26, 2), .inr (0, 27, 3), .inl (1, [(1, 12), (1, 13), (1, 14), (1, 15), (0, 29)]), .inr (0, 30, 4), .inr (0, 30, 5), .inr (0, 30, 6), .inr (0, 30, 7), .inr (0, 30, 8), .inr (0, 30, 9), .inr (0, 30, 10), .inr (0, 30, 11)]
noncomputable def dT191 : List ckI := [ckTop, ckTop, ckTop, ckTop, ckTop, ckTop, ckTop, ckTop, ckTop, ckTop, ckTop, ckTop, ckTop, ckTop, ckTop, ckTop, ckTop, ckTop, ckTop, ckTop, ckTop, ckTop, ckTop, ckTop, ckTop, ckTop, (48, 48), (8, 8), ckTop, ckTop, (30, 30)]
noncomputable def dG192 : List ckG := [([(48, ckTop)], [], []), ([(8, ckTop)], [], []), ([(48, ckTop)], [], []), ([(8, ckTop)], [], []), ([(30, ckTop)], [], []), ([(30, ckTop)], [], []), ([(30, ckTop)], [], []), ([(30, ckTop)], [], []), ([(30, ckTop)], [], []), ([(30, ckTop)], [], []), ([(30, ckTop)], [], []), ([(30, ckTop)], [], [])]
noncomputable def dP193 : List (Nat × ckC) := [(0, .inl (2, [(1, 2), (1, 3), (1, 4), (0, 13), (0, 14), (0, 15), (0, 16), (0, 17), (0, 18), (0, 19), (0, 20), (0, 21), (0, 22), (0, 23), (0, 24), (0, 25)])), (2, .inr (0, 26, 2)), (3, .inr (0, 27, 3)), (4, .inl (1, [(1, 8), (1, 9), (1, 10), (1, 11), (0, 29)])), (8, .inr (0, 30, 8)), (9, .inr (0, 30, 9)), (10, .inr (0, 30, 10)), (11, .inr (0, 30, 11))]
-- FarMachine$Machine.copyFrom
noncomputable def k123 : ckCtr := (126, ([(0, (1, 0)), (1, (1, 1))], [], dC190, dT191, dG192, [], [], [], 0, 0), [([], [], dP193, [], [], [], [], [], [], [], 0, 0)], 3, 122, 0, 0)
noncomputable def k123_a : ckAs := []
noncomputable def k123_c : List (Nat × ckCtr) := [(8, k119), (19, k120), (30, k122)]
theorem k123_ok (l : Launch) : ckCtrOk l ckMT ckTW ckCL k123 := mt_126 (as := k123_a) (cs := k123_c) (gx := []) (f := 200000) rfl (ckHc (k119_ok l) (ckHc (k120_ok l) (ckHc (k122_ok l) (fun _ h => absurd h List.not_mem_nil)))) True.intro (by decide +kernel)
noncomputable def dC194 : List ckC := [.inl (8, [(1, 1), (4, 10), (0, 0), (4, 11), (4, 12), (4, 13), (4, 14), (4, 15)]), .inl (7, [(1, 2), (1, 3), (0, 1), (4, 16), (4, 17), (4, 18), (4, 19), (4, 20), (4, 21), (4, 22)]), .inl (2, [(1, 4), (1, 5), (1, 6), (0, 2), (0, 3), (0, 4), (0, 5), (0, 6), (0, 7), (0, 8), (0, 9), (0, 10), (0, 11), (0, 12), (0, 13), (0, 14)]), .inl (2, [(1, 7), (1, 8), (1, 9), (0, 15), (0, 16), (0, 17), (0, 18), (0, 19), (0, 20), (0, 21), (0, 22), (0, 23), (0, 24), (0, 25), (0, 26), (0, 27)]), .inr (0, 28, 0), .inr (0, 29, 1), .inl (1, [(1, 10), (1, 11), (1, 12), (1, 13), (0, 30)]), .inr (0, 28, 2), .inr (0, 29, 3), .inl (1, [(1, 14), (1, 15), (1, 16), (1, 17), (0, 31)]), .inr (0, 32, 4), .inr (0, 32, 5), .inr (0, 32, 6), .inr (0, 32, 7), .inr (0, 32, 8), .inr (0, 32, 9), .inr (0, 32, 10), .inr (0, 32, 11)]
noncomputable def dT195 : List ckI := [(0, 1), (0, 1), ckTop, ckTop, ckTop, ckTop, ckTop, ckTop, ckTop, ckTop, ckTop, ckTop, ckTop, ckTop, ckTop, ckTop, ckTop, ckTop, ckTop, ckTop, ckTop, ckTop, ckTop, ckTop, ckTop, ckTop, ckTop, ckTop, (48, 48), (8, 8), ckTop, ckTop, (30, 30)]
noncomputable def dP196 : List (Nat × ckC) := [(1, .inl (7, [(1, 2), (1, 3), (0, 33), (4, 16), (4, 17), (4, 18), (4, 19), (4, 20), (4, 21), (4, 22)])), (3, .inl (2, [(1, 7), (1, 8), (1, 9), (0, 2), (0, 3), (0, 4), (0, 5), (0, 6), (0, 7), (0, 8), (0, 9), (0, 10), (0, 11), (0, 12), (0, 13), (0, 14)])), (7, .inr (0, 28, 0)), (8, .inr (0, 29, 1)), (9, .inl (1, [(1, 14), (1, 15), (1, 16), (1, 17), (0, 30)])), (14, .inr (0, 32, 4)), (15, .inr (0, 32, 5)), (16, .inr (0, 32, 6)), (17, .inr (0, 32, 7))]
-- FarMachine.start
noncomputable def k124 : ckCtr := (11, ([(0, (1, 0))], [], dC194, dT195, dG192, [], [], [], 0, 0), [([], [(0, 13)], dP196, [], [], [(1, 1)], [], [], [], [], 0, 0)], 4, 143, 0, 0)
noncomputable def k124_a : ckAs := []
noncomputable def k124_c : List (Nat × ckCtr) := [(14, k123)]
theorem k124_ok (l : Launch) : ckCtrOk l ckMT ckTW ckCL k124 := mt_11 (as := k124_a) (cs := k124_c) (gx := []) (f := 200000) rfl (ckHc (k123_ok l) (fun _ h => absurd h List.not_mem_nil)) True.intro (by decide +kernel)
-- FarMachineModel.copies
noncomputable def k125 : ckCtr := (72, ([(0, (1, 0)), (1, (1, 1))], [], [.inr (0, 0, 0), .inr (0, 0, 1)], [(318, 318)], [([(318, ckTop)], [], []), ([(318, ckTop)], [], [])], [], [], [], 0, 0), [([], [], [(1, .inr (0, 0, 0))], [], [], [], [], [], [], [], 0, 0)], 1, 80, 0, 0)
noncomputable def k125_a : ckAs := [(1, [(165484, [(4, 8, 0, ([], [], [], [], [], [], [], [], [], [(0, 0, 0, 0, [1, 0, 1])], 0, 0))])]), (2, [(165484, [(1, 0, 0, ([(0, (1, 0)), (1, (1, 1)), (2, (0, 2))], [], [(1, .inr (0, 0, 2))], [], [], [(0, 318)], [([(1, ckTop), (318, ckTop)], [], [])], [], [], [(6, 1, 0, 1, []), (6, 2, 0, 2, [])], 0, 0))])]), (18, [(529023, [(4, 9, 0, ([], [], [], [], [], [], [], [], [], [(0, 0, 0, 0, [3, 2, 0, 2, 2, 2, 4, 5])], 0, 0))])]), (21, [(717430, [(6, 0, 0, ([], [], [], [], [], [], [], [], [], [(0, 0, 0, 0, [1, 0, 2])], 0, 0))])])]
noncomputable def k125_c : List (Nat × ckCtr) := []
theorem k125_ok (l : Launch) : ckCtrOk l ckMT ckTW ckCL k125 := mt_72 (as := k125_a) (cs := k125_c) (gx := []) (f := 200000) rfl (fun _ h => absurd h List.not_mem_nil) True.intro (by decide +kernel)
noncomputable def dC197 : List ckC := [.inl (9, [(4, 10), (1, 1), (1, 2), (4, 11), (4, 12), (4, 13), (4, 14), (4, 15), (4, 16), (4, 17), (4, 18), (4, 19), (4, 20), (4, 21), (4, 22), (4, 23), (0, 0), (0, 1), (0, 2), (0, 3), (0, 4), (0, 5), (0, 6), (4, 24), (0, 7), (4, 25), (0, 8), (0, 9), (0, 10), (0, 11), (4, 26), (0, 12), (0, 13), (0, 14), (0, 15), (5, 0), (5, 0), (0, 16), (4, 27), (4, 28), (0, 17), (0, 18)]), .inr (0, 19, 0), .inr (0, 19, 1)]
noncomputable def dT198 : List ckI := [(0, 1), (0, 1), (0, 8), (0, 40), (0, 6), (0, 8), (0, 10), (0, 126000), ckTop, ckTop, ckTop, ckTop, (0, 30), ckTop, ckTop, ckTop, (0, 1), ckTop, (0, 1), (318, 318), (1, 99), (0, 126000), (0, 99), (0, 126000)]
noncomputable def dG199 : List ckG := [([(48, ckTop), (49, (0, 47)), (50, ckTop), (51, ckTop), (52, ckTop), (54, ckTop), (55, ckTop), (56, ckTop), (57, ckTop), (58, ckTop), (59, ckTop), (76, ckTop), (77, (0, 30)), (197, ckTop), (198, (0, 60)), (318, ckTop)], [(55, 20), (58, 21)], []), ([(48, ckTop), (49, (0, 47)), (55, ckTop), (56, ckTop), (58, ckTop), (59, ckTop), (76, ckTop), (77, (0, 30)), (197, ckTop), (198, (0, 60)), (318, ckTop)], [(55, 22), (58, 23)], [])]
noncomputable def dP200 : List (Nat × ckC) := [(0, .inl (9, [(4, 10), (1, 1), (1, 2), (4, 11), (4, 12), (4, 13), (4, 14), (4, 15), (4, 16), (4, 17), (4, 18), (4, 19), (4, 20), (4, 21), (4, 22), (4, 23), (0, 24), (0, 1), (0, 2), (0, 3), (0, 4), (0, 5), (0, 6), (4, 24), (0, 7), (4, 25), (0, 8), (0, 9), (0, 10), (0, 11), (4, 26), (0, 12), (0, 13), (0, 14), (0, 15), (5, 0), (5, 0), (0, 16), (4, 27), (4, 28), (0, 17), (0, 18)])), (2, .inr (0, 19, 0))]
-- FarMachineModel.start
noncomputable def k126 : ckCtr := (73, ([(0, (1, 0))], [], dC197, dT198, dG199, [], [], [(0, 0, 22, 0, [1, 1, 99]), (1, 1, 0, 0, []), (1, 0, 0, 0, [])], 0, 0), [([], [(0, 21)], dP200, [], [], [(1, 1)], [], [], [], [(0, 0, 22, 0, [1, 1, 99]), (1, 1, 0, 0, []), (1, 0, 0, 0, [])], 0, 0)], 2, 102, 0, 0)
noncomputable def k126_a : ckAs := []
noncomputable def k126_c : List (Nat × ckCtr) := [(8, k125)]
theorem k126_ok (l : Launch) : ckCtrOk l ckMT ckTW ckCL k126 := mt_73 (as := k126_a) (cs := k126_c) (gx := []) (f := 200000) rfl (ckHc (k125_ok l) (fun _ h => absurd h List.not_mem_nil)) True.intro (by decide +kernel)
-- FarMachine$Bytes.isFull
noncomputable def k127 : ckCtr := (113, ([(0, (1, 0))], [], [.inl (0, [(1, 1), (0, 0)]), .inr (0, 1, 0)], [ckTop, (8, 8)], [([(8, ckTop)], [], [])], [], [], [], 0, 0), [([], [(0, 2)], [], [], [(0, (8, 2147483647))], [(1, 1)], [], [], [], [], 0, 0), ([], [(0, 2)], [], [], [(0, (-2147483648, 7))], [(0, 0)], [], [], [], [], 0, 0)], 1, 80, 0, 0)
noncomputable def k127_a : ckAs := []
noncomputable def k127_c : List (Nat × ckCtr) := []
theorem k127_ok (l : Launch) : ckCtrOk l ckMT ckTW ckCL k127 := mt_113 (as := k127_a) (cs := k127_c) (gx := []) (f := 200000) rfl (fun _ h => absurd h List.not_mem_nil) True.intro (by decide +kernel)
-- FarMachine$Bytes.at
noncomputable def k128 : ckCtr := (115, ([(0, (1, 0)), (1, (0, 0))], [], [.inl (0, [(1, 1), (0, 1)]), .inr (0, 2, 0)], [ckTop, ckTop, (8, 8)], [([(8, ckTop)], [], [])], [], [], [], 0, 0), [([], [(0, 3)], [], [], [(0, (0, 7))], [ckTop], [], [], [], [], 0, 0), ([], [(0, 3)], [], [], [], [(0, 0)], [], [], [], [], 0, 0)], 1, 80, 0, 0)
noncomputable def k128_a : ckAs := []
noncomputable def k128_c : List (Nat × ckCtr) := []
theorem k128_ok (l : Launch) : ckCtrOk l ckMT ckTW ckCL k128 := mt_115 (as := k128_a) (cs := k128_c) (gx := []) (f := 200000) rfl (fun _ h => absurd h List.not_mem_nil) True.intro (by decide +kernel)
noncomputable def dC201 : List ckC := [.inl (7, [(4, 10), (4, 11), (0, 2), (4, 12), (4, 13), (1, 1), (1, 2), (4, 14), (4, 15), (4, 16)]), .inl (0, [(1, 3), (0, 3)]), .inl (0, [(1, 4), (0, 4)]), .inr (0, 5, 0), .inr (0, 5, 1)]
-- FarMachine$World.isSuspect
noncomputable def k129 : ckCtr := (187, ([(0, (1, 0)), (1, (0, 0)), (2, (0, 1))], [], dC201, [ckTop, ckTop, (0, 1), ckTop, ckTop, (8, 8)], [([(8, ckTop)], [], []), ([(8, ckTop)], [], [])], [], [], [], 0, 0), [([], [(0, 6)], [], [], [(3, (1, 2147483647))], [(1, 1)], [], [], [], [], 0, 0), ([], [(0, 6)], [], [], [], [(0, 0)], [], [], [], [], 0, 0)], 2, 101, 0, 0)
noncomputable def k129_a : ckAs := [(2, [(655449, [(1, 0, 0, ([(0, (1, 0)), (1, (0, 0)), (2, (0, 1)), (3, (0, 7))], [], [], [], [], [(0, 2147483647)], [], [], [], [], 0, 0))])])]
noncomputable def k129_c : List (Nat × ckCtr) := [(18, k128), (30, k128)]
theorem k129_ok (l : Launch) : ckCtrOk l ckMT ckTW ckCL k129 := mt_187 (as := k129_a) (cs := k129_c) (gx := []) (f := 200000) rfl (ckHc (k128_ok l) (ckHc (k128_ok l) (fun _ h => absurd h List.not_mem_nil))) True.intro (by decide +kernel)
-- FarMachine.refuse
noncomputable def k130 : ckCtr := (34, ([(0, (1, 0)), (1, (0, 0))], [], dC33, [(-3, -3), (0, 1), (7, 7)], [([(7, ckTop)], [], [])], [], [], [], 0, 0), [([], [(0, 0)], [(1, .inr (0, 2, 1))], [], [], [ckTop], [([(3, ckTop), (4, ckTop), (7, ckTop)], [(3, 3)], [])], [], [], [], 0, 0)], 1, 80, 0, 0)
noncomputable def k130_a : ckAs := []
noncomputable def k130_c : List (Nat × ckCtr) := []
theorem k130_ok (l : Launch) : ckCtrOk l ckMT ckTW ckCL k130 := mt_34 (as := k130_a) (cs := k130_c) (gx := []) (f := 200000) rfl (fun _ h => absurd h List.not_mem_nil) True.intro (by decide +kernel)
-- FarMachine$Bytes.add
noncomputable def k131 : ckCtr := (114, ([(0, (1, 0)), (1, (0, 0))], [], [.inl (0, [(1, 1), (0, 1)]), .inr (0, 2, 0)], [ckTop, ckTop, (8, 8)], [([(8, ckTop)], [], [])], [], [], [], 0, 0), [([], [], [(0, .inl (0, [(1, 1), (0, 3)])), (1, .inr (0, 2, 1))], [], [(1, (0, 7))], [(1, 8)], [([(8, ckTop)], [], [])], [], [(1, 3, (-1)), (3, 1, 1)], [], 0, 0), ([], [], [], [], [(1, (8, 2147483647))], [], [], [], [], [], 0, 0), ([], [], [], [], [(1, (-2147483648, -1))], [], [], [], [], [], 0, 0)], 1, 80, 0, 0)
noncomputable def k131_a : ckAs := []
noncomputable def k131_c : List (Nat × ckCtr) := []
theorem k131_ok (l : Launch) : ckCtrOk l ckMT ckTW ckCL k131 := mt_114 (as := k131_a) (cs := k131_c) (gx := []) (f := 200000) rfl (fun _ h => absurd h List.not_mem_nil) True.intro (by decide +kernel)
noncomputable def dC202 : List ckC := [.inl (8, [(1, 1), (4, 10), (0, 2), (4, 11), (4, 12), (4, 13), (4, 14), (1, 2)]), .inl (7, [(4, 15), (4, 16), (0, 3), (4, 17), (4, 18), (1, 3), (1, 4), (4, 19), (4, 20), (4, 21)]), .inr (0, 4, 0), .inl (0, [(1, 5), (0, 5)]), .inl (0, [(1, 6), (0, 6)]), .inr (0, 7, 1), .inr (0, 7, 2)]
noncomputable def dT203 : List ckI := [ckTop, ckTop, (0, 1), (0, 1), (7, 7), ckTop, ckTop, (8, 8)]
noncomputable def dG204 : List ckG := [([(7, ckTop)], [], []), ([(8, ckTop)], [], []), ([(8, ckTop)], [], [])]
noncomputable def dP205 : List (Nat × ckC) := [(2, .inr (0, 4, 3)), (3, .inl (0, [(1, 5), (0, 9)])), (4, .inl (0, [(1, 6), (0, 10)])), (5, .inr (0, 7, 4)), (6, .inr (0, 7, 5))]
noncomputable def dG206 : List ckG := [([(1, ckTop), (2, ckTop), (3, ckTop), (4, ckTop), (5, ckTop), (6, ckTop), (7, ckTop)], [], []), ([(8, ckTop)], [], []), ([(8, ckTop)], [], [])]
-- FarMachine.suspect
noncomputable def k132 : ckCtr := (12, ([(0, (1, 0)), (1, (0, 0)), (2, (0, 1))], [], dC202, dT203, dG204, [], [], [], 0, 0), [([], [(0, 8)], dP205, [], [], [ckTop, ckTop, ckTop], dG206, [], [(5, 9, 0), (6, 10, 0), (9, 5, 1), (10, 6, 1)], [], 0, 0)], 3, 124, 0, 0)
noncomputable def k132_a : ckAs := []
noncomputable def k132_c : List (Nat × ckCtr) := [(1, k13), (9, k14), (20, k15), (37, k127), (46, k16), (56, k129), (65, k130), (77, k131), (88, k131)]
theorem k132_ok (l : Launch) : ckCtrOk l ckMT ckTW ckCL k132 := mt_12 (as := k132_a) (cs := k132_c) (gx := []) (f := 200000) rfl (ckHc (k13_ok l) (ckHc (k14_ok l) (ckHc (k15_ok l) (ckHc (k127_ok l) (ckHc (k16_ok l) (ckHc (k129_ok l) (ckHc (k130_ok l) (ckHc (k131_ok l) (ckHc (k131_ok l) (fun _ h => absurd h List.not_mem_nil)))))))))) True.intro (by decide +kernel)
-- FarMachineModel.within
noncomputable def k133 : ckCtr := (46, ([(0, (0, 0)), (1, (0, 1)), (2, (0, 2))], [], [], [ckTop, (0, 0), (7, 7)], [], [], [], [], 0, 0), [([], [(0, 3)], [], [], [(0, (-2147483648, -1))], [(-4, -4)], [], [], [], [], 0, 0), ([], [(0, 3)], [], [], [(0, (8, 2147483647))], [(-6, -6)], [], [], [], [], 0, 0), ([], [(0, 1)], [], [], [(0, (0, 7))], [], [], [], [], [], 0, 0)], 1, 80, 0, 0)
noncomputable def k133_a : ckAs := []
noncomputable def k133_c : List (Nat × ckCtr) := []
theorem k133_ok (l : Launch) : ckCtrOk l ckMT ckTW ckCL k133 := mt_46 (as := k133_a) (cs := k133_c) (gx := []) (f := 200000) rfl (fun _ h => absurd h List.not_mem_nil) True.intro (by decide +kernel)
noncomputable def dT207 : List ckI := [(-3, -1), (0, 1), (0, 1), (0, 8), (0, 40), (0, 6), (0, 8), (0, 10), (0, 130000), ckTop, ckTop, ckTop, ckTop, (0, 30), ckTop, ckTop, ckTop, (0, 1), ckTop, (0, 1), (7, 7)]
-- FarMachineModel.refuse
noncomputable def k134 : ckCtr := (44, ([(0, (1, 0)), (1, (0, 0))], [], dC41, dT207, [([(7, ckTop)], [], [])], [], [], [], 0, 0), [([], [(0, 0)], [(1, .inr (0, 20, 1))], [], [], [], [([(7, ckTop)], [], [])], [], [], [], 0, 0)], 1, 80, 0, 0)
noncomputable def k134_a : ckAs := []
noncomputable def k134_c : List (Nat × ckCtr) := []
theorem k134_ok (l : Launch) : ckCtrOk l ckMT ckTW ckCL k134 := mt_44 (as := k134_a) (cs := k134_c) (gx := []) (f := 200000) rfl (fun _ h => absurd h List.not_mem_nil) True.intro (by decide +kernel)
noncomputable def dC208 : List ckC := [.inl (9, [(1, 1), (4, 10), (4, 11), (4, 12), (4, 13), (4, 14), (1, 2), (1, 3), (4, 15), (4, 16), (4, 17), (4, 18), (4, 19), (4, 20), (4, 21), (4, 22), (0, 2), (0, 3), (0, 4), (0, 5), (0, 6), (0, 7), (0, 8), (4, 23), (0, 9), (4, 24), (0, 10), (0, 11), (0, 12), (0, 13), (4, 25), (0, 14), (0, 15), (0, 16), (0, 17), (5, 0), (5, 0), (0, 18), (4, 26), (4, 27), (0, 19), (0, 20)]), .inr (0, 21, 0), .inr (0, 22, 1), .inr (0, 22, 2)]
noncomputable def dT209 : List ckI := [ckTop, ckTop, (0, 1), (0, 1), (0, 8), (0, 40), (0, 6), (0, 8), (0, 10), (0, 126000), ckTop, ckTop, ckTop, ckTop, (0, 30), ckTop, ckTop, ckTop, (0, 1), ckTop, (0, 1), (7, 7), (8, 8)]
noncomputable def dG210 : List ckG := [([(7, ckTop)], [], []), ([(8, (0, 47))], [], []), ([(8, ckTop)], [], [])]
noncomputable def dP211 : List (Nat × ckC) := [(0, .inl (9, [(1, 1), (4, 10), (4, 11), (4, 12), (4, 13), (4, 14), (1, 2), (1, 3), (4, 15), (4, 16), (4, 17), (4, 18), (4, 19), (4, 20), (4, 21), (4, 22), (0, 2), (0, 3), (0, 24), (0, 5), (0, 6), (0, 7), (0, 8), (4, 23), (0, 9), (4, 24), (0, 10), (0, 11), (0, 12), (0, 13), (4, 25), (0, 14), (0, 15), (0, 16), (0, 17), (5, 0), (5, 0), (0, 18), (4, 26), (4, 27), (0, 19), (0, 20)])), (1, .inr (0, 21, 3)), (2, .inr (0, 22, 4)), (3, .inr (0, 22, 5))]
noncomputable def dG212 : List ckG := [([(1, ckTop), (2, ckTop), (4, ckTop), (5, ckTop), (6, ckTop), (7, ckTop)], [], []), ([(8, (0, 47))], [], []), ([(8, ckTop)], [], [])]
-- FarMachineModel.suspect
noncomputable def k135 : ckCtr := (74, ([(0, (1, 0)), (1, (0, 0)), (2, (0, 1))], [], dC208, dT209, dG210, [], [], [], 0, 0), [([], [(0, 23)], dP211, [], [], [(-6, 7), (0, 8)], dG212, [], [(4, 24, 0), (23, 4, 0), (23, 24, (-1)), (24, 4, 1)], [], 0, 0)], 2, 102, 0, 0)
noncomputable def k135_a : ckAs := [(42, [(844193, [(1, 0, 1, ([(0, (1, 0)), (1, (0, 0)), (2, (0, 1)), (3, (0, 29)), (4, (0, 30))], [], [], [], [], [(-3, 0), (0, 7)], [], [], [(30, 4, 0)], [], 0, 0))])])]
noncomputable def k135_c : List (Nat × ckCtr) := [(3, k20), (11, k22), (19, k133), (92, k23), (92, k24), (92, k134)]
theorem k135_ok (l : Launch) : ckCtrOk l ckMT ckTW ckCL k135 := mt_74 (as := k135_a) (cs := k135_c) (gx := []) (f := 200000) rfl (ckHc (k20_ok l) (ckHc (k22_ok l) (ckHc (k133_ok l) (ckHc (k23_ok l) (ckHc (k24_ok l) (ckHc (k134_ok l) (fun _ h => absurd h List.not_mem_nil))))))) True.intro (by decide +kernel)
-- FarMachine$Bytes.isFull
noncomputable def k136 : ckCtr := (113, ([(0, (1, 0))], [], [.inl (0, [(1, 1), (0, 0)]), .inr (0, 1, 0)], [(0, 40), (40, 40)], [([(40, ckTop)], [], [])], [], [], [], 0, 0), [([], [(0, 2)], [], [], [(0, (40, 40))], [(1, 1)], [], [], [], [], 0, 0), ([], [(0, 2)], [], [], [(0, (0, 39))], [(0, 0)], [], [], [], [], 0, 0)], 1, 80, 0, 0)
noncomputable def k136_a : ckAs := []
noncomputable def k136_c : List (Nat × ckCtr) := []
theorem k136_ok (l : Launch) : ckCtrOk l ckMT ckTW ckCL k136 := mt_113 (as := k136_a) (cs := k136_c) (gx := []) (f := 200000) rfl (fun _ h => absurd h List.not_mem_nil) True.intro (by decide +kernel)
-- FarMachine$Bytes.add
noncomputable def k137 : ckCtr := (114, ([(0, (1, 0)), (1, (0, 0))], [], [.inl (0, [(1, 1), (0, 1)]), .inr (0, 2, 0)], [ckTop, (0, 40), (40, 40)], [([(40, ckTop)], [], [])], [], [], [], 0, 0), [([], [], [(0, .inl (0, [(1, 1), (0, 3)])), (1, .inr (0, 2, 1))], [], [(1, (0, 39))], [(1, 40)], [([(40, ckTop)], [], [])], [], [(1, 3, (-1)), (3, 1, 1)], [], 0, 0), ([], [], [], [], [(1, (40, 40))], [], [], [], [], [], 0, 0)], 1, 80, 0, 0)
noncomputable def k137_a : ckAs := []
noncomputable def k137_c : List (Nat × ckCtr) := []
theorem k137_ok (l : Launch) : ckCtrOk l ckMT ckTW ckCL k137 := mt_114 (as := k137_a) (cs := k137_c) (gx := []) (f := 200000) rfl (fun _ h => absurd h List.not_mem_nil) True.intro (by decide +kernel)
noncomputable def dC213 : List ckC := [.inl (8, [(4, 10), (4, 11), (0, 1), (1, 1), (4, 12), (4, 13), (4, 14), (1, 2)]), .inl (0, [(1, 3), (0, 2)]), .inr (0, 3, 0), .inr (0, 4, 1)]
-- FarMachine.put
noncomputable def k138 : ckCtr := (13, ([(0, (1, 0)), (1, (0, 0))], [], dC213, [ckTop, (0, 1), (0, 40), (7, 7), (40, 40)], [([(7, ckTop)], [], []), ([(40, ckTop)], [], [])], [], [], [], 0, 0), [([], [(0, 5)], [(2, .inr (0, 3, 2))], [], [(0, (-2147483648, -129))], [(-4, -4), ckTop], [([(4, ckTop), (5, ckTop), (7, ckTop)], [(4, 6)], [])], [], [], [], 0, 0), ([], [(0, 5)], [(1, .inl (0, [(1, 3), (0, 5)])), (3, .inr (0, 4, 2))], [], [(0, (-128, 127)), (2, (0, 39))], [(1, 40)], [([(40, ckTop)], [], [])], [], [(2, 5, (-1)), (5, 2, 1)], [], 0, 0), ([], [(0, 5)], [(2, .inr (0, 3, 2))], [], [(0, (-128, 127)), (2, (40, 40))], [(-6, -6), ckTop], [([(6, ckTop), (7, ckTop)], [(6, 6)], [])], [], [], [], 0, 0), ([], [(0, 5)], [(2, .inr (0, 3, 2))], [], [(0, (128, 2147483647))], [(-6, -6), ckTop], [([(6, ckTop), (7, ckTop)], [(6, 6)], [])], [], [], [], 0, 0)], 2, 101, 0, 0)
noncomputable def k138_a : ckAs := []
noncomputable def k138_c : List (Nat × ckCtr) := [(9, k15), (23, k136), (32, k16), (41, k137)]
theorem k138_ok (l : Launch) : ckCtrOk l ckMT ckTW ckCL k138 := mt_13 (as := k138_a) (cs := k138_c) (gx := []) (f := 200000) rfl (ckHc (k15_ok l) (ckHc (k136_ok l) (ckHc (k16_ok l) (ckHc (k137_ok l) (fun _ h => absurd h List.not_mem_nil))))) True.intro (by decide +kernel)
noncomputable def dT214 : List ckI := [(-128, 127), (0, 1), (0, 1), (0, 8), (40, 40), (0, 6), (0, 8), (0, 10), (0, 126000), ckTop, ckTop, ckTop, ckTop, (0, 30), ckTop, ckTop, ckTop, (0, 1), ckTop, (0, 1), (7, 7)]
-- FarMachineModel.put
noncomputable def k139 : ckCtr := (75, ([(0, (1, 0)), (1, (0, 0))], [], dC41, dT214, [([(7, ckTop)], [], [])], [], [], [], 0, 0), [([], [(0, 21)], [(1, .inr (0, 20, 1))], [], [], [(-6, -6), ckTop], [([(6, ckTop), (7, ckTop)], [(6, 22)], [])], [], [], [], 0, 0)], 2, 102, 0, 0)
noncomputable def k139_a : ckAs := []
noncomputable def k139_c : List (Nat × ckCtr) := [(5, k39), (31, k23)]
theorem k139_ok (l : Launch) : ckCtrOk l ckMT ckTW ckCL k139 := mt_75 (as := k139_a) (cs := k139_c) (gx := []) (f := 200000) rfl (ckHc (k39_ok l) (ckHc (k23_ok l) (fun _ h => absurd h List.not_mem_nil))) True.intro (by decide +kernel)
noncomputable def dC215 : List ckC := [.inl (9, [(4, 10), (4, 11), (4, 12), (4, 13), (4, 14), (4, 15), (4, 16), (4, 17), (1, 1), (4, 18), (4, 19), (4, 20), (4, 21), (4, 22), (4, 23), (4, 24), (0, 1), (0, 2), (0, 3), (0, 4), (0, 5), (0, 6), (0, 7), (4, 25), (0, 8), (4, 26), (0, 9), (0, 10), (0, 11), (0, 12), (4, 27), (0, 13), (0, 14), (0, 15), (0, 16), (5, 0), (5, 0), (0, 17), (4, 28), (4, 29), (0, 18), (0, 19)]), .inr (0, 20, 0)]
noncomputable def dT216 : List ckI := [(-128, 127), (0, 1), (0, 1), (0, 8), (0, 39), (0, 6), (0, 8), (0, 10), (0, 126000), ckTop, ckTop, ckTop, ckTop, (0, 30), ckTop, ckTop, ckTop, (0, 1), ckTop, (0, 1), (40, 40)]
noncomputable def dP217 : List (Nat × ckC) := [(0, .inl (9, [(4, 10), (4, 11), (4, 12), (4, 13), (4, 14), (4, 15), (4, 16), (4, 17), (1, 1), (4, 18), (4, 19), (4, 20), (4, 21), (4, 22), (4, 23), (4, 24), (0, 1), (0, 2), (0, 3), (0, 21), (0, 5), (0, 6), (0, 7), (4, 25), (0, 8), (4, 26), (0, 9), (0, 10), (0, 11), (0, 12), (4, 27), (0, 13), (0, 14), (0, 15), (0, 16), (5, 0), (5, 0), (0, 17), (4, 28), (4, 29), (0, 18), (0, 19)])), (1, .inr (0, 20, 1))]
-- FarMachineModel.put
noncomputable def k140 : ckCtr := (75, ([(0, (1, 0)), (1, (0, 0))], [], dC215, dT216, [([(40, ckTop)], [], [])], [], [], [], 0, 0), [([], [(0, 21)], dP217, [], [], [(1, 40)], [([(40, ckTop)], [], [])], [], [(4, 21, (-1)), (21, 4, 1)], [], 0, 0)], 2, 102, 0, 0)
noncomputable def k140_a : ckAs := []
noncomputable def k140_c : List (Nat × ckCtr) := [(5, k39)]
theorem k140_ok (l : Launch) : ckCtrOk l ckMT ckTW ckCL k140 := mt_75 (as := k140_a) (cs := k140_c) (gx := []) (f := 200000) rfl (ckHc (k39_ok l) (fun _ h => absurd h List.not_mem_nil)) True.intro (by decide +kernel)
noncomputable def dT218 : List ckI := [(128, 2147483647), (0, 1), (0, 1), (0, 8), (0, 40), (0, 6), (0, 8), (0, 10), (0, 126000), ckTop, ckTop, ckTop, ckTop, (0, 30), ckTop, ckTop, ckTop, (0, 1), ckTop, (0, 1), (7, 7)]
-- FarMachineModel.put
noncomputable def k141 : ckCtr := (75, ([(0, (1, 0)), (1, (0, 0))], [], dC41, dT218, [([(7, ckTop)], [], [])], [], [], [], 0, 0), [([], [(0, 21)], [(1, .inr (0, 20, 1))], [], [], [(-6, -6), ckTop], [([(6, ckTop), (7, ckTop)], [(6, 22)], [])], [], [], [], 0, 0)], 2, 102, 0, 0)
noncomputable def k141_a : ckAs := []
noncomputable def k141_c : List (Nat × ckCtr) := [(5, k39), (31, k23)]
theorem k141_ok (l : Launch) : ckCtrOk l ckMT ckTW ckCL k141 := mt_75 (as := k141_a) (cs := k141_c) (gx := []) (f := 200000) rfl (ckHc (k39_ok l) (ckHc (k23_ok l) (fun _ h => absurd h List.not_mem_nil))) True.intro (by decide +kernel)
noncomputable def dT219 : List ckI := [(-2147483648, -129), (0, 1), (0, 1), (0, 8), (0, 40), (0, 6), (0, 8), (0, 10), (0, 126000), ckTop, ckTop, ckTop, ckTop, (0, 30), ckTop, ckTop, ckTop, (0, 1), ckTop, (0, 1), (7, 7)]
-- FarMachineModel.put
noncomputable def k142 : ckCtr := (75, ([(0, (1, 0)), (1, (0, 0))], [], dC41, dT219, [([(7, ckTop)], [], [])], [], [], [], 0, 0), [([], [(0, 21)], [(1, .inr (0, 20, 1))], [], [], [(-4, -4), ckTop], [([(4, ckTop), (5, ckTop), (7, ckTop)], [(4, 22)], [])], [], [], [], 0, 0)], 2, 102, 0, 0)
noncomputable def k142_a : ckAs := []
noncomputable def k142_c : List (Nat × ckCtr) := [(5, k39), (31, k24)]
theorem k142_ok (l : Launch) : ckCtrOk l ckMT ckTW ckCL k142 := mt_75 (as := k142_a) (cs := k142_c) (gx := []) (f := 200000) rfl (ckHc (k39_ok l) (ckHc (k24_ok l) (fun _ h => absurd h List.not_mem_nil))) True.intro (by decide +kernel)
noncomputable def dC220 : List ckC := [.inl (8, [(4, 10), (4, 11), (0, 0), (1, 1), (4, 12), (4, 13), (4, 14), (4, 15)]), .inl (0, [(4, 16), (0, 1)])]
-- FarMachine.unput
noncomputable def k143 : ckCtr := (14, ([(0, (1, 0))], [], dC220, [(0, 1), (0, 40)], [], [], [], [], 0, 0), [([], [(0, 1)], [(1, .inl (0, [(4, 16), (0, 2)]))], [], [], [(0, 0)], [], [], [], [], 0, 0)], 1, 80, 0, 0)
noncomputable def k143_a : ckAs := []
noncomputable def k143_c : List (Nat × ckCtr) := []
theorem k143_ok (l : Launch) : ckCtrOk l ckMT ckTW ckCL k143 := mt_14 (as := k143_a) (cs := k143_c) (gx := []) (f := 200000) rfl (fun _ h => absurd h List.not_mem_nil) True.intro (by decide +kernel)
noncomputable def dC221 : List ckC := [.inl (9, [(4, 10), (4, 11), (4, 12), (4, 13), (4, 14), (4, 15), (4, 16), (4, 17), (4, 18), (4, 19), (4, 20), (4, 21), (4, 22), (4, 23), (4, 24), (4, 25), (0, 0), (0, 1), (0, 2), (0, 3), (0, 4), (0, 5), (0, 6), (4, 26), (0, 7), (4, 27), (0, 8), (0, 9), (0, 10), (0, 11), (4, 28), (0, 12), (0, 13), (0, 14), (0, 15), (5, 0), (5, 0), (0, 16), (4, 29), (4, 30), (0, 17), (0, 18)])]
noncomputable def dT222 : List ckI := [(0, 1), (0, 1), (0, 8), (0, 40), (0, 6), (0, 8), (0, 10), (0, 126000), ckTop, ckTop, ckTop, ckTop, (0, 30), ckTop, ckTop, ckTop, (0, 1), ckTop, (0, 1)]
noncomputable def dP223 : List (Nat × ckC) := [(0, .inl (9, [(4, 10), (4, 11), (4, 12), (4, 13), (4, 14), (4, 15), (4, 16), (4, 17), (4, 18), (4, 19), (4, 20), (4, 21), (4, 22), (4, 23), (4, 24), (4, 25), (0, 0), (0, 1), (0, 2), (0, 19), (0, 4), (0, 5), (0, 6), (4, 26), (0, 7), (4, 27), (0, 8), (0, 9), (0, 10), (0, 11), (4, 28), (0, 12), (0, 13), (0, 14), (0, 15), (5, 0), (5, 0), (0, 16), (4, 29), (4, 30), (0, 17), (0, 18)]))]
-- FarMachineModel.unput
noncomputable def k144 : ckCtr := (76, ([(0, (1, 0))], [], dC221, dT222, [], [], [], [], 0, 0), [([], [(0, 3)], dP223, [], [], [(0, 0)], [], [], [], [], 0, 0)], 1, 80, 0, 0)
noncomputable def k144_a : ckAs := []
noncomputable def k144_c : List (Nat × ckCtr) := []
theorem k144_ok (l : Launch) : ckCtrOk l ckMT ckTW ckCL k144 := mt_76 (as := k144_a) (cs := k144_c) (gx := []) (f := 200000) rfl (fun _ h => absurd h List.not_mem_nil) True.intro (by decide +kernel)
noncomputable def dC224 : List ckC := [.inl (7, [(4, 10), (4, 11), (0, 0), (4, 12), (4, 13), (1, 1), (4, 14), (4, 15), (4, 16), (4, 17)]), .inl (0, [(4, 18), (0, 1)])]
-- FarMachine$World.stateCount
noncomputable def k145 : ckCtr := (186, ([(0, (1, 0))], [], dC224, [(0, 1), ckTop], [], [], [], [], 0, 0), [([], [(0, 2)], [], [], [], [ckTop], [], [], [], [], 0, 0)], 1, 80, 0, 0)
noncomputable def k145_a : ckAs := []
noncomputable def k145_c : List (Nat × ckCtr) := []
theorem k145_ok (l : Launch) : ckCtrOk l ckMT ckTW ckCL k145 := mt_186 (as := k145_a) (cs := k145_c) (gx := []) (f := 200000) rfl (fun _ h => absurd h List.not_mem_nil) True.intro (by decide +kernel)
noncomputable def dC225 : List ckC := [.inl (8, [(1, 1), (4, 10), (0, 1), (4, 11), (4, 12), (4, 13), (4, 14), (4, 15)]), .inl (7, [(4, 16), (4, 17), (0, 2), (4, 18), (4, 19), (1, 2), (4, 20), (4, 21), (4, 22), (4, 23)]), .inl (0, [(4, 24), (0, 3)])]
-- FarMachine.isState
noncomputable def k146 : ckCtr := (37, ([(0, (1, 0)), (1, (0, 0))], [], dC225, [ckTop, (0, 1), (0, 1), ckTop], [], [], [], [], 0, 0), [([], [(0, 4)], [], [], [(0, (0, 2147483646))], [(1, 1)], [], [], [], [], 0, 0), ([], [(0, 4)], [], [], [], [(0, 0)], [], [], [], [], 0, 0)], 2, 100, 0, 0)
noncomputable def k146_a : ckAs := []
noncomputable def k146_c : List (Nat × ckCtr) := [(9, k145)]
theorem k146_ok (l : Launch) : ckCtrOk l ckMT ckTW ckCL k146 := mt_37 (as := k146_a) (cs := k146_c) (gx := []) (f := 200000) rfl (ckHc (k145_ok l) (fun _ h => absurd h List.not_mem_nil)) True.intro (by decide +kernel)
noncomputable def dC226 : List ckC := [.inl (8, [(1, 1), (4, 10), (0, 3), (4, 11), (4, 12), (4, 13), (4, 14), (4, 15)]), .inl (7, [(4, 16), (4, 17), (0, 4), (4, 18), (4, 19), (4, 20), (4, 21), (4, 22), (4, 23), (4, 24)])]
-- FarMachine.refusalOfTried
noncomputable def k147 : ckCtr := (40, ([(0, (1, 0)), (1, (0, 0)), (2, (0, 1)), (3, (0, 2))], [], dC226, [(0, 1), ckTop, ckTop, (0, 1), (0, 1)], [], [], [], [], 0, 0), [([], [(0, 5)], [], [], [], [(-6, 0)], [], [], [(5, 0, (-1)), (5, 4, (-1))], [], 0, 0)], 1, 80, 0, 0)
noncomputable def k147_a : ckAs := []
noncomputable def k147_c : List (Nat × ckCtr) := []
theorem k147_ok (l : Launch) : ckCtrOk l ckMT ckTW ckCL k147 := mt_40 (as := k147_a) (cs := k147_c) (gx := []) (f := 200000) rfl (fun _ h => absurd h List.not_mem_nil) True.intro (by decide +kernel)
noncomputable def dC227 : List ckC := [.inl (6, [(1, 1), (4, 10), (1, 2), (4, 11), (4, 12), (0, 1), (0, 2), (0, 3), (0, 4), (0, 5)]), .inl (7, [(4, 13), (1, 3), (0, 6), (4, 14), (4, 15), (1, 4), (1, 5), (4, 16), (4, 17), (4, 18)]), .inl (2, [(1, 6), (1, 7), (1, 8), (0, 7), (0, 8), (0, 9), (0, 10), (0, 11), (0, 12), (0, 13), (0, 14), (0, 15), (0, 16), (0, 17), (0, 18), (0, 19)]), .inl (2, [(1, 9), (1, 10), (1, 11), (0, 20), (0, 21), (0, 22), (0, 23), (0, 24), (0, 25), (0, 26), (0, 27), (0, 28), (0, 29), (0, 30), (0, 31), (0, 32)]), .inl (0, [(1, 12), (0, 33)]), .inl (0, [(1, 13), (0, 34)]), .inr (0, 35, 0), .inr (0, 36, 1), .inl (1, [(1, 14), (1, 15), (1, 16), (1, 17), (0, 37)]), .inr (0, 35, 2), .inr (0, 36, 3), .inl (1, [(1, 18), (1, 19), (1, 20), (1, 21), (0, 38)]), .inr (0, 36, 4), .inr (0, 36, 5), .inr (0, 39, 6), .inr (0, 39, 7), .inr (0, 39, 8), .inr (0, 39, 9), .inr (0, 39, 10), .inr (0, 39, 11), .inr (0, 39, 12), .inr (0, 39, 13)]
noncomputable def dT228 : List ckI := [ckTop, ckTop, ckTop, ckTop, ckTop, (0, 1), (0, 1), ckTop, ckTop, ckTop, ckTop, ckTop, ckTop, ckTop, ckTop, ckTop, ckTop, ckTop, ckTop, ckTop, ckTop, ckTop, ckTop, ckTop, ckTop, ckTop, ckTop, ckTop, ckTop, ckTop, ckTop, ckTop, ckTop, ckTop, ckTop, (48, 48), (8, 8), ckTop, ckTop, (30, 30)]
noncomputable def dG229 : List ckG := [([(48, ckTop)], [], []), ([(8, ckTop)], [], []), ([(48, ckTop)], [], []), ([(8, ckTop)], [], []), ([(8, ckTop)], [], []), ([(8, ckTop)], [], []), ([(30, ckTop)], [], []), ([(30, ckTop)], [], []), ([(30, ckTop)], [], []), ([(30, ckTop)], [], []), ([(30, ckTop)], [], []), ([(30, ckTop)], [], []), ([(30, ckTop)], [], []), ([(30, ckTop)], [], [])]
noncomputable def dP230 : List (Nat × ckC) := [(2, .inl (2, [(1, 6), (1, 7), (1, 8), (0, 20), (0, 21), (0, 22), (0, 23), (0, 24), (0, 25), (0, 26), (0, 27), (0, 28), (0, 29), (0, 30), (0, 31), (0, 32)])), (6, .inr (0, 35, 14)), (7, .inr (0, 36, 3)), (8, .inl (1, [(1, 14), (1, 15), (1, 16), (1, 17), (0, 38)])), (14, .inr (0, 39, 10)), (15, .inr (0, 39, 11)), (16, .inr (0, 39, 12)), (17, .inr (0, 39, 13))]
-- FarMachine$Trials.setOut
noncomputable def k148 : ckCtr := (177, ([(0, (1, 0)), (1, (0, 0))], [], dC227, dT228, dG229, [], [], [], 0, 0), [([], [], dP230, [], [], [], [([(48, ckTop)], [], [])], [], [], [], 0, 0)], 4, 143, 0, 0)
noncomputable def k148_a : ckAs := [(16, [(124866, [(1, 0, 0, ([(0, (1, 0)), (1, (0, 0)), (2, (0, 41))], [], [(6, .inr (0, 35, 14))], [], [], [(0, 2147483647)], [([(48, ckTop)], [], [])], [], [], [], 0, 0))])])]
noncomputable def k148_c : List (Nat × ckCtr) := [(11, k123), (47, k128), (61, k17), (73, k128), (78, k18)]
theorem k148_ok (l : Launch) : ckCtrOk l ckMT ckTW ckCL k148 := mt_177 (as := k148_a) (cs := k148_c) (gx := []) (f := 200000) rfl (ckHc (k123_ok l) (ckHc (k128_ok l) (ckHc (k17_ok l) (ckHc (k128_ok l) (ckHc (k18_ok l) (fun _ h => absurd h List.not_mem_nil)))))) True.intro (by decide +kernel)
-- FarMachine$Bytes.at
noncomputable def k149 : ckCtr := (115, ([(0, (1, 0)), (1, (0, 0))], [], [.inl (0, [(1, 1), (0, 1)]), .inr (0, 2, 0)], [ckTop, (0, 40), (40, 40)], [([(40, ckTop)], [], [])], [], [], [], 0, 0), [([], [(0, 3)], [], [], [(0, (0, 39))], [ckTop], [], [], [], [], 0, 0), ([], [(0, 3)], [], [], [], [(0, 0)], [], [], [], [], 0, 0)], 1, 80, 0, 0)
noncomputable def k149_a : ckAs := []
noncomputable def k149_c : List (Nat × ckCtr) := []
theorem k149_ok (l : Launch) : ckCtrOk l ckMT ckTW ckCL k149 := mt_115 (as := k149_a) (cs := k149_c) (gx := []) (f := 200000) rfl (fun _ h => absurd h List.not_mem_nil) True.intro (by decide +kernel)
noncomputable def dC231 : List ckC := [.inl (6, [(1, 1), (1, 2), (1, 3), (4, 10), (4, 11), (0, 2), (0, 3), (0, 4), (0, 5), (0, 6)]), .inl (7, [(4, 12), (1, 4), (0, 7), (4, 13), (4, 14), (1, 5), (1, 6), (4, 15), (4, 16), (4, 17)]), .inl (0, [(1, 7), (0, 8)]), .inl (2, [(1, 8), (1, 9), (1, 10), (0, 9), (0, 10), (0, 11), (0, 12), (0, 13), (0, 14), (0, 15), (0, 16), (0, 17), (0, 18), (0, 19), (0, 20), (0, 21)]), .inl (2, [(1, 11), (1, 12), (1, 13), (0, 22), (0, 23), (0, 24), (0, 25), (0, 26), (0, 27), (0, 28), (0, 29), (0, 30), (0, 31), (0, 32), (0, 33), (0, 34)]), .inl (0, [(1, 14), (0, 35)]), .inl (0, [(1, 15), (0, 36)]), .inr (0, 37, 0), .inr (0, 38, 1), .inr (0, 39, 2), .inl (1, [(1, 16), (1, 17), (1, 18), (1, 19), (0, 40)]), .inr (0, 38, 3), .inr (0, 39, 4), .inl (1, [(1, 20), (1, 21), (1, 22), (1, 23), (0, 41)]), .inr (0, 39, 5), .inr (0, 39, 6), .inr (0, 42, 7), .inr (0, 42, 8), .inr (0, 42, 9), .inr (0, 42, 10), .inr (0, 42, 11), .inr (0, 42, 12), .inr (0, 42, 13), .inr (0, 42, 14)]
noncomputable def dT232 : List ckI := [ckTop, ckTop, ckTop, ckTop, ckTop, ckTop, (0, 1), (0, 1), (0, 40), ckTop, ckTop, ckTop, ckTop, ckTop, ckTop, ckTop, ckTop, ckTop, ckTop, ckTop, ckTop, ckTop, ckTop, ckTop, ckTop, ckTop, ckTop, ckTop, ckTop, ckTop, ckTop, ckTop, ckTop, ckTop, ckTop, ckTop, ckTop, (40, 40), (48, 48), (8, 8), ckTop, ckTop, (30, 30)]
noncomputable def dG233 : List ckG := [([(40, ckTop)], [], []), ([(48, ckTop)], [], []), ([(8, ckTop)], [], []), ([(48, ckTop)], [], []), ([(8, ckTop)], [], []), ([(8, ckTop)], [], []), ([(8, ckTop)], [], []), ([(30, ckTop)], [], []), ([(30, ckTop)], [], []), ([(30, ckTop)], [], []), ([(30, ckTop)], [], []), ([(30, ckTop)], [], []), ([(30, ckTop)], [], []), ([(30, ckTop)], [], []), ([(30, ckTop)], [], [])]
noncomputable def dP234 : List (Nat × ckC) := [(3, .inl (2, [(1, 8), (1, 9), (1, 10), (0, 44), (0, 45), (0, 46), (0, 47), (0, 48), (0, 49), (0, 50), (0, 29), (0, 30), (0, 31), (0, 32), (0, 51), (0, 52)])), (8, .inr (0, 38, 15)), (9, .inr (0, 39, 4)), (10, .inl (1, [(1, 16), (1, 17), (1, 18), (1, 19), (0, 53)])), (16, .inr (0, 42, 16)), (17, .inr (0, 42, 17)), (18, .inr (0, 42, 18)), (19, .inr (0, 42, 19))]
noncomputable def dT235 : List ckI := [(0, 0), ckTop, ckTop, ckTop, ckTop, ckTop, ckTop, ckTop, ckTop, ckTop, ckTop]
noncomputable def dT236 : List ckI := [(1, 1), ckTop, ckTop, ckTop, ckTop, ckTop, ckTop, ckTop, ckTop, ckTop, ckTop]
noncomputable def dP237 : List (Nat × ckC) := [(3, .inl (2, [(1, 8), (1, 9), (1, 10), (0, 47), (0, 48), (0, 49), (0, 50), (0, 51), (0, 52), (0, 53), (0, 29), (0, 30), (0, 31), (0, 32), (0, 54), (0, 55)])), (8, .inr (0, 38, 16)), (10, .inl (1, [(1, 16), (1, 17), (1, 18), (1, 19), (0, 56)])), (16, .inr (0, 42, 17)), (17, .inr (0, 42, 18)), (18, .inr (0, 42, 19)), (19, .inr (0, 42, 20))]
noncomputable def dT238 : List ckI := [(0, 40), (0, 2147483647), ckTop, ckTop, ckTop, ckTop, ckTop, ckTop, ckTop, ckTop, ckTop, ckTop]
-- FarMachine$Trials.doesFit
noncomputable def k150 : ckCtr := (178, ([(0, (1, 0)), (1, (0, 0)), (2, (0, 1))], [], dC231, dT232, dG233, [], [], [], 0, 0), [([], [(0, 43)], dP234, [], [], dT235, dG108, [], [], [], 0, 0), ([], [(0, 43)], dP234, [], [], dT236, dG108, [], [], [], 0, 0)], 6, 193, 0, 0)
noncomputable def k150_a : ckAs := [(10, [(322074, [(1, 0, 1, ([(0, (1, 0)), (1, (0, 0)), (2, (0, 1)), (3, (0, 45)), (4, (0, 46))], [], dP237, [], [], dT238, dG108, [], [(45, 8, 0), (45, 46, 0)], [], 0, 0))])])]
noncomputable def k150_c : List (Nat × ckCtr) := [(2, k148), (20, k87), (49, k149)]
theorem k150_ok (l : Launch) : ckCtrOk l ckMT ckTW ckCL k150 := mt_178 (as := k150_a) (cs := k150_c) (gx := []) (f := 200000) rfl (ckHc (k148_ok l) (ckHc (k87_ok l) (ckHc (k149_ok l) (fun _ h => absurd h List.not_mem_nil)))) True.intro (by decide +kernel)
noncomputable def dC239 : List ckC := [.inl (8, [(1, 1), (4, 10), (0, 2), (1, 2), (4, 11), (1, 3), (4, 12), (1, 4)]), .inl (7, [(4, 13), (1, 5), (0, 3), (4, 14), (4, 15), (1, 6), (1, 7), (4, 16), (4, 17), (4, 18)]), .inl (0, [(1, 8), (0, 4)]), .inl (6, [(1, 1), (1, 2), (1, 9), (4, 19), (4, 20), (0, 5), (0, 6), (0, 7), (0, 8), (0, 9)]), .inr (0, 10, 0), .inl (2, [(1, 10), (1, 11), (1, 12), (0, 11), (0, 12), (0, 13), (0, 14), (0, 15), (0, 16), (0, 17), (0, 18), (0, 19), (0, 20), (0, 21), (0, 22), (0, 23)]), .inl (0, [(1, 13), (0, 24)]), .inl (0, [(1, 14), (0, 25)]), .inr (0, 26, 1), .inl (2, [(1, 15), (1, 16), (1, 17), (0, 27), (0, 28), (0, 29), (0, 30), (0, 31), (0, 32), (0, 33), (0, 34), (0, 35), (0, 36), (0, 37), (0, 38), (0, 39)]), .inr (0, 40, 2), .inr (0, 41, 3), .inl (1, [(1, 18), (1, 19), (1, 20), (1, 21), (0, 42)]), .inr (0, 41, 4), .inr (0, 41, 5), .inr (0, 40, 6), .inr (0, 41, 7), .inl (1, [(1, 22), (1, 23), (1, 24), (1, 25), (0, 43)]), .inr (0, 44, 8), .inr (0, 44, 9), .inr (0, 44, 10), .inr (0, 44, 11), .inr (0, 44, 12), .inr (0, 44, 13), .inr (0, 44, 14), .inr (0, 44, 15)]
noncomputable def dT240 : List ckI := [ckTop, ckTop, (0, 1), (0, 1), (0, 40), ckTop, ckTop, ckTop, ckTop, (0, 1), (7, 7), ckTop, ckTop, ckTop, ckTop, ckTop, ckTop, ckTop, ckTop, ckTop, ckTop, ckTop, ckTop, ckTop, ckTop, ckTop, (40, 40), ckTop, ckTop, ckTop, ckTop, ckTop, ckTop, ckTop, ckTop, ckTop, ckTop, ckTop, ckTop, ckTop, (48, 48), (8, 8), ckTop, ckTop, (30, 30)]
noncomputable def dG241 : List ckG := [([(7, ckTop)], [], []), ([(40, ckTop)], [], []), ([(48, ckTop)], [], []), ([(8, ckTop)], [], []), ([(8, ckTop)], [], []), ([(8, ckTop)], [], []), ([(48, ckTop)], [], []), ([(8, ckTop)], [], []), ([(30, ckTop)], [], []), ([(30, ckTop)], [], []), ([(30, ckTop)], [], []), ([(30, ckTop)], [], []), ([(30, ckTop)], [], []), ([(30, ckTop)], [], []), ([(30, ckTop)], [], []), ([(30, ckTop)], [], [])]
noncomputable def dP242 : List (Nat × ckC) := [(4, .inr (0, 10, 16)), (9, .inl (2, [(1, 15), (1, 16), (1, 17), (0, 46), (0, 47), (0, 48), (0, 49), (0, 50), (0, 51), (0, 52), (0, 53), (0, 54), (0, 55), (0, 56), (0, 57), (0, 58)])), (15, .inr (0, 40, 17)), (16, .inr (0, 41, 18)), (17, .inl (1, [(1, 22), (1, 23), (1, 24), (1, 25), (0, 59)])), (22, .inr (0, 44, 19)), (23, .inr (0, 44, 20)), (24, .inr (0, 44, 21)), (25, .inr (0, 44, 22))]
noncomputable def dT243 : List ckI := [(-6, 1), ckTop, ckTop, ckTop, ckTop, ckTop, ckTop, ckTop, ckTop, ckTop, ckTop, ckTop, ckTop, ckTop, ckTop]
noncomputable def dG244 : List ckG := [([(7, ckTop)], [], []), ([(48, ckTop)], [], []), ([(8, ckTop)], [], []), ([(30, ckTop)], [], []), ([(30, ckTop)], [], []), ([(30, ckTop)], [], []), ([(30, ckTop)], [], [])]
-- FarMachine.fits
noncomputable def k151 : ckCtr := (15, ([(0, (1, 0)), (1, (0, 0)), (2, (0, 1))], [], dC239, dT240, dG241, [], [], [], 0, 0), [([], [(0, 45)], dP242, [], [], dT243, dG244, [], [(45, 3, 0)], [], 0, 0)], 7, 218, 0, 0)
noncomputable def k151_a : ckAs := []
noncomputable def k151_c : List (Nat × ckCtr) := [(3, k146), (8, k147), (18, k107), (28, k150)]
theorem k151_ok (l : Launch) : ckCtrOk l ckMT ckTW ckCL k151 := mt_15 (as := k151_a) (cs := k151_c) (gx := []) (f := 200000) rfl (ckHc (k146_ok l) (ckHc (k147_ok l) (ckHc (k107_ok l) (ckHc (k150_ok l) (fun _ h => absurd h List.not_mem_nil))))) True.intro (by decide +kernel)
-- FarMachineModel.isIn
noncomputable def k152 : ckCtr := (45, ([(0, (0, 0)), (1, (0, 1))], [], [], [ckTop, (1, 256)], [], [], [], [], 0, 0), [([], [(0, 2)], [], [], [(0, (0, 255))], [(1, 1)], [], [], [(0, 1, (-1))], [], 0, 0), ([], [(0, 2)], [], [], [(0, (1, 2147483647))], [(0, 0)], [], [], [(1, 0, 0)], [], 0, 0), ([], [(0, 2)], [], [], [(0, (-2147483648, -1))], [(0, 0)], [], [], [], [], 0, 0)], 1, 80, 0, 0)
noncomputable def k152_a : ckAs := []
noncomputable def k152_c : List (Nat × ckCtr) := []
theorem k152_ok (l : Launch) : ckCtrOk l ckMT ckTW ckCL k152 := mt_45 (as := k152_a) (cs := k152_c) (gx := []) (f := 200000) rfl (fun _ h => absurd h List.not_mem_nil) True.intro (by decide +kernel)
-- FarMachineModel.within
noncomputable def k153 : ckCtr := (46, ([(0, (0, 0)), (1, (0, 1)), (2, (0, 2))], [], [], [ckTop, (1, 1), (60, 60)], [], [], [], [], 0, 0), [([], [(0, 3)], [], [], [(0, (-2147483648, 0))], [(-4, -4)], [], [], [], [], 0, 0), ([], [(0, 3)], [], [], [(0, (61, 2147483647))], [(-6, -6)], [], [], [], [], 0, 0), ([], [(0, 3)], [], [], [(0, (1, 60))], [(0, 0)], [], [], [], [], 0, 0)], 1, 80, 0, 0)
noncomputable def k153_a : ckAs := []
noncomputable def k153_c : List (Nat × ckCtr) := []
theorem k153_ok (l : Launch) : ckCtrOk l ckMT ckTW ckCL k153 := mt_46 (as := k153_a) (cs := k153_c) (gx := []) (f := 200000) rfl (fun _ h => absurd h List.not_mem_nil) True.intro (by decide +kernel)
noncomputable def dT245 : List ckI := [(-3, -3), (0, 1), (0, 1), (0, 8), (0, 40), (0, 6), (0, 8), (0, 10), (0, 130000), ckTop, ckTop, ckTop, ckTop, (0, 30), ckTop, ckTop, ckTop, (0, 1), ckTop, (0, 1), (7, 7)]
-- FarMachineModel.refuse
noncomputable def k154 : ckCtr := (44, ([(0, (1, 0)), (1, (0, 0))], [], dC41, dT245, [([(7, ckTop)], [], [])], [], [], [], 0, 0), [([], [(0, 0)], [(1, .inr (0, 20, 1))], [], [], [ckTop], [([(3, ckTop), (4, ckTop), (7, ckTop)], [(3, 21)], [])], [], [], [], 0, 0)], 1, 80, 0, 0)
noncomputable def k154_a : ckAs := []
noncomputable def k154_c : List (Nat × ckCtr) := []
theorem k154_ok (l : Launch) : ckCtrOk l ckMT ckTW ckCL k154 := mt_44 (as := k154_a) (cs := k154_c) (gx := []) (f := 200000) rfl (fun _ h => absurd h List.not_mem_nil) True.intro (by decide +kernel)
noncomputable def dC246 : List ckC := [.inl (9, [(4, 10), (4, 11), (1, 1), (4, 12), (1, 2), (4, 13), (1, 3), (1, 4), (4, 14), (4, 15), (4, 16), (4, 17), (4, 18), (4, 19), (4, 20), (4, 21), (0, 1), (0, 2), (0, 3), (0, 4), (0, 5), (0, 6), (0, 7), (4, 22), (0, 8), (4, 23), (0, 9), (0, 10), (0, 11), (0, 12), (4, 24), (0, 13), (0, 14), (0, 15), (0, 16), (5, 0), (5, 0), (0, 17), (4, 25), (4, 26), (0, 18), (0, 19)]), .inr (0, 20, 0), .inr (0, 20, 1), .inr (0, 21, 2), .inr (0, 21, 3)]
noncomputable def dT247 : List ckI := [ckTop, (0, 1), (0, 1), (0, 8), (0, 40), (0, 6), (0, 8), (0, 10), (0, 130000), ckTop, ckTop, ckTop, ckTop, (0, 30), ckTop, ckTop, ckTop, (0, 1), ckTop, (0, 1), (318, 318), (8, 8), (1, 99), (0, 128000)]
noncomputable def dG248 : List ckG := [([(48, ckTop), (49, (0, 47)), (55, ckTop), (56, ckTop), (58, ckTop), (59, ckTop), (76, ckTop), (77, (0, 30)), (197, ckTop), (198, (0, 60)), (318, ckTop)], [(55, 22), (58, 23)], []), ([(318, ckTop)], [], []), ([(8, (0, 47))], [], []), ([(8, ckTop)], [], [])]
noncomputable def dP249 : List (Nat × ckC) := [(0, .inl (9, [(4, 10), (4, 11), (1, 1), (4, 12), (1, 2), (4, 13), (1, 3), (1, 4), (4, 14), (4, 15), (4, 16), (4, 17), (4, 18), (4, 19), (4, 20), (4, 21), (0, 1), (0, 2), (0, 3), (0, 4), (0, 5), (0, 6), (0, 7), (4, 22), (0, 24), (4, 23), (0, 9), (0, 10), (0, 11), (0, 12), (4, 24), (0, 13), (0, 14), (0, 15), (0, 16), (5, 0), (5, 0), (0, 17), (4, 25), (4, 26), (0, 18), (0, 19)])), (2, .inr (0, 20, 4))]
noncomputable def dG250 : List ckG := [([(48, ckTop), (49, (0, 47)), (55, ckTop), (56, ckTop), (58, ckTop), (59, ckTop), (76, ckTop), (77, (0, 30)), (197, ckTop), (198, (0, 60)), (318, ckTop)], [(55, 22), (58, 23)], [])]
-- FarMachineModel.begins
noncomputable def k155 : ckCtr := (77, ([(0, (1, 0)), (1, (0, 0))], [], dC246, dT247, dG248, [], [], [(0, 1, 22, 0, [1, 1, 99]), (1, 0, 0, 0, [])], 0, 0), [([], [], dP249, [], [], [(0, 0)], dG250, [], [], [(0, 1, 22, 0, [1, 1, 99]), (1, 0, 0, 0, []), (1, 4, 0, 0, [])], 0, 0)], 2, 102, 0, 0)
noncomputable def k155_a : ckAs := [(13, [(676483, [(1, 0, 0, ([(0, (1, 0)), (1, (0, 0)), (2, (0, 25))], [], [(2, .inr (0, 20, 4))], [], [], [(0, 8)], dG250, [], [(25, 3, 0)], [(0, 1, 22, 0, [1, 1, 99]), (1, 0, 0, 0, []), (1, 4, 0, 0, [])], 0, 0))])])]
noncomputable def k155_c : List (Nat × ckCtr) := [(8, k125)]
theorem k155_ok (l : Launch) : ckCtrOk l ckMT ckTW ckCL k155 := mt_77 (as := k155_a) (cs := k155_c) (gx := []) (f := 200000) rfl (ckHc (k125_ok l) (fun _ h => absurd h List.not_mem_nil)) True.intro (by decide +kernel)
