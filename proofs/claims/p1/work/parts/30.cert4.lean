/-! THE CHECKER: contracts with their certificates (printed by wip/gen/p1gen.py) -/
noncomputable def dT239 : List ckI := [(-2147483648, -1), ckTop, ckTop, (0, 0), (7, 7), (318, 318)]
-- FarMachineModel.command
noncomputable def k272 : ckCtr := (69, ([(0, (1, 0)), (1, (0, 0)), (2, (0, 1)), (3, (0, 2))], [], dC235, dT239, dG212, [], [], [], 0, 0), [([], [(0, 6)], [(1, .inr (0, 4, 2))], [], [], [(-2, -2), (1, 1)], [([(2, (0, 0)), (3, (1, 1)), (7, (0, 0))], [(2, 7)], [])], [], [], [], 0, 0)], 3, 126, 0, 0)
noncomputable def k272_a : ckAs := []
noncomputable def k272_c : List (Nat × ckCtr) := [(21, k271), (34, k48)]
theorem k272_ok (l : Launch) : ckCtrOk l ckMT ckTW ckCL k272 := mt_69 (as := k272_a) (cs := k272_c) (gx := []) (f := 200000) rfl (ckHc (k271_ok l) (ckHc (k48_ok l) (fun _ h => absurd h List.not_mem_nil))) True.intro (by decide +kernel)
noncomputable def dC240 : List ckC := [.inl (8, [(1, 1), (4, 10), (0, 0), (4, 11), (4, 12), (4, 13), (4, 14), (4, 15)]), .inl (7, [(4, 16), (4, 17), (0, 0), (1, 2), (4, 18), (4, 19), (4, 20), (4, 21), (4, 22), (4, 23)]), .inl (0, [(4, 24), (0, 0)])]
-- FarMachine.sent
noncomputable def k273 : ckCtr := (9, ([(0, (1, 0))], [], dC240, [(0, 0)], [], [], [], [], 0, 0), [([], [(0, 0)], [], [], [], [], [], [], [], [], 0, 0)], 1, 80, 0, 0)
noncomputable def k273_a : ckAs := []
noncomputable def k273_c : List (Nat × ckCtr) := []
theorem k273_ok (l : Launch) : ckCtrOk l ckMT ckTW ckCL k273 := mt_9 (as := k273_a) (cs := k273_c) (gx := []) (f := 200000) rfl (fun _ h => absurd h List.not_mem_nil) True.intro (by decide +kernel)
-- FarMachineModel.sent
noncomputable def k274 : ckCtr := (70, ([(0, (1, 0))], [], dC112, [(0, 0), (318, 318)], dG40, [], [], [], 0, 0), [([], [(0, 0)], [], [], [], [], [], [], [], [], 0, 0)], 1, 80, 0, 0)
noncomputable def k274_a : ckAs := []
noncomputable def k274_c : List (Nat × ckCtr) := []
theorem k274_ok (l : Launch) : ckCtrOk l ckMT ckTW ckCL k274 := mt_70 (as := k274_a) (cs := k274_c) (gx := []) (f := 200000) rfl (fun _ h => absurd h List.not_mem_nil) True.intro (by decide +kernel)
noncomputable def dC241 : List ckC := [.inl (7, [(4, 10), (4, 11), (0, 1), (1, 1), (4, 12), (4, 13), (4, 14), (4, 15), (4, 16), (4, 17)]), .inl (0, [(4, 18), (0, 1)])]
-- FarMachine$World.placeOfHeard
noncomputable def k275 : ckCtr := (185, ([(0, (1, 0)), (1, (0, 0))], [], dC241, [ckTop, (0, 0)], [], [], [], [], 0, 0), [([], [(0, 2)], [], [], [], [(-1, -1)], [], [], [], [], 0, 0)], 1, 80, 0, 0)
noncomputable def k275_a : ckAs := []
noncomputable def k275_c : List (Nat × ckCtr) := []
theorem k275_ok (l : Launch) : ckCtrOk l ckMT ckTW ckCL k275 := mt_185 (as := k275_a) (cs := k275_c) (gx := []) (f := 200000) rfl (fun _ h => absurd h List.not_mem_nil) True.intro (by decide +kernel)
-- FarMachine.refuseFar
noncomputable def k276 : ckCtr := (35, ([(0, (1, 0)), (1, (0, 0))], [], dC32, [(-1, -1), (0, 0), (7, 7)], [([(7, (0, 0))], [], [])], [], [], [], 0, 0), [([], [(0, 3)], [(1, .inr (0, 2, 1))], [], [], [(1001, 1001), (1, 1)], [([(1, (0, 0)), (2, (1, 1)), (7, (0, 0))], [(1, 4)], [])], [], [], [], 0, 0)], 2, 101, 0, 0)
noncomputable def k276_a : ckAs := []
noncomputable def k276_c : List (Nat × ckCtr) := [(5, k14)]
theorem k276_ok (l : Launch) : ckCtrOk l ckMT ckTW ckCL k276 := mt_35 (as := k276_a) (cs := k276_c) (gx := []) (f := 200000) rfl (ckHc (k14_ok l) (fun _ h => absurd h List.not_mem_nil)) True.intro (by decide +kernel)
noncomputable def dC242 : List ckC := [.inl (8, [(1, 1), (4, 10), (0, 1), (4, 11), (4, 12), (4, 13), (4, 14), (1, 2)]), .inl (7, [(4, 15), (4, 16), (0, 1), (1, 3), (4, 17), (4, 18), (4, 19), (4, 20), (4, 21), (4, 22)]), .inr (0, 2, 0), .inl (0, [(4, 23), (0, 1)])]
-- FarMachine.heard
noncomputable def k277 : ckCtr := (10, ([(0, (1, 0)), (1, (0, 0))], [], dC242, [ckTop, (0, 0), (7, 7)], [([(7, (0, 0))], [], [])], [], [], [], 0, 0), [([], [(0, 3)], [(2, .inr (0, 2, 1))], [], [], [(1001, 1001), (1, 1)], [([(1, (0, 0)), (2, (1, 1)), (7, (0, 0))], [(1, 4)], [])], [], [], [], 0, 0)], 3, 122, 0, 0)
noncomputable def k277_a : ckAs := []
noncomputable def k277_c : List (Nat × ckCtr) := [(5, k275), (15, k276)]
theorem k277_ok (l : Launch) : ckCtrOk l ckMT ckTW ckCL k277 := mt_10 (as := k277_a) (cs := k277_c) (gx := []) (f := 200000) rfl (ckHc (k275_ok l) (ckHc (k276_ok l) (fun _ h => absurd h List.not_mem_nil))) True.intro (by decide +kernel)
-- FarMachineModel.heard
noncomputable def k278 : ckCtr := (71, ([(0, (1, 0)), (1, (0, 0))], [], dC211, [ckTop, (0, 0), (7, 7), (318, 318)], dG212, [], [], [], 0, 0), [([], [(0, 4)], [(1, .inr (0, 2, 2))], [], [], [(1001, 1001), (1, 1)], [([(1, (0, 0)), (2, (1, 1)), (7, (0, 0))], [(1, 5)], [])], [], [], [], 0, 0)], 2, 101, 0, 0)
noncomputable def k278_a : ckAs := []
noncomputable def k278_c : List (Nat × ckCtr) := [(75, k31)]
theorem k278_ok (l : Launch) : ckCtrOk l ckMT ckTW ckCL k278 := mt_71 (as := k278_a) (cs := k278_c) (gx := []) (f := 200000) rfl (ckHc (k31_ok l) (fun _ h => absurd h List.not_mem_nil)) True.intro (by decide +kernel)
-- FarMachine.copyRow
noncomputable def k279 : ckCtr := (42, ([(0, (1, 0)), (1, (1, 1))], [], [.inr (0, 0, 0), .inr (0, 0, 1)], [(48, 48)], [([(48, (0, 0))], [], []), ([(48, (0, 0))], [], [])], [], [], [], 0, 0), [([], [], [(1, .inr (0, 0, 0))], [], [], [], [], [], [], [], 0, 0)], 1, 80, 0, 0)
noncomputable def k279_a : ckAs := []
noncomputable def k279_c : List (Nat × ckCtr) := []
theorem k279_ok (l : Launch) : ckCtrOk l ckMT ckTW ckCL k279 := mt_42 (as := k279_a) (cs := k279_c) (gx := []) (f := 200000) rfl (fun _ h => absurd h List.not_mem_nil) True.intro (by decide +kernel)
-- FarMachine.copyRow
noncomputable def k280 : ckCtr := (42, ([(0, (1, 0)), (1, (1, 1))], [], [.inr (0, 0, 0), .inr (0, 0, 1)], [(8, 8)], [([(8, (0, 0))], [], []), ([(8, (0, 0))], [], [])], [], [], [], 0, 0), [([], [], [(1, .inr (0, 0, 0))], [], [], [], [], [], [], [], 0, 0)], 1, 80, 0, 0)
noncomputable def k280_a : ckAs := []
noncomputable def k280_c : List (Nat × ckCtr) := []
theorem k280_ok (l : Launch) : ckCtrOk l ckMT ckTW ckCL k280 := mt_42 (as := k280_a) (cs := k280_c) (gx := []) (f := 200000) rfl (fun _ h => absurd h List.not_mem_nil) True.intro (by decide +kernel)
-- FarMachine.copyRow
noncomputable def k281 : ckCtr := (42, ([(0, (1, 0)), (1, (1, 1))], [], [.inr (0, 0, 0), .inr (0, 0, 1)], [(30, 30)], [([(30, (0, 0))], [], []), ([(30, (0, 0))], [], [])], [], [], [], 0, 0), [([], [], [(1, .inr (0, 0, 0))], [], [], [], [], [], [], [], 0, 0)], 1, 80, 0, 0)
noncomputable def k281_a : ckAs := []
noncomputable def k281_c : List (Nat × ckCtr) := []
theorem k281_ok (l : Launch) : ckCtrOk l ckMT ckTW ckCL k281 := mt_42 (as := k281_a) (cs := k281_c) (gx := []) (f := 200000) rfl (fun _ h => absurd h List.not_mem_nil) True.intro (by decide +kernel)
noncomputable def dC243 : List ckC := [.inl (1, [(1, 2), (1, 3), (1, 4), (1, 5), (0, 0)]), .inl (1, [(1, 6), (1, 7), (1, 8), (1, 9), (0, 0)]), .inr (0, 1, 0), .inr (0, 1, 1), .inr (0, 1, 2), .inr (0, 1, 3), .inr (0, 1, 4), .inr (0, 1, 5), .inr (0, 1, 6), .inr (0, 1, 7)]
noncomputable def dG244 : List ckG := [([(30, (0, 0))], [], []), ([(30, (0, 0))], [], []), ([(30, (0, 0))], [], []), ([(30, (0, 0))], [], []), ([(30, (0, 0))], [], []), ([(30, (0, 0))], [], []), ([(30, (0, 0))], [], []), ([(30, (0, 0))], [], [])]
noncomputable def dP245 : List (Nat × ckC) := [(2, .inr (0, 1, 4)), (3, .inr (0, 1, 5)), (4, .inr (0, 1, 6)), (5, .inr (0, 1, 7))]
-- FarMachine$Commands.copyFrom
noncomputable def k282 : ckCtr := (124, ([(0, (1, 0)), (1, (1, 1))], [], dC243, [(0, 0), (30, 30)], dG244, [], [], [], 0, 0), [([], [], dP245, [], [], [], [], [], [], [], 0, 0)], 2, 101, 0, 0)
noncomputable def k282_a : ckAs := []
noncomputable def k282_c : List (Nat × ckCtr) := [(8, k281), (19, k281), (30, k281), (41, k281)]
theorem k282_ok (l : Launch) : ckCtrOk l ckMT ckTW ckCL k282 := mt_124 (as := k282_a) (cs := k282_c) (gx := []) (f := 200000) rfl (ckHc (k281_ok l) (ckHc (k281_ok l) (ckHc (k281_ok l) (ckHc (k281_ok l) (fun _ h => absurd h List.not_mem_nil))))) True.intro (by decide +kernel)
noncomputable def dC246 : List ckC := [.inl (2, [(1, 2), (1, 3), (1, 4), (0, 0), (0, 0), (0, 0), (0, 1), (0, 2), (0, 0), (0, 0), (0, 3), (0, 4), (0, 5), (0, 6), (0, 0), (0, 0)]), .inl (2, [(1, 5), (1, 6), (1, 7), (0, 0), (0, 0), (0, 0), (0, 1), (0, 2), (0, 0), (0, 0), (0, 3), (0, 4), (0, 5), (0, 6), (0, 0), (0, 0)]), .inr (0, 7, 0), .inr (0, 8, 1), .inl (1, [(1, 8), (1, 9), (1, 10), (1, 11), (0, 0)]), .inr (0, 7, 2), .inr (0, 8, 3), .inl (1, [(1, 12), (1, 13), (1, 14), (1, 15), (0, 0)]), .inr (0, 9, 4), .inr (0, 9, 5), .inr (0, 9, 6), .inr (0, 9, 7), .inr (0, 9, 8), .inr (0, 9, 9), .inr (0, 9, 10), .inr (0, 9, 11)]
noncomputable def dT247 : List ckI := [(0, 0), (50, 50), (60, 60), (10, 10), (24, 24), (200, 200), (9, 9), (48, 48), (8, 8), (30, 30)]
noncomputable def dG248 : List ckG := [([(48, (0, 0))], [], []), ([(8, (0, 0))], [], []), ([(48, (0, 0))], [], []), ([(8, (0, 0))], [], []), ([(30, (0, 0))], [], []), ([(30, (0, 0))], [], []), ([(30, (0, 0))], [], []), ([(30, (0, 0))], [], []), ([(30, (0, 0))], [], []), ([(30, (0, 0))], [], []), ([(30, (0, 0))], [], []), ([(30, (0, 0))], [], [])]
noncomputable def dP249 : List (Nat × ckC) := [(2, .inr (0, 7, 2)), (3, .inr (0, 8, 3)), (8, .inr (0, 9, 8)), (9, .inr (0, 9, 9)), (10, .inr (0, 9, 10)), (11, .inr (0, 9, 11))]
-- FarMachine$Machine.copyFrom
noncomputable def k283 : ckCtr := (126, ([(0, (1, 0)), (1, (1, 1))], [], dC246, dT247, dG248, [], [], [], 0, 0), [([], [], dP249, [], [], [], [], [], [], [], 0, 0)], 3, 122, 0, 0)
noncomputable def k283_a : ckAs := []
noncomputable def k283_c : List (Nat × ckCtr) := [(8, k279), (19, k280), (30, k282)]
theorem k283_ok (l : Launch) : ckCtrOk l ckMT ckTW ckCL k283 := mt_126 (as := k283_a) (cs := k283_c) (gx := []) (f := 200000) rfl (ckHc (k279_ok l) (ckHc (k280_ok l) (ckHc (k282_ok l) (fun _ h => absurd h List.not_mem_nil)))) True.intro (by decide +kernel)
noncomputable def dC250 : List ckC := [.inl (8, [(1, 1), (4, 10), (0, 0), (4, 11), (4, 12), (4, 13), (4, 14), (4, 15)]), .inl (7, [(1, 2), (1, 3), (0, 0), (4, 16), (4, 17), (4, 18), (4, 19), (4, 20), (4, 21), (4, 22)]), .inl (2, [(1, 4), (1, 5), (1, 6), (0, 0), (0, 0), (0, 0), (0, 1), (0, 2), (0, 0), (0, 0), (0, 3), (0, 4), (0, 5), (0, 6), (0, 0), (0, 0)]), .inl (2, [(1, 7), (1, 8), (1, 9), (0, 0), (0, 0), (0, 0), (0, 1), (0, 2), (0, 0), (0, 0), (0, 3), (0, 4), (0, 5), (0, 6), (0, 0), (0, 0)]), .inr (0, 7, 0), .inr (0, 8, 1), .inl (1, [(1, 10), (1, 11), (1, 12), (1, 13), (0, 0)]), .inr (0, 7, 2), .inr (0, 8, 3), .inl (1, [(1, 14), (1, 15), (1, 16), (1, 17), (0, 0)]), .inr (0, 9, 4), .inr (0, 9, 5), .inr (0, 9, 6), .inr (0, 9, 7), .inr (0, 9, 8), .inr (0, 9, 9), .inr (0, 9, 10), .inr (0, 9, 11)]
noncomputable def dP251 : List (Nat × ckC) := [(1, .inl (7, [(1, 2), (1, 3), (0, 10), (4, 16), (4, 17), (4, 18), (4, 19), (4, 20), (4, 21), (4, 22)])), (7, .inr (0, 7, 0)), (8, .inr (0, 8, 1)), (14, .inr (0, 9, 4)), (15, .inr (0, 9, 5)), (16, .inr (0, 9, 6)), (17, .inr (0, 9, 7))]
-- FarMachine.start
noncomputable def k284 : ckCtr := (11, ([(0, (1, 0))], [], dC250, dT247, dG248, [], [], [], 0, 0), [([], [(0, 0)], dP251, [], [], [(1, 1)], [], [], [], [], 0, 0)], 4, 143, 0, 0)
noncomputable def k284_a : ckAs := []
noncomputable def k284_c : List (Nat × ckCtr) := [(14, k283)]
theorem k284_ok (l : Launch) : ckCtrOk l ckMT ckTW ckCL k284 := mt_11 (as := k284_a) (cs := k284_c) (gx := []) (f := 200000) rfl (ckHc (k283_ok l) (fun _ h => absurd h List.not_mem_nil)) True.intro (by decide +kernel)
noncomputable def dG252 : List ckG := [([(50, (0, 0)), (51, (50, 50)), (52, (60, 60)), (54, (0, 0)), (55, (10, 10)), (56, (24, 24)), (57, (200, 200)), (58, (9, 9)), (318, (0, 0))], [], []), ([(318, (0, 0))], [], [])]
-- FarMachineModel.copies
noncomputable def k285 : ckCtr := (72, ([(0, (1, 0)), (1, (1, 1))], [], [.inr (0, 0, 0), .inr (0, 0, 1)], [(318, 318)], dG252, [], [], [], 0, 0), [([], [], [(1, .inr (0, 0, 2))], [], [], [], [([(1, (0, 200)), (318, (0, 200))], [], [])], [], [], [], 0, 0)], 1, 80, 0, 0)
noncomputable def k285_a : ckAs := [(2, [(165484, [(1, 0, 0, ([(0, (1, 0)), (1, (1, 1)), (2, (0, 2))], [], [(1, .inr (0, 0, 2))], [], [], [(0, 318)], [([(1, (0, 200)), (318, (0, 200))], [], [])], [], [], [], 0, 0))])])]
noncomputable def k285_c : List (Nat × ckCtr) := []
theorem k285_ok (l : Launch) : ckCtrOk l ckMT ckTW ckCL k285 := mt_72 (as := k285_a) (cs := k285_c) (gx := []) (f := 200000) rfl (fun _ h => absurd h List.not_mem_nil) True.intro (by decide +kernel)
noncomputable def dC253 : List ckC := [.inl (9, [(4, 10), (1, 1), (1, 2), (4, 11), (4, 12), (4, 13), (4, 14), (4, 15), (4, 16), (4, 17), (4, 18), (4, 19), (4, 20), (4, 21), (4, 22), (4, 23), (0, 0), (0, 0), (0, 0), (0, 0), (0, 0), (0, 0), (0, 0), (4, 24), (0, 0), (4, 25), (0, 0), (0, 0), (0, 0), (0, 0), (4, 26), (0, 0), (0, 0), (0, 0), (0, 0), (4, 26), (1, 1), (0, 0), (4, 27), (4, 28), (0, 0), (0, 0)]), .inr (0, 1, 0), .inr (0, 1, 1)]
noncomputable def dP254 : List (Nat × ckC) := [(0, .inl (9, [(4, 10), (1, 1), (1, 2), (4, 11), (4, 12), (4, 13), (4, 14), (4, 15), (4, 16), (4, 17), (4, 18), (4, 19), (4, 20), (4, 21), (4, 22), (4, 23), (0, 2), (0, 0), (0, 0), (0, 0), (0, 0), (0, 0), (0, 0), (4, 24), (0, 0), (4, 25), (0, 0), (0, 0), (0, 0), (0, 0), (4, 26), (0, 0), (0, 0), (0, 0), (0, 0), (4, 26), (1, 1), (0, 0), (4, 27), (4, 28), (0, 0), (0, 0)])), (2, .inr (0, 1, 2))]
-- FarMachineModel.start
noncomputable def k286 : ckCtr := (73, ([(0, (1, 0))], [], dC253, [(0, 0), (318, 318)], dG252, [], [], [], 0, 0), [([], [(0, 0)], dP254, [], [], [(1, 1)], [([(1, (0, 200)), (318, (0, 200))], [], [])], [], [], [], 0, 0)], 2, 102, 0, 0)
noncomputable def k286_a : ckAs := []
noncomputable def k286_c : List (Nat × ckCtr) := [(8, k285)]
theorem k286_ok (l : Launch) : ckCtrOk l ckMT ckTW ckCL k286 := mt_73 (as := k286_a) (cs := k286_c) (gx := []) (f := 200000) rfl (ckHc (k285_ok l) (fun _ h => absurd h List.not_mem_nil)) True.intro (by decide +kernel)
-- FarMachine$Bytes.isFull
noncomputable def k287 : ckCtr := (113, ([(0, (1, 0))], [], [.inl (0, [(1, 1), (0, 0)]), .inr (0, 1, 0)], [(0, 0), (8, 8)], [([(8, (0, 0))], [], [])], [], [], [], 0, 0), [([], [(0, 0)], [], [], [], [], [], [], [], [], 0, 0)], 1, 80, 0, 0)
noncomputable def k287_a : ckAs := []
noncomputable def k287_c : List (Nat × ckCtr) := []
theorem k287_ok (l : Launch) : ckCtrOk l ckMT ckTW ckCL k287 := mt_113 (as := k287_a) (cs := k287_c) (gx := []) (f := 200000) rfl (fun _ h => absurd h List.not_mem_nil) True.intro (by decide +kernel)
noncomputable def dC255 : List ckC := [.inl (7, [(4, 10), (4, 11), (0, 2), (4, 12), (4, 13), (1, 1), (4, 14), (4, 15), (4, 16), (4, 17)]), .inl (0, [(4, 18), (0, 2)])]
-- FarMachine$World.isSuspect
noncomputable def k288 : ckCtr := (187, ([(0, (1, 0)), (1, (0, 0)), (2, (0, 1))], [], dC255, [(0, 47), (0, 7), (0, 0)], [], [], [], [], 0, 0), [([], [(0, 2)], [], [], [], [], [], [], [], [], 0, 0)], 1, 80, 0, 0)
noncomputable def k288_a : ckAs := []
noncomputable def k288_c : List (Nat × ckCtr) := []
theorem k288_ok (l : Launch) : ckCtrOk l ckMT ckTW ckCL k288 := mt_187 (as := k288_a) (cs := k288_c) (gx := []) (f := 200000) rfl (fun _ h => absurd h List.not_mem_nil) True.intro (by decide +kernel)
-- FarMachine$Bytes.add
noncomputable def k289 : ckCtr := (114, ([(0, (1, 0)), (1, (0, 0))], [], [.inl (0, [(1, 1), (0, 1)]), .inr (0, 2, 0)], [(0, 47), (0, 0), (8, 8)], [([(8, (0, 0))], [], [])], [], [], [], 0, 0), [([], [], [(0, .inl (0, [(1, 1), (0, 3)])), (1, .inr (0, 2, 1))], [], [], [(1, 1)], [([(1, (0, 47)), (8, (0, 0))], [(0, 0)], [])], [], [], [], 0, 0)], 1, 80, 0, 0)
noncomputable def k289_a : ckAs := []
noncomputable def k289_c : List (Nat × ckCtr) := []
theorem k289_ok (l : Launch) : ckCtrOk l ckMT ckTW ckCL k289 := mt_114 (as := k289_a) (cs := k289_c) (gx := []) (f := 200000) rfl (fun _ h => absurd h List.not_mem_nil) True.intro (by decide +kernel)
-- FarMachine$Bytes.add
noncomputable def k290 : ckCtr := (114, ([(0, (1, 0)), (1, (0, 0))], [], [.inl (0, [(1, 1), (0, 1)]), .inr (0, 2, 0)], [(0, 7), (0, 0), (8, 8)], [([(8, (0, 0))], [], [])], [], [], [], 0, 0), [([], [], [(0, .inl (0, [(1, 1), (0, 3)])), (1, .inr (0, 2, 1))], [], [], [(1, 1)], [([(1, (0, 7)), (8, (0, 0))], [(0, 0)], [])], [], [], [], 0, 0)], 1, 80, 0, 0)
noncomputable def k290_a : ckAs := []
noncomputable def k290_c : List (Nat × ckCtr) := []
theorem k290_ok (l : Launch) : ckCtrOk l ckMT ckTW ckCL k290 := mt_114 (as := k290_a) (cs := k290_c) (gx := []) (f := 200000) rfl (fun _ h => absurd h List.not_mem_nil) True.intro (by decide +kernel)
noncomputable def dC256 : List ckC := [.inl (8, [(1, 1), (4, 10), (0, 2), (4, 11), (4, 12), (4, 13), (4, 14), (1, 2)]), .inl (7, [(4, 15), (4, 16), (0, 2), (4, 17), (4, 18), (1, 3), (1, 4), (4, 19), (4, 20), (4, 21)]), .inr (0, 3, 0), .inl (0, [(1, 5), (0, 2)]), .inl (0, [(1, 6), (0, 2)]), .inr (0, 4, 1), .inr (0, 4, 2)]
noncomputable def dG257 : List ckG := [([(7, (0, 0))], [], []), ([(8, (0, 0))], [], []), ([(8, (0, 0))], [], [])]
noncomputable def dP258 : List (Nat × ckC) := [(3, .inl (0, [(1, 5), (0, 5)])), (4, .inl (0, [(1, 6), (0, 5)])), (5, .inr (0, 4, 3)), (6, .inr (0, 4, 4))]
noncomputable def dG259 : List ckG := [([(1, (0, 47)), (8, (0, 0))], [(0, 0)], []), ([(1, (0, 7)), (8, (0, 0))], [(0, 1)], [])]
-- FarMachine.suspect
noncomputable def k291 : ckCtr := (12, ([(0, (1, 0)), (1, (0, 0)), (2, (0, 1))], [], dC256, [ckTop, ckTop, (0, 0), (7, 7), (8, 8)], dG257, [], [], [], 0, 0), [([], [(0, 5)], [(2, .inr (0, 3, 3))], [], [(0, (48, 2147483647))], [(-1, -1), (1, 1)], [([(1, (0, 0)), (2, (1, 1)), (7, (0, 0))], [(1, 6)], [])], [], [], [], 0, 0), ([], [(0, 5)], [(2, .inr (0, 3, 3))], [], [(0, (-2147483648, -1))], [(-1, -1), (1, 1)], [([(1, (0, 0)), (2, (1, 1)), (7, (0, 0))], [(1, 6)], [])], [], [], [], 0, 0), ([], [(0, 5)], [(2, .inr (0, 3, 3))], [], [(0, (0, 47)), (1, (-2147483648, -1))], [(-4, -4), (1, 1)], [([(4, (0, 0)), (5, (1, 1)), (7, (0, 0))], [(4, 6)], [])], [], [], [], 0, 0), ([], [(0, 2)], dP258, [], [(0, (0, 47)), (1, (0, 7))], [(1, 1)], dG259, [], [], [], 0, 0), ([], [(0, 5)], [(2, .inr (0, 3, 3))], [], [(0, (0, 47)), (1, (8, 2147483647))], [(-6, -6), (1, 1)], [([(6, (0, 0)), (7, (1, 1))], [(6, 6)], [])], [], [], [], 0, 0)], 2, 103, 0, 0)
noncomputable def k291_a : ckAs := []
noncomputable def k291_c : List (Nat × ckCtr) := [(1, k13), (9, k14), (20, k15), (37, k287), (46, k16), (56, k288), (77, k289), (88, k290)]
theorem k291_ok (l : Launch) : ckCtrOk l ckMT ckTW ckCL k291 := mt_12 (as := k291_a) (cs := k291_c) (gx := []) (f := 200000) rfl (ckHc (k13_ok l) (ckHc (k14_ok l) (ckHc (k15_ok l) (ckHc (k287_ok l) (ckHc (k16_ok l) (ckHc (k288_ok l) (ckHc (k289_ok l) (ckHc (k290_ok l) (fun _ h => absurd h List.not_mem_nil))))))))) True.intro (by decide +kernel)
-- FarMachineModel.within
noncomputable def k292 : ckCtr := (46, ([(0, (0, 0)), (1, (0, 1)), (2, (0, 2))], [], [], [(0, 7), (0, 0), (7, 7)], [], [], [], [], 0, 0), [([], [(0, 1)], [], [], [], [], [], [], [], [], 0, 0)], 1, 80, 0, 0)
noncomputable def k292_a : ckAs := []
noncomputable def k292_c : List (Nat × ckCtr) := []
theorem k292_ok (l : Launch) : ckCtrOk l ckMT ckTW ckCL k292 := mt_46 (as := k292_a) (cs := k292_c) (gx := []) (f := 200000) rfl (fun _ h => absurd h List.not_mem_nil) True.intro (by decide +kernel)
noncomputable def dC260 : List ckC := [.inl (9, [(4, 10), (4, 11), (4, 12), (4, 13), (4, 14), (4, 15), (1, 1), (1, 2), (4, 16), (4, 17), (4, 18), (4, 19), (4, 20), (4, 21), (4, 22), (4, 23), (0, 2), (0, 2), (0, 2), (0, 2), (0, 2), (0, 2), (0, 2), (4, 24), (0, 2), (4, 25), (0, 2), (0, 2), (0, 2), (0, 2), (4, 26), (0, 2), (0, 2), (0, 2), (0, 2), (4, 26), (4, 11), (0, 2), (4, 27), (4, 28), (0, 2), (0, 2)]), .inr (0, 3, 0), .inr (0, 3, 1)]
noncomputable def dP261 : List (Nat × ckC) := [(0, .inl (9, [(4, 10), (4, 11), (4, 12), (4, 13), (4, 14), (4, 15), (1, 1), (1, 2), (4, 16), (4, 17), (4, 18), (4, 19), (4, 20), (4, 21), (4, 22), (4, 23), (0, 2), (0, 2), (0, 4), (0, 2), (0, 2), (0, 2), (0, 2), (4, 24), (0, 2), (4, 25), (0, 2), (0, 2), (0, 2), (0, 2), (4, 26), (0, 2), (0, 2), (0, 2), (0, 2), (4, 26), (4, 11), (0, 2), (4, 27), (4, 28), (0, 2), (0, 2)])), (1, .inr (0, 3, 2)), (2, .inr (0, 3, 3))]
-- FarMachineModel.suspect
noncomputable def k293 : ckCtr := (74, ([(0, (1, 0)), (1, (0, 0)), (2, (0, 1))], [], dC260, [(0, 47), (0, 7), (0, 0), (8, 8)], [([(8, (0, 0))], [], []), ([(8, (0, 0))], [], [])], [], [], [], 0, 0), [([], [(0, 2)], dP261, [], [], [(1, 1)], dG259, [], [], [], 0, 0)], 2, 102, 0, 0)
noncomputable def k293_a : ckAs := []
noncomputable def k293_c : List (Nat × ckCtr) := [(3, k21), (19, k292)]
theorem k293_ok (l : Launch) : ckCtrOk l ckMT ckTW ckCL k293 := mt_74 (as := k293_a) (cs := k293_c) (gx := []) (f := 200000) rfl (ckHc (k21_ok l) (ckHc (k292_ok l) (fun _ h => absurd h List.not_mem_nil))) True.intro (by decide +kernel)
-- FarMachineModel.within
noncomputable def k294 : ckCtr := (46, ([(0, (0, 0)), (1, (0, 1)), (2, (0, 2))], [], [], [(8, 2147483647), (0, 0), (7, 7)], [], [], [], [], 0, 0), [([], [(0, 3)], [], [], [], [(-6, -6)], [], [], [], [], 0, 0)], 1, 80, 0, 0)
noncomputable def k294_a : ckAs := []
noncomputable def k294_c : List (Nat × ckCtr) := []
theorem k294_ok (l : Launch) : ckCtrOk l ckMT ckTW ckCL k294 := mt_46 (as := k294_a) (cs := k294_c) (gx := []) (f := 200000) rfl (fun _ h => absurd h List.not_mem_nil) True.intro (by decide +kernel)
-- FarMachineModel.suspect
noncomputable def k295 : ckCtr := (74, ([(0, (1, 0)), (1, (0, 0)), (2, (0, 1))], [], dC43, [(0, 47), (8, 2147483647), (0, 0), (7, 7)], [([(7, (0, 0))], [], [])], [], [], [], 0, 0), [([], [(0, 4)], [(1, .inr (0, 3, 1))], [], [], [(-6, -6), (1, 1)], [([(6, (0, 0)), (7, (1, 1))], [(6, 5)], [])], [], [], [], 0, 0)], 2, 102, 0, 0)
noncomputable def k295_a : ckAs := []
noncomputable def k295_c : List (Nat × ckCtr) := [(3, k21), (19, k294), (92, k25)]
theorem k295_ok (l : Launch) : ckCtrOk l ckMT ckTW ckCL k295 := mt_74 (as := k295_a) (cs := k295_c) (gx := []) (f := 200000) rfl (ckHc (k21_ok l) (ckHc (k294_ok l) (ckHc (k25_ok l) (fun _ h => absurd h List.not_mem_nil)))) True.intro (by decide +kernel)
-- FarMachineModel.within
noncomputable def k296 : ckCtr := (46, ([(0, (0, 0)), (1, (0, 1)), (2, (0, 2))], [], [], [(-2147483648, -1), (0, 0), (7, 7)], [], [], [], [], 0, 0), [([], [(0, 3)], [], [], [], [(-4, -4)], [], [], [], [], 0, 0)], 1, 80, 0, 0)
noncomputable def k296_a : ckAs := []
noncomputable def k296_c : List (Nat × ckCtr) := []
theorem k296_ok (l : Launch) : ckCtrOk l ckMT ckTW ckCL k296 := mt_46 (as := k296_a) (cs := k296_c) (gx := []) (f := 200000) rfl (fun _ h => absurd h List.not_mem_nil) True.intro (by decide +kernel)
-- FarMachineModel.suspect
noncomputable def k297 : ckCtr := (74, ([(0, (1, 0)), (1, (0, 0)), (2, (0, 1))], [], dC43, [(0, 47), (-2147483648, -1), (0, 0), (7, 7)], [([(7, (0, 0))], [], [])], [], [], [], 0, 0), [([], [(0, 4)], [(1, .inr (0, 3, 1))], [], [], [(-4, -4), (1, 1)], [([(4, (0, 0)), (5, (1, 1)), (7, (0, 0))], [(4, 5)], [])], [], [], [], 0, 0)], 2, 102, 0, 0)
noncomputable def k297_a : ckAs := []
noncomputable def k297_c : List (Nat × ckCtr) := [(3, k21), (19, k296), (92, k28)]
theorem k297_ok (l : Launch) : ckCtrOk l ckMT ckTW ckCL k297 := mt_74 (as := k297_a) (cs := k297_c) (gx := []) (f := 200000) rfl (ckHc (k21_ok l) (ckHc (k296_ok l) (ckHc (k28_ok l) (fun _ h => absurd h List.not_mem_nil)))) True.intro (by decide +kernel)
-- FarMachineModel.suspect
noncomputable def k298 : ckCtr := (74, ([(0, (1, 0)), (1, (0, 0)), (2, (0, 1))], [], dC43, [(48, 2147483647), ckTop, (0, 0), (7, 7)], [([(7, (0, 0))], [], [])], [], [], [], 0, 0), [([], [(0, 4)], [(1, .inr (0, 3, 1))], [], [], [(-1, -1), (1, 1)], [([(1, (0, 0)), (2, (1, 1)), (7, (0, 0))], [(1, 5)], [])], [], [], [], 0, 0)], 2, 101, 0, 0)
noncomputable def k298_a : ckAs := []
noncomputable def k298_c : List (Nat × ckCtr) := [(3, k30), (11, k31)]
theorem k298_ok (l : Launch) : ckCtrOk l ckMT ckTW ckCL k298 := mt_74 (as := k298_a) (cs := k298_c) (gx := []) (f := 200000) rfl (ckHc (k30_ok l) (ckHc (k31_ok l) (fun _ h => absurd h List.not_mem_nil))) True.intro (by decide +kernel)
-- FarMachineModel.suspect
noncomputable def k299 : ckCtr := (74, ([(0, (1, 0)), (1, (0, 0)), (2, (0, 1))], [], dC43, [(-2147483648, -1), ckTop, (0, 0), (7, 7)], [([(7, (0, 0))], [], [])], [], [], [], 0, 0), [([], [(0, 4)], [(1, .inr (0, 3, 1))], [], [], [(-1, -1), (1, 1)], [([(1, (0, 0)), (2, (1, 1)), (7, (0, 0))], [(1, 5)], [])], [], [], [], 0, 0)], 2, 101, 0, 0)
noncomputable def k299_a : ckAs := []
noncomputable def k299_c : List (Nat × ckCtr) := [(3, k33), (11, k31)]
theorem k299_ok (l : Launch) : ckCtrOk l ckMT ckTW ckCL k299 := mt_74 (as := k299_a) (cs := k299_c) (gx := []) (f := 200000) rfl (ckHc (k33_ok l) (ckHc (k31_ok l) (fun _ h => absurd h List.not_mem_nil))) True.intro (by decide +kernel)
-- FarMachine$Bytes.isFull
noncomputable def k300 : ckCtr := (113, ([(0, (1, 0))], [], [.inl (0, [(1, 1), (0, 0)]), .inr (0, 1, 0)], [(0, 0), (40, 40)], [([(40, (0, 0))], [], [])], [], [], [], 0, 0), [([], [(0, 0)], [], [], [], [], [], [], [], [], 0, 0)], 1, 80, 0, 0)
noncomputable def k300_a : ckAs := []
noncomputable def k300_c : List (Nat × ckCtr) := []
theorem k300_ok (l : Launch) : ckCtrOk l ckMT ckTW ckCL k300 := mt_113 (as := k300_a) (cs := k300_c) (gx := []) (f := 200000) rfl (fun _ h => absurd h List.not_mem_nil) True.intro (by decide +kernel)
-- FarMachine$Bytes.add
noncomputable def k301 : ckCtr := (114, ([(0, (1, 0)), (1, (0, 0))], [], [.inl (0, [(1, 1), (0, 1)]), .inr (0, 2, 0)], [(-128, 127), (0, 0), (40, 40)], [([(40, (0, 0))], [], [])], [], [], [], 0, 0), [([], [], [(0, .inl (0, [(1, 1), (0, 3)])), (1, .inr (0, 2, 1))], [], [], [(1, 1)], [([(1, (-128, 127)), (40, (0, 0))], [(0, 0)], [])], [], [], [], 0, 0)], 1, 80, 0, 0)
noncomputable def k301_a : ckAs := []
noncomputable def k301_c : List (Nat × ckCtr) := []
theorem k301_ok (l : Launch) : ckCtrOk l ckMT ckTW ckCL k301 := mt_114 (as := k301_a) (cs := k301_c) (gx := []) (f := 200000) rfl (fun _ h => absurd h List.not_mem_nil) True.intro (by decide +kernel)
noncomputable def dC262 : List ckC := [.inl (8, [(4, 10), (4, 11), (0, 1), (1, 1), (4, 12), (4, 13), (4, 14), (1, 2)]), .inl (0, [(1, 3), (0, 1)]), .inr (0, 2, 0), .inr (0, 3, 1)]
-- FarMachine.put
noncomputable def k302 : ckCtr := (13, ([(0, (1, 0)), (1, (0, 0))], [], dC262, [ckTop, (0, 0), (7, 7), (40, 40)], [([(7, (0, 0))], [], []), ([(40, (0, 0))], [], [])], [], [], [], 0, 0), [([], [(0, 4)], [(2, .inr (0, 2, 2))], [], [(0, (-2147483648, -129))], [(-4, -4), (1, 1)], [([(4, (0, 0)), (5, (1, 1)), (7, (0, 0))], [(4, 5)], [])], [], [], [], 0, 0), ([], [(0, 4)], [(1, .inl (0, [(1, 3), (0, 4)])), (3, .inr (0, 3, 2))], [], [(0, (-128, 127))], [(1, 1)], [([(1, (-128, 127)), (40, (0, 0))], [(0, 0)], [])], [], [], [], 0, 0), ([], [(0, 4)], [(2, .inr (0, 2, 2))], [], [(0, (128, 2147483647))], [(-6, -6), (1, 1)], [([(6, (0, 0)), (7, (1, 1))], [(6, 5)], [])], [], [], [], 0, 0)], 2, 101, 0, 0)
noncomputable def k302_a : ckAs := []
noncomputable def k302_c : List (Nat × ckCtr) := [(9, k15), (23, k300), (32, k16), (41, k301)]
theorem k302_ok (l : Launch) : ckCtrOk l ckMT ckTW ckCL k302 := mt_13 (as := k302_a) (cs := k302_c) (gx := []) (f := 200000) rfl (ckHc (k15_ok l) (ckHc (k300_ok l) (ckHc (k16_ok l) (ckHc (k301_ok l) (fun _ h => absurd h List.not_mem_nil))))) True.intro (by decide +kernel)
noncomputable def dC263 : List ckC := [.inl (9, [(4, 10), (4, 11), (4, 12), (4, 13), (4, 14), (4, 15), (4, 16), (4, 17), (1, 1), (4, 18), (4, 19), (4, 20), (4, 21), (4, 22), (4, 23), (4, 24), (0, 1), (0, 1), (0, 1), (0, 1), (0, 1), (0, 1), (0, 1), (4, 25), (0, 1), (4, 26), (0, 1), (0, 1), (0, 1), (0, 1), (4, 27), (0, 1), (0, 1), (0, 1), (0, 1), (4, 27), (4, 11), (0, 1), (4, 28), (4, 29), (0, 1), (0, 1)]), .inr (0, 2, 0)]
noncomputable def dP264 : List (Nat × ckC) := [(0, .inl (9, [(4, 10), (4, 11), (4, 12), (4, 13), (4, 14), (4, 15), (4, 16), (4, 17), (1, 1), (4, 18), (4, 19), (4, 20), (4, 21), (4, 22), (4, 23), (4, 24), (0, 1), (0, 1), (0, 1), (0, 3), (0, 1), (0, 1), (0, 1), (4, 25), (0, 1), (4, 26), (0, 1), (0, 1), (0, 1), (0, 1), (4, 27), (0, 1), (0, 1), (0, 1), (0, 1), (4, 27), (4, 11), (0, 1), (4, 28), (4, 29), (0, 1), (0, 1)])), (1, .inr (0, 2, 1))]
-- FarMachineModel.put
noncomputable def k303 : ckCtr := (75, ([(0, (1, 0)), (1, (0, 0))], [], dC263, [(-128, 127), (0, 0), (40, 40)], [([(40, (0, 0))], [], [])], [], [], [], 0, 0), [([], [(0, 3)], dP264, [], [], [(1, 1)], [([(1, (-128, 127)), (40, (0, 0))], [(0, 0)], [])], [], [], [], 0, 0)], 2, 102, 0, 0)
noncomputable def k303_a : ckAs := []
noncomputable def k303_c : List (Nat × ckCtr) := [(5, k83)]
theorem k303_ok (l : Launch) : ckCtrOk l ckMT ckTW ckCL k303 := mt_75 (as := k303_a) (cs := k303_c) (gx := []) (f := 200000) rfl (ckHc (k83_ok l) (fun _ h => absurd h List.not_mem_nil)) True.intro (by decide +kernel)
-- FarMachineModel.put
noncomputable def k304 : ckCtr := (75, ([(0, (1, 0)), (1, (0, 0))], [], dC42, [(128, 2147483647), (0, 0), (7, 7)], [([(7, (0, 0))], [], [])], [], [], [], 0, 0), [([], [(0, 3)], [(1, .inr (0, 2, 1))], [], [], [(-6, -6), (1, 1)], [([(6, (0, 0)), (7, (1, 1))], [(6, 4)], [])], [], [], [], 0, 0)], 2, 102, 0, 0)
noncomputable def k304_a : ckAs := []
noncomputable def k304_c : List (Nat × ckCtr) := [(5, k91), (31, k25)]
theorem k304_ok (l : Launch) : ckCtrOk l ckMT ckTW ckCL k304 := mt_75 (as := k304_a) (cs := k304_c) (gx := []) (f := 200000) rfl (ckHc (k91_ok l) (ckHc (k25_ok l) (fun _ h => absurd h List.not_mem_nil))) True.intro (by decide +kernel)
-- FarMachineModel.put
noncomputable def k305 : ckCtr := (75, ([(0, (1, 0)), (1, (0, 0))], [], dC42, [(-2147483648, -129), (0, 0), (7, 7)], [([(7, (0, 0))], [], [])], [], [], [], 0, 0), [([], [(0, 3)], [(1, .inr (0, 2, 1))], [], [], [(-4, -4), (1, 1)], [([(4, (0, 0)), (5, (1, 1)), (7, (0, 0))], [(4, 4)], [])], [], [], [], 0, 0)], 2, 102, 0, 0)
noncomputable def k305_a : ckAs := []
noncomputable def k305_c : List (Nat × ckCtr) := [(5, k89), (31, k28)]
theorem k305_ok (l : Launch) : ckCtrOk l ckMT ckTW ckCL k305 := mt_75 (as := k305_a) (cs := k305_c) (gx := []) (f := 200000) rfl (ckHc (k89_ok l) (ckHc (k28_ok l) (fun _ h => absurd h List.not_mem_nil))) True.intro (by decide +kernel)
noncomputable def dC265 : List ckC := [.inl (8, [(4, 10), (4, 11), (0, 0), (1, 1), (4, 12), (4, 13), (4, 14), (4, 15)]), .inl (0, [(4, 16), (0, 0)])]
-- FarMachine.unput
noncomputable def k306 : ckCtr := (14, ([(0, (1, 0))], [], dC265, [(0, 0)], [], [], [], [], 0, 0), [([], [(0, 0)], [], [], [], [], [], [], [], [], 0, 0)], 1, 80, 0, 0)
noncomputable def k306_a : ckAs := []
noncomputable def k306_c : List (Nat × ckCtr) := []
theorem k306_ok (l : Launch) : ckCtrOk l ckMT ckTW ckCL k306 := mt_14 (as := k306_a) (cs := k306_c) (gx := []) (f := 200000) rfl (fun _ h => absurd h List.not_mem_nil) True.intro (by decide +kernel)
-- FarMachineModel.unput
noncomputable def k307 : ckCtr := (76, ([(0, (1, 0))], [], dC229, [(0, 0)], [], [], [], [], 0, 0), [([], [(0, 0)], [], [], [], [], [], [], [], [], 0, 0)], 1, 80, 0, 0)
noncomputable def k307_a : ckAs := []
noncomputable def k307_c : List (Nat × ckCtr) := []
theorem k307_ok (l : Launch) : ckCtrOk l ckMT ckTW ckCL k307 := mt_76 (as := k307_a) (cs := k307_c) (gx := []) (f := 200000) rfl (fun _ h => absurd h List.not_mem_nil) True.intro (by decide +kernel)
noncomputable def dC266 : List ckC := [.inl (7, [(4, 10), (4, 11), (0, 0), (4, 12), (4, 13), (1, 1), (4, 14), (4, 15), (4, 16), (4, 17)]), .inl (0, [(4, 18), (0, 0)])]
-- FarMachine$World.stateCount
noncomputable def k308 : ckCtr := (186, ([(0, (1, 0))], [], dC266, [(0, 0)], [], [], [], [], 0, 0), [([], [(0, 1)], [], [], [], [(1, 1)], [], [], [], [], 0, 0)], 1, 80, 0, 0)
noncomputable def k308_a : ckAs := []
noncomputable def k308_c : List (Nat × ckCtr) := []
theorem k308_ok (l : Launch) : ckCtrOk l ckMT ckTW ckCL k308 := mt_186 (as := k308_a) (cs := k308_c) (gx := []) (f := 200000) rfl (fun _ h => absurd h List.not_mem_nil) True.intro (by decide +kernel)
noncomputable def dC267 : List ckC := [.inl (8, [(1, 1), (4, 10), (0, 1), (4, 11), (4, 12), (4, 13), (4, 14), (4, 15)]), .inl (7, [(4, 16), (4, 17), (0, 1), (4, 18), (4, 19), (1, 2), (4, 20), (4, 21), (4, 22), (4, 23)]), .inl (0, [(4, 24), (0, 1)])]
-- FarMachine.isState
noncomputable def k309 : ckCtr := (37, ([(0, (1, 0)), (1, (0, 0))], [], dC267, [ckTop, (0, 0)], [], [], [], [], 0, 0), [([], [(0, 2)], [], [], [(0, (0, 0))], [(1, 1)], [], [], [], [], 0, 0), ([], [(0, 1)], [], [], [(0, (1, 2147483647))], [], [], [], [], [], 0, 0), ([], [(0, 1)], [], [], [(0, (-2147483648, -1))], [], [], [], [], [], 0, 0)], 2, 100, 0, 0)
noncomputable def k309_a : ckAs := []
noncomputable def k309_c : List (Nat × ckCtr) := [(9, k308)]
theorem k309_ok (l : Launch) : ckCtrOk l ckMT ckTW ckCL k309 := mt_37 (as := k309_a) (cs := k309_c) (gx := []) (f := 200000) rfl (ckHc (k308_ok l) (fun _ h => absurd h List.not_mem_nil)) True.intro (by decide +kernel)
noncomputable def dC268 : List ckC := [.inl (8, [(4, 10), (4, 11), (0, 0), (4, 12), (4, 13), (4, 14), (4, 15), (4, 16)])]
-- FarMachine.refusalOfTried
noncomputable def k310 : ckCtr := (40, ([(0, (1, 0)), (1, (0, 0)), (2, (0, 1)), (3, (0, 2))], [], dC268, [(0, 0), ckTop, (1, 1)], [], [], [], [], 0, 0), [([], [(0, 3)], [], [], [], [(-1, -1)], [], [], [], [], 0, 0)], 1, 80, 0, 0)
noncomputable def k310_a : ckAs := []
noncomputable def k310_c : List (Nat × ckCtr) := []
theorem k310_ok (l : Launch) : ckCtrOk l ckMT ckTW ckCL k310 := mt_40 (as := k310_a) (cs := k310_c) (gx := []) (f := 200000) rfl (fun _ h => absurd h List.not_mem_nil) True.intro (by decide +kernel)
noncomputable def dC269 : List ckC := [.inl (8, [(1, 1), (4, 10), (0, 2), (4, 11), (4, 12), (4, 13), (4, 14), (4, 15)]), .inl (7, [(4, 16), (4, 17), (0, 2), (4, 18), (4, 19), (4, 20), (4, 21), (4, 22), (4, 23), (4, 24)])]
-- FarMachine.refusalOfTried
noncomputable def k311 : ckCtr := (40, ([(0, (1, 0)), (1, (0, 0)), (2, (0, 1)), (3, (0, 0))], [], dC269, [(1, 1), ckTop, (0, 0)], [], [], [], [], 0, 0), [([], [(0, 3)], [], [], [(1, (1, 60))], [(-3, -3)], [], [], [], [], 0, 0), ([], [(0, 3)], [], [], [(1, (61, 2147483647))], [(-6, -6)], [], [], [], [], 0, 0), ([], [(0, 3)], [], [], [(1, (-2147483648, 0))], [(-4, -4)], [], [], [], [], 0, 0)], 1, 80, 0, 0)
noncomputable def k311_a : ckAs := []
noncomputable def k311_c : List (Nat × ckCtr) := []
theorem k311_ok (l : Launch) : ckCtrOk l ckMT ckTW ckCL k311 := mt_40 (as := k311_a) (cs := k311_c) (gx := []) (f := 200000) rfl (fun _ h => absurd h List.not_mem_nil) True.intro (by decide +kernel)
-- FarMachine.refuse
noncomputable def k312 : ckCtr := (34, ([(0, (1, 0)), (1, (0, 0))], [], dC32, [(-3, -3), (0, 0), (7, 7)], [([(7, (0, 0))], [], [])], [], [], [], 0, 0), [([], [(0, 0)], [(1, .inr (0, 2, 1))], [], [], [(1, 1)], [([(3, (0, 0)), (4, (1, 1)), (7, (0, 0))], [(3, 3)], [])], [], [], [], 0, 0)], 1, 80, 0, 0)
noncomputable def k312_a : ckAs := []
noncomputable def k312_c : List (Nat × ckCtr) := []
theorem k312_ok (l : Launch) : ckCtrOk l ckMT ckTW ckCL k312 := mt_34 (as := k312_a) (cs := k312_c) (gx := []) (f := 200000) rfl (fun _ h => absurd h List.not_mem_nil) True.intro (by decide +kernel)
noncomputable def dC270 : List ckC := [.inl (8, [(1, 1), (4, 10), (0, 2), (4, 11), (4, 12), (4, 13), (4, 14), (1, 2)]), .inl (7, [(4, 15), (4, 16), (0, 2), (4, 17), (4, 18), (1, 3), (4, 19), (4, 20), (4, 21), (4, 22)]), .inr (0, 3, 0), .inl (0, [(4, 23), (0, 2)])]
-- FarMachine.fits
noncomputable def k313 : ckCtr := (15, ([(0, (1, 0)), (1, (0, 0)), (2, (0, 1))], [], dC270, [ckTop, ckTop, (0, 0), (7, 7)], [([(7, (0, 0))], [], [])], [], [], [], 0, 0), [([], [(0, 4)], [(2, .inr (0, 3, 1))], [], [(0, (1, 2147483647))], [(-1, -1), (1, 1)], [([(1, (0, 0)), (2, (1, 1)), (7, (0, 0))], [(1, 5)], [])], [], [], [], 0, 0), ([], [(0, 4)], [(2, .inr (0, 3, 1))], [], [(0, (-2147483648, -1))], [(-1, -1), (1, 1)], [([(1, (0, 0)), (2, (1, 1)), (7, (0, 0))], [(1, 5)], [])], [], [], [], 0, 0), ([], [(0, 4)], [(2, .inr (0, 3, 1))], [], [(0, (0, 0)), (1, (61, 2147483647))], [(-6, -6), (1, 1)], [([(6, (0, 0)), (7, (1, 1))], [(6, 5)], [])], [], [], [], 0, 0), ([], [(0, 4)], [(2, .inr (0, 3, 1))], [], [(0, (0, 0)), (1, (-2147483648, 0))], [(-4, -4), (1, 1)], [([(4, (0, 0)), (5, (1, 1)), (7, (0, 0))], [(4, 5)], [])], [], [], [], 0, 0), ([], [(0, 4)], [(2, .inr (0, 3, 1))], [], [(0, (0, 0)), (1, (1, 60))], [(-3, -3), (1, 1)], [([(3, (0, 0)), (4, (1, 1)), (7, (0, 0))], [(3, 5)], [])], [], [], [], 0, 0)], 3, 121, 0, 0)
noncomputable def k313_a : ckAs := []
noncomputable def k313_c : List (Nat × ckCtr) := [(3, k309), (8, k310), (8, k311), (18, k14), (18, k16), (18, k15), (18, k312)]
theorem k313_ok (l : Launch) : ckCtrOk l ckMT ckTW ckCL k313 := mt_15 (as := k313_a) (cs := k313_c) (gx := []) (f := 200000) rfl (ckHc (k309_ok l) (ckHc (k310_ok l) (ckHc (k311_ok l) (ckHc (k14_ok l) (ckHc (k16_ok l) (ckHc (k15_ok l) (ckHc (k312_ok l) (fun _ h => absurd h List.not_mem_nil)))))))) True.intro (by decide +kernel)
-- FarMachineModel.isIn
noncomputable def k314 : ckCtr := (45, ([(0, (0, 0)), (1, (0, 1))], [], [], [(0, 0), (1, 1)], [], [], [], [], 0, 0), [([], [(0, 1)], [], [], [], [], [], [], [], [], 0, 0)], 1, 80, 0, 0)
noncomputable def k314_a : ckAs := []
noncomputable def k314_c : List (Nat × ckCtr) := []
theorem k314_ok (l : Launch) : ckCtrOk l ckMT ckTW ckCL k314 := mt_45 (as := k314_a) (cs := k314_c) (gx := []) (f := 200000) rfl (fun _ h => absurd h List.not_mem_nil) True.intro (by decide +kernel)
-- FarMachineModel.within
noncomputable def k315 : ckCtr := (46, ([(0, (0, 0)), (1, (0, 1)), (2, (0, 2))], [], [], [(1, 60), (1, 1), (60, 60)], [], [], [], [], 0, 0), [([], [(0, 3)], [], [], [], [(0, 0)], [], [], [], [], 0, 0)], 1, 80, 0, 0)
noncomputable def k315_a : ckAs := []
noncomputable def k315_c : List (Nat × ckCtr) := []
theorem k315_ok (l : Launch) : ckCtrOk l ckMT ckTW ckCL k315 := mt_46 (as := k315_a) (cs := k315_c) (gx := []) (f := 200000) rfl (fun _ h => absurd h List.not_mem_nil) True.intro (by decide +kernel)
-- FarMachineModel.refuse
noncomputable def k316 : ckCtr := (44, ([(0, (1, 0)), (1, (0, 0))], [], dC42, [(-3, -3), (0, 0), (7, 7)], [([(7, (0, 0))], [], [])], [], [], [], 0, 0), [([], [(0, 0)], [(1, .inr (0, 2, 1))], [], [], [(1, 1)], [([(3, (0, 0)), (4, (1, 1)), (7, (0, 0))], [(3, 3)], [])], [], [], [], 0, 0)], 1, 80, 0, 0)
noncomputable def k316_a : ckAs := []
noncomputable def k316_c : List (Nat × ckCtr) := []
theorem k316_ok (l : Launch) : ckCtrOk l ckMT ckTW ckCL k316 := mt_44 (as := k316_a) (cs := k316_c) (gx := []) (f := 200000) rfl (fun _ h => absurd h List.not_mem_nil) True.intro (by decide +kernel)
-- FarMachineModel.fits
noncomputable def k317 : ckCtr := (79, ([(0, (1, 0)), (1, (0, 0)), (2, (0, 1))], [], dC106, [(0, 0), (1, 60), (7, 7)], [([(7, (0, 0))], [], [])], [], [], [], 0, 0), [([], [(0, 3)], [(1, .inr (0, 2, 1))], [], [], [(-3, -3), (1, 1)], [([(3, (0, 0)), (4, (1, 1)), (7, (0, 0))], [(3, 4)], [])], [], [], [], 0, 0)], 2, 102, 0, 0)
noncomputable def k317_a : ckAs := []
noncomputable def k317_c : List (Nat × ckCtr) := [(7, k314), (17, k315), (45, k316)]
theorem k317_ok (l : Launch) : ckCtrOk l ckMT ckTW ckCL k317 := mt_79 (as := k317_a) (cs := k317_c) (gx := []) (f := 200000) rfl (ckHc (k314_ok l) (ckHc (k315_ok l) (ckHc (k316_ok l) (fun _ h => absurd h List.not_mem_nil)))) True.intro (by decide +kernel)
-- FarMachineModel.within
noncomputable def k318 : ckCtr := (46, ([(0, (0, 0)), (1, (0, 1)), (2, (0, 2))], [], [], [(61, 2147483647), (1, 1), (60, 60)], [], [], [], [], 0, 0), [([], [(0, 3)], [], [], [], [(-6, -6)], [], [], [], [], 0, 0)], 1, 80, 0, 0)
noncomputable def k318_a : ckAs := []
noncomputable def k318_c : List (Nat × ckCtr) := []
theorem k318_ok (l : Launch) : ckCtrOk l ckMT ckTW ckCL k318 := mt_46 (as := k318_a) (cs := k318_c) (gx := []) (f := 200000) rfl (fun _ h => absurd h List.not_mem_nil) True.intro (by decide +kernel)
-- FarMachineModel.fits
noncomputable def k319 : ckCtr := (79, ([(0, (1, 0)), (1, (0, 0)), (2, (0, 1))], [], dC106, [(0, 0), (61, 2147483647), (7, 7)], [([(7, (0, 0))], [], [])], [], [], [], 0, 0), [([], [(0, 3)], [(1, .inr (0, 2, 1))], [], [], [(-6, -6), (1, 1)], [([(6, (0, 0)), (7, (1, 1))], [(6, 4)], [])], [], [], [], 0, 0)], 2, 102, 0, 0)
noncomputable def k319_a : ckAs := []
noncomputable def k319_c : List (Nat × ckCtr) := [(7, k314), (17, k318), (45, k25)]
theorem k319_ok (l : Launch) : ckCtrOk l ckMT ckTW ckCL k319 := mt_79 (as := k319_a) (cs := k319_c) (gx := []) (f := 200000) rfl (ckHc (k314_ok l) (ckHc (k318_ok l) (ckHc (k25_ok l) (fun _ h => absurd h List.not_mem_nil)))) True.intro (by decide +kernel)
-- FarMachineModel.within
noncomputable def k320 : ckCtr := (46, ([(0, (0, 0)), (1, (0, 1)), (2, (0, 2))], [], [], [(-2147483648, 0), (1, 1), (60, 60)], [], [], [], [], 0, 0), [([], [(0, 3)], [], [], [], [(-4, -4)], [], [], [], [], 0, 0)], 1, 80, 0, 0)
noncomputable def k320_a : ckAs := []
noncomputable def k320_c : List (Nat × ckCtr) := []
theorem k320_ok (l : Launch) : ckCtrOk l ckMT ckTW ckCL k320 := mt_46 (as := k320_a) (cs := k320_c) (gx := []) (f := 200000) rfl (fun _ h => absurd h List.not_mem_nil) True.intro (by decide +kernel)
-- FarMachineModel.fits
noncomputable def k321 : ckCtr := (79, ([(0, (1, 0)), (1, (0, 0)), (2, (0, 1))], [], dC106, [(0, 0), (-2147483648, 0), (7, 7)], [([(7, (0, 0))], [], [])], [], [], [], 0, 0), [([], [(0, 3)], [(1, .inr (0, 2, 1))], [], [], [(-4, -4), (1, 1)], [([(4, (0, 0)), (5, (1, 1)), (7, (0, 0))], [(4, 4)], [])], [], [], [], 0, 0)], 2, 102, 0, 0)
noncomputable def k321_a : ckAs := []
noncomputable def k321_c : List (Nat × ckCtr) := [(7, k314), (17, k320), (45, k28)]
theorem k321_ok (l : Launch) : ckCtrOk l ckMT ckTW ckCL k321 := mt_79 (as := k321_a) (cs := k321_c) (gx := []) (f := 200000) rfl (ckHc (k314_ok l) (ckHc (k320_ok l) (ckHc (k28_ok l) (fun _ h => absurd h List.not_mem_nil)))) True.intro (by decide +kernel)
-- FarMachineModel.isIn
noncomputable def k322 : ckCtr := (45, ([(0, (0, 0)), (1, (0, 1))], [], [], [(1, 2147483647), (1, 1)], [], [], [], [], 0, 0), [([], [(0, 2)], [], [], [], [(0, 0)], [], [], [], [], 0, 0)], 1, 80, 0, 0)
noncomputable def k322_a : ckAs := []
noncomputable def k322_c : List (Nat × ckCtr) := []
theorem k322_ok (l : Launch) : ckCtrOk l ckMT ckTW ckCL k322 := mt_45 (as := k322_a) (cs := k322_c) (gx := []) (f := 200000) rfl (fun _ h => absurd h List.not_mem_nil) True.intro (by decide +kernel)
-- FarMachineModel.fits
noncomputable def k323 : ckCtr := (79, ([(0, (1, 0)), (1, (0, 0)), (2, (0, 1))], [], dC43, [(1, 2147483647), ckTop, (0, 0), (7, 7)], [([(7, (0, 0))], [], [])], [], [], [], 0, 0), [([], [(0, 4)], [(1, .inr (0, 3, 1))], [], [], [(-1, -1), (1, 1)], [([(1, (0, 0)), (2, (1, 1)), (7, (0, 0))], [(1, 5)], [])], [], [], [], 0, 0)], 2, 101, 0, 0)
noncomputable def k323_a : ckAs := []
noncomputable def k323_c : List (Nat × ckCtr) := [(7, k322), (45, k31)]
theorem k323_ok (l : Launch) : ckCtrOk l ckMT ckTW ckCL k323 := mt_79 (as := k323_a) (cs := k323_c) (gx := []) (f := 200000) rfl (ckHc (k322_ok l) (ckHc (k31_ok l) (fun _ h => absurd h List.not_mem_nil))) True.intro (by decide +kernel)
-- FarMachineModel.isIn
noncomputable def k324 : ckCtr := (45, ([(0, (0, 0)), (1, (0, 1))], [], [], [(-2147483648, -1), (1, 1)], [], [], [], [], 0, 0), [([], [(0, 2)], [], [], [], [(0, 0)], [], [], [], [], 0, 0)], 1, 80, 0, 0)
noncomputable def k324_a : ckAs := []
noncomputable def k324_c : List (Nat × ckCtr) := []
theorem k324_ok (l : Launch) : ckCtrOk l ckMT ckTW ckCL k324 := mt_45 (as := k324_a) (cs := k324_c) (gx := []) (f := 200000) rfl (fun _ h => absurd h List.not_mem_nil) True.intro (by decide +kernel)
-- FarMachineModel.fits
noncomputable def k325 : ckCtr := (79, ([(0, (1, 0)), (1, (0, 0)), (2, (0, 1))], [], dC43, [(-2147483648, -1), ckTop, (0, 0), (7, 7)], [([(7, (0, 0))], [], [])], [], [], [], 0, 0), [([], [(0, 4)], [(1, .inr (0, 3, 1))], [], [], [(-1, -1), (1, 1)], [([(1, (0, 0)), (2, (1, 1)), (7, (0, 0))], [(1, 5)], [])], [], [], [], 0, 0)], 2, 101, 0, 0)
noncomputable def k325_a : ckAs := []
noncomputable def k325_c : List (Nat × ckCtr) := [(7, k324), (45, k31)]
theorem k325_ok (l : Launch) : ckCtrOk l ckMT ckTW ckCL k325 := mt_79 (as := k325_a) (cs := k325_c) (gx := []) (f := 200000) rfl (ckHc (k324_ok l) (ckHc (k31_ok l) (fun _ h => absurd h List.not_mem_nil))) True.intro (by decide +kernel)
noncomputable def dC271 : List ckC := [.inl (8, [(1, 1), (4, 10), (0, 2), (4, 11), (4, 12), (4, 13), (4, 14), (1, 2)]), .inl (7, [(4, 15), (4, 16), (0, 2), (4, 17), (4, 18), (4, 19), (4, 20), (4, 21), (4, 22), (4, 23)]), .inr (0, 3, 0)]
-- FarMachine.fitting
noncomputable def k326 : ckCtr := (16, ([(0, (1, 0)), (1, (0, 0)), (2, (0, 1))], [], dC271, [ckTop, ckTop, (0, 0), (7, 7)], [([(7, (0, 0))], [], [])], [], [], [], 0, 0), [([], [(0, 4)], [(2, .inr (0, 3, 1))], [], [(1, (4, 2147483647))], [(-2, -2), (1, 1)], [([(2, (0, 0)), (3, (1, 1)), (7, (0, 0))], [(2, 5)], [])], [], [], [], 0, 0), ([], [(0, 4)], [(2, .inr (0, 3, 1))], [], [(0, (61, 2147483647)), (1, (0, 3))], [(-6, -6), (1, 1)], [([(6, (0, 0)), (7, (1, 1))], [(6, 5)], [])], [], [], [], 0, 0), ([], [(0, 4)], [(2, .inr (0, 3, 1))], [], [(0, (-2147483648, 0)), (1, (0, 3))], [(-4, -4), (1, 1)], [([(4, (0, 0)), (5, (1, 1)), (7, (0, 0))], [(4, 5)], [])], [], [], [], 0, 0), ([], [(0, 4)], [(2, .inr (0, 3, 1))], [], [(0, (1, 60)), (1, (0, 3))], [(-3, -3), (1, 1)], [([(3, (0, 0)), (4, (1, 1)), (7, (0, 0))], [(3, 5)], [])], [], [], [], 0, 0), ([], [(0, 4)], [(2, .inr (0, 3, 1))], [], [(1, (-2147483648, -1))], [(-2, -2), (1, 1)], [([(2, (0, 0)), (3, (1, 1)), (7, (0, 0))], [(2, 5)], [])], [], [], [], 0, 0)], 2, 103, 0, 0)
noncomputable def k326_a : ckAs := []
noncomputable def k326_c : List (Nat × ckCtr) := [(12, k39), (20, k311), (30, k16), (30, k15), (30, k312)]
theorem k326_ok (l : Launch) : ckCtrOk l ckMT ckTW ckCL k326 := mt_16 (as := k326_a) (cs := k326_c) (gx := []) (f := 200000) rfl (ckHc (k39_ok l) (ckHc (k311_ok l) (ckHc (k16_ok l) (ckHc (k15_ok l) (ckHc (k312_ok l) (fun _ h => absurd h List.not_mem_nil)))))) True.intro (by decide +kernel)
-- FarMachineModel.isIn
noncomputable def k327 : ckCtr := (45, ([(0, (0, 0)), (1, (0, 1))], [], [], [(0, 3), (4, 4)], [], [], [], [], 0, 0), [([], [(0, 2)], [], [], [], [(1, 1)], [], [], [], [], 0, 0)], 1, 80, 0, 0)
noncomputable def k327_a : ckAs := []
noncomputable def k327_c : List (Nat × ckCtr) := []
theorem k327_ok (l : Launch) : ckCtrOk l ckMT ckTW ckCL k327 := mt_45 (as := k327_a) (cs := k327_c) (gx := []) (f := 200000) rfl (fun _ h => absurd h List.not_mem_nil) True.intro (by decide +kernel)
-- FarMachineModel.fitting
noncomputable def k328 : ckCtr := (81, ([(0, (1, 0)), (1, (0, 0)), (2, (0, 1))], [], dC43, [(1, 60), (0, 3), (0, 0), (7, 7)], [([(7, (0, 0))], [], [])], [], [], [], 0, 0), [([], [(0, 4)], [(1, .inr (0, 3, 1))], [], [], [(-3, -3), (1, 1)], [([(3, (0, 0)), (4, (1, 1)), (7, (0, 0))], [(3, 5)], [])], [], [], [], 0, 0)], 2, 102, 0, 0)
noncomputable def k328_a : ckAs := []
noncomputable def k328_c : List (Nat × ckCtr) := [(2, k327), (12, k315), (41, k316)]
theorem k328_ok (l : Launch) : ckCtrOk l ckMT ckTW ckCL k328 := mt_81 (as := k328_a) (cs := k328_c) (gx := []) (f := 200000) rfl (ckHc (k327_ok l) (ckHc (k315_ok l) (ckHc (k316_ok l) (fun _ h => absurd h List.not_mem_nil)))) True.intro (by decide +kernel)
-- FarMachineModel.fitting
noncomputable def k329 : ckCtr := (81, ([(0, (1, 0)), (1, (0, 0)), (2, (0, 1))], [], dC43, [(61, 2147483647), (0, 3), (0, 0), (7, 7)], [([(7, (0, 0))], [], [])], [], [], [], 0, 0), [([], [(0, 4)], [(1, .inr (0, 3, 1))], [], [], [(-6, -6), (1, 1)], [([(6, (0, 0)), (7, (1, 1))], [(6, 5)], [])], [], [], [], 0, 0)], 2, 102, 0, 0)
noncomputable def k329_a : ckAs := []
noncomputable def k329_c : List (Nat × ckCtr) := [(2, k327), (12, k318), (41, k25)]
theorem k329_ok (l : Launch) : ckCtrOk l ckMT ckTW ckCL k329 := mt_81 (as := k329_a) (cs := k329_c) (gx := []) (f := 200000) rfl (ckHc (k327_ok l) (ckHc (k318_ok l) (ckHc (k25_ok l) (fun _ h => absurd h List.not_mem_nil)))) True.intro (by decide +kernel)
-- FarMachineModel.fitting
noncomputable def k330 : ckCtr := (81, ([(0, (1, 0)), (1, (0, 0)), (2, (0, 1))], [], dC43, [(-2147483648, 0), (0, 3), (0, 0), (7, 7)], [([(7, (0, 0))], [], [])], [], [], [], 0, 0), [([], [(0, 4)], [(1, .inr (0, 3, 1))], [], [], [(-4, -4), (1, 1)], [([(4, (0, 0)), (5, (1, 1)), (7, (0, 0))], [(4, 5)], [])], [], [], [], 0, 0)], 2, 102, 0, 0)
noncomputable def k330_a : ckAs := []
noncomputable def k330_c : List (Nat × ckCtr) := [(2, k327), (12, k320), (41, k28)]
theorem k330_ok (l : Launch) : ckCtrOk l ckMT ckTW ckCL k330 := mt_81 (as := k330_a) (cs := k330_c) (gx := []) (f := 200000) rfl (ckHc (k327_ok l) (ckHc (k320_ok l) (ckHc (k28_ok l) (fun _ h => absurd h List.not_mem_nil)))) True.intro (by decide +kernel)
-- FarMachineModel.isIn
noncomputable def k331 : ckCtr := (45, ([(0, (0, 0)), (1, (0, 1))], [], [], [(4, 2147483647), (4, 4)], [], [], [], [], 0, 0), [([], [(0, 2)], [], [], [], [(0, 0)], [], [], [], [], 0, 0)], 1, 80, 0, 0)
noncomputable def k331_a : ckAs := []
noncomputable def k331_c : List (Nat × ckCtr) := []
theorem k331_ok (l : Launch) : ckCtrOk l ckMT ckTW ckCL k331 := mt_45 (as := k331_a) (cs := k331_c) (gx := []) (f := 200000) rfl (fun _ h => absurd h List.not_mem_nil) True.intro (by decide +kernel)
-- FarMachineModel.fitting
noncomputable def k332 : ckCtr := (81, ([(0, (1, 0)), (1, (0, 0)), (2, (0, 1))], [], dC43, [ckTop, (4, 2147483647), (0, 0), (7, 7)], [([(7, (0, 0))], [], [])], [], [], [], 0, 0), [([], [(0, 4)], [(1, .inr (0, 3, 1))], [], [], [(-2, -2), (1, 1)], [([(2, (0, 0)), (3, (1, 1)), (7, (0, 0))], [(2, 5)], [])], [], [], [], 0, 0)], 2, 101, 0, 0)
noncomputable def k332_a : ckAs := []
noncomputable def k332_c : List (Nat × ckCtr) := [(2, k331), (41, k48)]
theorem k332_ok (l : Launch) : ckCtrOk l ckMT ckTW ckCL k332 := mt_81 (as := k332_a) (cs := k332_c) (gx := []) (f := 200000) rfl (ckHc (k331_ok l) (ckHc (k48_ok l) (fun _ h => absurd h List.not_mem_nil))) True.intro (by decide +kernel)
-- FarMachineModel.isIn
noncomputable def k333 : ckCtr := (45, ([(0, (0, 0)), (1, (0, 1))], [], [], [(-2147483648, -1), (4, 4)], [], [], [], [], 0, 0), [([], [(0, 2)], [], [], [], [(0, 0)], [], [], [], [], 0, 0)], 1, 80, 0, 0)
noncomputable def k333_a : ckAs := []
noncomputable def k333_c : List (Nat × ckCtr) := []
theorem k333_ok (l : Launch) : ckCtrOk l ckMT ckTW ckCL k333 := mt_45 (as := k333_a) (cs := k333_c) (gx := []) (f := 200000) rfl (fun _ h => absurd h List.not_mem_nil) True.intro (by decide +kernel)
-- FarMachineModel.fitting
noncomputable def k334 : ckCtr := (81, ([(0, (1, 0)), (1, (0, 0)), (2, (0, 1))], [], dC43, [ckTop, (-2147483648, -1), (0, 0), (7, 7)], [([(7, (0, 0))], [], [])], [], [], [], 0, 0), [([], [(0, 4)], [(1, .inr (0, 3, 1))], [], [], [(-2, -2), (1, 1)], [([(2, (0, 0)), (3, (1, 1)), (7, (0, 0))], [(2, 5)], [])], [], [], [], 0, 0)], 2, 101, 0, 0)
noncomputable def k334_a : ckAs := []
noncomputable def k334_c : List (Nat × ckCtr) := [(2, k333), (41, k48)]
theorem k334_ok (l : Launch) : ckCtrOk l ckMT ckTW ckCL k334 := mt_81 (as := k334_a) (cs := k334_c) (gx := []) (f := 200000) rfl (ckHc (k333_ok l) (ckHc (k48_ok l) (fun _ h => absurd h List.not_mem_nil))) True.intro (by decide +kernel)
-- FarMachine$Bytes.add
noncomputable def k335 : ckCtr := (114, ([(0, (1, 0)), (1, (0, 0))], [], [.inl (0, [(1, 1), (0, 1)]), .inr (0, 2, 0)], [(0, 255), (0, 0), (30, 30)], [([(30, (0, 0))], [], [])], [], [], [], 0, 0), [([], [], [(0, .inl (0, [(1, 1), (0, 3)])), (1, .inr (0, 2, 1))], [], [], [(1, 1)], [([(1, (0, 255)), (30, (0, 0))], [(0, 0)], [])], [], [], [], 0, 0)], 1, 80, 0, 0)
noncomputable def k335_a : ckAs := []
noncomputable def k335_c : List (Nat × ckCtr) := []
theorem k335_ok (l : Launch) : ckCtrOk l ckMT ckTW ckCL k335 := mt_114 (as := k335_a) (cs := k335_c) (gx := []) (f := 200000) rfl (fun _ h => absurd h List.not_mem_nil) True.intro (by decide +kernel)
noncomputable def dG272 : List ckG := [([(1, (0, 255)), (2, (0, 255)), (30, (0, 0))], [(0, 3), (1, 0)], [])]
-- FarMachine$Bytes.add
noncomputable def k336 : ckCtr := (114, ([(0, (1, 0)), (1, (0, 0))], [], [.inl (0, [(1, 1), (0, 1)]), .inr (0, 2, 0)], [(0, 255), (1, 1), (30, 30), (0, 255)], [([(1, (0, 255)), (30, (0, 0))], [(0, 3)], [])], [], [], [], 0, 0), [([], [], [(0, .inl (0, [(1, 1), (0, 4)])), (1, .inr (0, 2, 1))], [], [], [(2, 2)], dG272, [], [], [], 0, 0)], 1, 80, 0, 0)
noncomputable def k336_a : ckAs := []
noncomputable def k336_c : List (Nat × ckCtr) := []
theorem k336_ok (l : Launch) : ckCtrOk l ckMT ckTW ckCL k336 := mt_114 (as := k336_a) (cs := k336_c) (gx := []) (f := 200000) rfl (fun _ h => absurd h List.not_mem_nil) True.intro (by decide +kernel)
noncomputable def dG273 : List ckG := [([(1, (0, 255)), (2, (0, 255)), (30, (0, 0))], [(0, 3), (1, 4)], [])]
noncomputable def dG274 : List ckG := [([(1, (0, 255)), (2, (0, 255)), (3, (0, 255)), (30, (0, 0))], [(0, 3), (1, 4), (2, 0)], [])]
-- FarMachine$Bytes.add
noncomputable def k337 : ckCtr := (114, ([(0, (1, 0)), (1, (0, 0))], [], [.inl (0, [(1, 1), (0, 1)]), .inr (0, 2, 0)], [(0, 255), (2, 2), (30, 30), (0, 255), (0, 255)], dG273, [], [], [], 0, 0), [([], [], [(0, .inl (0, [(1, 1), (0, 5)])), (1, .inr (0, 2, 1))], [], [], [(3, 3)], dG274, [], [], [], 0, 0)], 1, 80, 0, 0)
noncomputable def k337_a : ckAs := []
noncomputable def k337_c : List (Nat × ckCtr) := []
theorem k337_ok (l : Launch) : ckCtrOk l ckMT ckTW ckCL k337 := mt_114 (as := k337_a) (cs := k337_c) (gx := []) (f := 200000) rfl (fun _ h => absurd h List.not_mem_nil) True.intro (by decide +kernel)
noncomputable def dG275 : List ckG := [([(1, (0, 255)), (2, (0, 255)), (3, (0, 255)), (30, (0, 0))], [(0, 3), (1, 4), (2, 5)], [])]
noncomputable def dG276 : List ckG := [([(1, (0, 255)), (2, (0, 255)), (3, (0, 255)), (4, (0, 255)), (30, (0, 0))], [(0, 3), (1, 4), (2, 5), (3, 0)], [])]
-- FarMachine$Bytes.add
noncomputable def k338 : ckCtr := (114, ([(0, (1, 0)), (1, (0, 0))], [], [.inl (0, [(1, 1), (0, 1)]), .inr (0, 2, 0)], [(0, 255), (3, 3), (30, 30), (0, 255), (0, 255), (0, 255)], dG275, [], [], [], 0, 0), [([], [], [(0, .inl (0, [(1, 1), (0, 6)])), (1, .inr (0, 2, 1))], [], [], [(4, 4)], dG276, [], [], [], 0, 0)], 1, 80, 0, 0)
noncomputable def k338_a : ckAs := []
noncomputable def k338_c : List (Nat × ckCtr) := []
theorem k338_ok (l : Launch) : ckCtrOk l ckMT ckTW ckCL k338 := mt_114 (as := k338_a) (cs := k338_c) (gx := []) (f := 200000) rfl (fun _ h => absurd h List.not_mem_nil) True.intro (by decide +kernel)
noncomputable def dT277 : List ckI := [(0, 255), (4, 4), (30, 30), (0, 255), (0, 255), (0, 255), (0, 255)]
noncomputable def dG278 : List ckG := [([(1, (0, 255)), (2, (0, 255)), (3, (0, 255)), (4, (0, 255)), (30, (0, 0))], [(0, 3), (1, 4), (2, 5), (3, 6)], [])]
noncomputable def dG279 : List ckG := [([(1, (0, 255)), (2, (0, 255)), (3, (0, 255)), (4, (0, 255)), (5, (0, 255)), (30, (0, 0))], [(0, 3), (1, 4), (2, 5), (3, 6), (4, 0)], [])]
-- FarMachine$Bytes.add
noncomputable def k339 : ckCtr := (114, ([(0, (1, 0)), (1, (0, 0))], [], [.inl (0, [(1, 1), (0, 1)]), .inr (0, 2, 0)], dT277, dG278, [], [], [], 0, 0), [([], [], [(0, .inl (0, [(1, 1), (0, 7)])), (1, .inr (0, 2, 1))], [], [], [(5, 5)], dG279, [], [], [], 0, 0)], 1, 80, 0, 0)
noncomputable def k339_a : ckAs := []
noncomputable def k339_c : List (Nat × ckCtr) := []
theorem k339_ok (l : Launch) : ckCtrOk l ckMT ckTW ckCL k339 := mt_114 (as := k339_a) (cs := k339_c) (gx := []) (f := 200000) rfl (fun _ h => absurd h List.not_mem_nil) True.intro (by decide +kernel)
noncomputable def dT280 : List ckI := [(0, 255), (5, 5), (30, 30), (0, 255), (0, 255), (0, 255), (0, 255), (0, 255)]
noncomputable def dG281 : List ckG := [([(1, (0, 255)), (2, (0, 255)), (3, (0, 255)), (4, (0, 255)), (5, (0, 255)), (30, (0, 0))], [(0, 3), (1, 4), (2, 5), (3, 6), (4, 7)], [])]
noncomputable def dG282 : List ckG := [([(1, (0, 255)), (2, (0, 255)), (3, (0, 255)), (4, (0, 255)), (5, (0, 255)), (6, (0, 255)), (30, (0, 0))], [(0, 3), (1, 4), (2, 5), (3, 6), (4, 7), (5, 0)], [])]
-- FarMachine$Bytes.add
noncomputable def k340 : ckCtr := (114, ([(0, (1, 0)), (1, (0, 0))], [], [.inl (0, [(1, 1), (0, 1)]), .inr (0, 2, 0)], dT280, dG281, [], [], [], 0, 0), [([], [], [(0, .inl (0, [(1, 1), (0, 8)])), (1, .inr (0, 2, 1))], [], [], [(6, 6)], dG282, [], [], [], 0, 0)], 1, 80, 0, 0)
noncomputable def k340_a : ckAs := []
noncomputable def k340_c : List (Nat × ckCtr) := []
theorem k340_ok (l : Launch) : ckCtrOk l ckMT ckTW ckCL k340 := mt_114 (as := k340_a) (cs := k340_c) (gx := []) (f := 200000) rfl (fun _ h => absurd h List.not_mem_nil) True.intro (by decide +kernel)
noncomputable def dT283 : List ckI := [(0, 255), (6, 6), (30, 30), (0, 255), (0, 255), (0, 255), (0, 255), (0, 255), (0, 255)]
noncomputable def dG284 : List ckG := [([(1, (0, 255)), (2, (0, 255)), (3, (0, 255)), (4, (0, 255)), (5, (0, 255)), (6, (0, 255)), (30, (0, 0))], [(0, 3), (1, 4), (2, 5), (3, 6), (4, 7), (5, 8)], [])]
noncomputable def dG285 : List ckG := [([(1, (0, 255)), (2, (0, 255)), (3, (0, 255)), (4, (0, 255)), (5, (0, 255)), (6, (0, 255)), (7, (0, 255)), (30, (0, 0))], [(0, 3), (1, 4), (2, 5), (3, 6), (4, 7), (5, 8), (6, 0)], [])]
-- FarMachine$Bytes.add
noncomputable def k341 : ckCtr := (114, ([(0, (1, 0)), (1, (0, 0))], [], [.inl (0, [(1, 1), (0, 1)]), .inr (0, 2, 0)], dT283, dG284, [], [], [], 0, 0), [([], [], [(0, .inl (0, [(1, 1), (0, 9)])), (1, .inr (0, 2, 1))], [], [], [(7, 7)], dG285, [], [], [], 0, 0)], 1, 80, 0, 0)
noncomputable def k341_a : ckAs := []
noncomputable def k341_c : List (Nat × ckCtr) := []
theorem k341_ok (l : Launch) : ckCtrOk l ckMT ckTW ckCL k341 := mt_114 (as := k341_a) (cs := k341_c) (gx := []) (f := 200000) rfl (fun _ h => absurd h List.not_mem_nil) True.intro (by decide +kernel)
noncomputable def dT286 : List ckI := [(0, 255), (7, 7), (30, 30), (0, 255), (0, 255), (0, 255), (0, 255), (0, 255), (0, 255), (0, 255)]
noncomputable def dG287 : List ckG := [([(1, (0, 255)), (2, (0, 255)), (3, (0, 255)), (4, (0, 255)), (5, (0, 255)), (6, (0, 255)), (7, (0, 255)), (30, (0, 0))], [(0, 3), (1, 4), (2, 5), (3, 6), (4, 7), (5, 8), (6, 9)], [])]
noncomputable def dG288 : List ckG := [([(1, (0, 255)), (2, (0, 255)), (3, (0, 255)), (4, (0, 255)), (5, (0, 255)), (6, (0, 255)), (7, (0, 255)), (8, (0, 255)), (30, (0, 0))], [(0, 3), (1, 4), (2, 5), (3, 6), (4, 7), (5, 8), (6, 9), (7, 0)], [])]
-- FarMachine$Bytes.add
noncomputable def k342 : ckCtr := (114, ([(0, (1, 0)), (1, (0, 0))], [], [.inl (0, [(1, 1), (0, 1)]), .inr (0, 2, 0)], dT286, dG287, [], [], [], 0, 0), [([], [], [(0, .inl (0, [(1, 1), (0, 10)])), (1, .inr (0, 2, 1))], [], [], [(8, 8)], dG288, [], [], [], 0, 0)], 1, 80, 0, 0)
noncomputable def k342_a : ckAs := []
noncomputable def k342_c : List (Nat × ckCtr) := []
theorem k342_ok (l : Launch) : ckCtrOk l ckMT ckTW ckCL k342 := mt_114 (as := k342_a) (cs := k342_c) (gx := []) (f := 200000) rfl (fun _ h => absurd h List.not_mem_nil) True.intro (by decide +kernel)
noncomputable def dC289 : List ckC := [.inl (8, [(4, 10), (4, 11), (0, 1), (4, 12), (1, 1), (4, 13), (4, 14), (1, 2)]), .inl (0, [(1, 3), (0, 1)]), .inr (0, 2, 0), .inr (0, 3, 1)]
noncomputable def dT290 : List ckI := [(8, 8), (0, 255), (0, 255), (0, 255), (0, 255), (0, 255), (0, 255), (0, 255), (0, 255)]
noncomputable def dG291 : List ckG := [([(1, (0, 255)), (2, (0, 255)), (3, (0, 255)), (4, (0, 255)), (5, (0, 255)), (6, (0, 255)), (7, (0, 255)), (8, (0, 255)), (30, (0, 0))], [(0, 5), (1, 6), (2, 7), (3, 8), (4, 9), (5, 10), (6, 11), (7, 12)], [])]
noncomputable def dT292 : List ckI := [(0, 255), (0, 255), (0, 255), (0, 255), (0, 255), (0, 255), (0, 255)]
noncomputable def dG293 : List ckG := [([(1, (0, 255)), (2, (0, 255)), (3, (0, 255)), (4, (0, 255)), (5, (0, 255)), (6, (0, 255)), (7, (0, 255)), (30, (0, 0))], [(0, 4), (1, 5), (2, 6), (3, 7), (4, 8), (5, 9), (6, 10)], [])]
noncomputable def dT294 : List ckI := [(6, 6), (0, 255), (0, 255), (0, 255), (0, 255), (0, 255), (0, 255)]
noncomputable def dG295 : List ckG := [([(1, (0, 255)), (2, (0, 255)), (3, (0, 255)), (4, (0, 255)), (5, (0, 255)), (6, (0, 255)), (30, (0, 0))], [(0, 5), (1, 6), (2, 7), (3, 8), (4, 9), (5, 10)], [])]
noncomputable def dG296 : List ckG := [([(1, (0, 255)), (2, (0, 255)), (3, (0, 255)), (4, (0, 255)), (5, (0, 255)), (30, (0, 0))], [(0, 5), (1, 6), (2, 7), (3, 8), (4, 9)], [])]
noncomputable def dG297 : List ckG := [([(1, (0, 255)), (2, (0, 255)), (3, (0, 255)), (4, (0, 255)), (30, (0, 0))], [(0, 5), (1, 6), (2, 7), (3, 8)], [])]
noncomputable def dG298 : List ckG := [([(1, (0, 255)), (2, (0, 255)), (3, (0, 255)), (30, (0, 0))], [(0, 5), (1, 6), (2, 7)], [])]
noncomputable def dG299 : List ckG := [([(1, (0, 255)), (2, (0, 255)), (30, (0, 0))], [(0, 5), (1, 6)], [])]
-- FarMachine.feed
noncomputable def k343 : ckCtr := (17, ([(0, (1, 0)), (1, (0, 0)), (2, (2, 0))], [], dC289, [ckTop, (0, 0), (7, 7), (30, 30)], [([(7, (0, 0))], [], []), ([(30, (0, 0))], [], [])], [], [], [], 0, 0), [([], [(0, 4)], [(2, .inr (0, 2, 2))], [], [(0, (-2147483648, 0))], [(-4, -4), (1, 1)], [([(4, (0, 0)), (5, (1, 1)), (7, (0, 0))], [(4, 5)], [])], [], [], [], 0, 0), ([], [(0, 4)], [(1, .inl (0, [(1, 3), (0, 4)])), (3, .inr (0, 3, 2))], [], [(0, (8, 8))], dT290, dG291, [], [], [], 0, 0), ([], [(0, 2)], [(1, .inl (0, [(1, 3), (0, 2)])), (3, .inr (0, 3, 2))], [], [(0, (7, 7))], dT292, dG293, [], [], [], 0, 0), ([], [(0, 4)], [(1, .inl (0, [(1, 3), (0, 4)])), (3, .inr (0, 3, 2))], [], [(0, (6, 6))], dT294, dG295, [], [], [], 0, 0), ([], [(0, 4)], [(1, .inl (0, [(1, 3), (0, 4)])), (3, .inr (0, 3, 2))], [], [(0, (5, 5))], [(5, 5), (0, 255), (0, 255), (0, 255), (0, 255), (0, 255)], dG296, [], [], [], 0, 0), ([], [(0, 4)], [(1, .inl (0, [(1, 3), (0, 4)])), (3, .inr (0, 3, 2))], [], [(0, (4, 4))], [(4, 4), (0, 255), (0, 255), (0, 255), (0, 255)], dG297, [], [], [], 0, 0), ([], [(0, 4)], [(1, .inl (0, [(1, 3), (0, 4)])), (3, .inr (0, 3, 2))], [], [(0, (3, 3))], [(3, 3), (0, 255), (0, 255), (0, 255)], dG298, [], [], [], 0, 0), ([], [(0, 4)], [(1, .inl (0, [(1, 3), (0, 4)])), (3, .inr (0, 3, 2))], [], [(0, (2, 2))], [(2, 2), (0, 255), (0, 255)], dG299, [], [], [], 0, 0), ([], [(0, 4)], [(1, .inl (0, [(1, 3), (0, 4)])), (3, .inr (0, 3, 2))], [], [(0, (1, 1))], [(1, 1), (0, 255)], [([(1, (0, 255)), (30, (0, 0))], [(0, 5)], [])], [], [], [], 0, 0), ([], [(0, 4)], [(2, .inr (0, 2, 2))], [], [(0, (9, 2147483647))], [(-6, -6), (1, 1)], [([(6, (0, 0)), (7, (1, 1))], [(6, 5)], [])], [], [], [], 0, 0)], 2, 101, 0, 0)
noncomputable def k343_a : ckAs := []
noncomputable def k343_c : List (Nat × ckCtr) := [(8, k15), (35, k16), (64, k335), (64, k336), (64, k337), (64, k338), (64, k339), (64, k340), (64, k341), (64, k342)]
noncomputable def dC300 : List ckC := [.inl (8, [(4, 10), (4, 11), (0, 1), (4, 12), (1, 1), (4, 13), (4, 14), (1, 2)]), .inl (0, [(1, 3), (0, 4)]), .inr (0, 2, 0), .inr (0, 3, 2)]
noncomputable def dT301 : List ckI := [(6, 8), (0, 0), (7, 7), (30, 30), (6, 6), (0, 255), (0, 255), (0, 255), (0, 255), (0, 255), (0, 255)]
noncomputable def dG302 : List ckG := [([(7, (0, 0))], [], []), ([(30, (0, 0))], [], []), ([(1, (0, 255)), (2, (0, 255)), (3, (0, 255)), (4, (0, 255)), (5, (0, 255)), (6, (0, 255)), (30, (0, 0))], [(0, 5), (1, 6), (2, 7), (3, 8), (4, 9), (5, 10)], [])]
noncomputable def k343_u0 : ckCut := (42, ([(0, (1, 0)), (1, (0, 0)), (2, (2, 0)), (4, (0, 4))], [], dC300, dT301, dG302, [], [], [], 0, 0), 4, 2, 0, 0)
noncomputable def k343_g0 : List ckCut := [k343_u0]
theorem k343_t0 : ckRun es_17 k343_a k343_c [] 5 2 101 0 0 (ckEndF 1 0 0 k343.2.1 k343.2.2.1) ckKs ckKc 200000 0 42 k343_u0.2.1 [] = true := by decide +kernel
