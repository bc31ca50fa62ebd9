/-! THE CHECKER: contracts with their certificates (printed by wip/gen2/p16gen.py) -/
noncomputable def dT530 : List ckI := [ckTop, (0, 1), (0, 1), ckTop, ckTop, ckTop, ckTop, ckTop, ckTop, ckTop, ckTop, ckTop, ckTop, ckTop, (0, 29), (0, 270), (0, 30), (0, 1), ckTop, (0, 1), (318, 318)]
noncomputable def dP531 : List (Nat × ckC) := [(0, .inl (9, [(4, 10), (1, 1), (4, 11), (4, 12), (4, 13), (4, 14), (4, 15), (4, 16), (4, 17), (4, 18), (4, 19), (4, 20), (4, 21), (4, 22), (4, 23), (4, 24), (0, 1), (0, 2), (0, 3), (0, 4), (0, 5), (0, 6), (0, 7), (4, 25), (0, 8), (4, 26), (0, 9), (0, 10), (0, 11), (0, 12), (4, 27), (0, 13), (0, 22), (0, 15), (0, 16), (4, 23), (1, 1), (0, 23), (4, 28), (4, 29), (0, 18), (0, 19)]))]
-- FarMachineModel.letter
noncomputable def k298 : ckCtr := (89, ([(0, (1, 0)), (1, (0, 0))], [], dC527, dT530, dG423, [], [], [(1, 0, 0, 0, [])], 0, 0), [([], [(0, 21)], dP531, [], [], [ckTop, (0, 30), (0, 1)], [], [], [(14, 22, 0), (22, 14, 1), (23, 17, 0), (23, 22, 0)], [(1, 0, 0, 0, [])], 0, 0)], 3, 122, 0, 0)
noncomputable def k298_a : ckAs := []
noncomputable def k298_c : List (Nat × ckCtr) := [(171, k248), (179, k249), (182, k106)]
theorem k298_ok (l : Launch) : ckCtrOk l ckMT ckTW ckCL k298 := mt_89 (as := k298_a) (cs := k298_c) (gx := []) (f := 200000) rfl (ckHc (k248_ok l) (ckHc (k249_ok l) (ckHc (k106_ok l) (fun _ h => absurd h List.not_mem_nil)))) True.intro (by decide +kernel)
noncomputable def dT532 : List ckI := [(0, 1), (0, 1), ckTop, ckTop, ckTop, ckTop, ckTop, ckTop, ckTop, ckTop, ckTop, ckTop, ckTop, (0, 29), (0, 270), (0, 30), (0, 1), ckTop, (0, 1), (300, 300)]
-- FarMachineModel.sign
noncomputable def k299 : ckCtr := (83, ([(0, (1, 0))], [], dC522, dT532, [([(300, ckTop)], [], [])], [], [], [], 0, 0), [([], [(0, 20)], [], [], [(15, (0, 29))], [(-1, -1)], [], [], [(15, 13, 0)], [], 0, 0), ([], [(0, 20)], [], [], [(15, (1, 30))], [ckTop], [], [], [(13, 15, (-1))], [], 0, 0)], 1, 80, 0, 0)
noncomputable def k299_a : ckAs := []
noncomputable def k299_c : List (Nat × ckCtr) := []
theorem k299_ok (l : Launch) : ckCtrOk l ckMT ckTW ckCL k299 := mt_83 (as := k299_a) (cs := k299_c) (gx := []) (f := 200000) rfl (fun _ h => absurd h List.not_mem_nil) True.intro (by decide +kernel)
noncomputable def dC533 : List ckC := [.inl (9, [(4, 10), (1, 1), (4, 11), (4, 12), (4, 13), (4, 14), (4, 15), (4, 16), (4, 17), (4, 18), (4, 19), (4, 20), (4, 21), (4, 22), (1, 2), (4, 23), (0, 0), (0, 1), (0, 2), (0, 3), (0, 4), (0, 5), (0, 6), (4, 24), (0, 7), (4, 25), (0, 8), (0, 9), (0, 10), (0, 11), (4, 26), (0, 12), (0, 13), (0, 14), (0, 15), (1, 2), (1, 1), (0, 16), (4, 27), (4, 28), (0, 17), (0, 18)]), .inr (0, 19, 0), .inr (0, 20, 1)]
noncomputable def dT534 : List ckI := [(0, 1), (0, 1), ckTop, ckTop, ckTop, ckTop, ckTop, ckTop, ckTop, ckTop, ckTop, ckTop, ckTop, (0, 30), (0, 270), (0, 30), (0, 1), ckTop, (0, 1), (318, 318), (300, 300)]
noncomputable def dG535 : List ckG := [([(48, ckTop), (49, (0, 47)), (55, ckTop), (56, ckTop), (58, ckTop), (59, ckTop), (76, ckTop), (77, (0, 30)), (197, ckTop), (198, (0, 60)), (318, ckTop)], [], []), ([(300, ckTop)], [], [])]
noncomputable def dP536 : List (Nat × ckC) := [(0, .inl (9, [(4, 10), (1, 1), (4, 11), (4, 12), (4, 13), (4, 14), (4, 15), (4, 16), (4, 17), (4, 18), (4, 19), (4, 20), (4, 21), (4, 22), (1, 2), (4, 23), (0, 0), (0, 1), (0, 2), (0, 3), (0, 4), (0, 5), (0, 6), (4, 24), (0, 7), (4, 25), (0, 8), (0, 9), (0, 10), (0, 11), (4, 26), (0, 12), (0, 22), (0, 14), (0, 15), (1, 2), (1, 1), (0, 23), (4, 27), (4, 28), (0, 17), (0, 18)]))]
noncomputable def dP537 : List (Nat × ckC) := [(0, .inl (9, [(4, 10), (1, 1), (4, 11), (4, 12), (4, 13), (4, 14), (4, 15), (4, 16), (4, 17), (4, 18), (4, 19), (4, 20), (4, 21), (4, 22), (1, 2), (4, 23), (0, 0), (0, 1), (0, 2), (0, 3), (0, 4), (0, 5), (0, 6), (4, 24), (0, 7), (4, 25), (0, 8), (0, 9), (0, 10), (0, 11), (4, 26), (0, 12), (0, 29), (0, 14), (0, 15), (1, 2), (1, 1), (0, 16), (4, 27), (4, 28), (0, 17), (0, 18)]))]
noncomputable def dP538 : List (Nat × ckC) := [(0, .inl (9, [(4, 10), (1, 1), (4, 11), (4, 12), (4, 13), (4, 14), (4, 15), (4, 16), (4, 17), (4, 18), (4, 19), (4, 20), (4, 21), (4, 22), (1, 2), (4, 23), (0, 0), (0, 1), (0, 2), (0, 3), (0, 4), (0, 5), (0, 6), (4, 24), (0, 7), (4, 25), (0, 8), (0, 9), (0, 10), (0, 11), (4, 26), (0, 12), (0, 30), (0, 14), (0, 15), (1, 2), (1, 1), (0, 16), (4, 27), (4, 28), (0, 17), (0, 18)]))]
-- FarMachineModel.unit
noncomputable def k300 : ckCtr := (88, ([(0, (1, 0))], [], dC533, dT534, dG535, [], [], [(1, 0, 0, 0, [])], 0, 0), [([], [(0, 21)], dP536, [], [], [ckTop, (0, 30), (0, 1)], [], [], [(13, 22, 0), (23, 15, 0), (23, 16, 0), (23, 22, 0)], [(1, 0, 0, 0, [])], 0, 0)], 4, 143, 0, 0)
noncomputable def k300_a : ckAs := [(53, [(262068, [(1, 0, 1, ([(0, (1, 0)), (1, (0, 21)), (2, (0, 27)), (3, (0, 28))], [], dP537, [], [], [ckTop, (0, 3), (0, 30)], [], [], dZ433, [(1, 0, 0, 0, [])], 0, 0))]), (316176, [(1, 0, 1, ([(0, (1, 0)), (1, (0, 21)), (2, (0, 28)), (3, (0, 29))], [], dP538, [], [], [ckTop, (0, 3), (1, 30)], [], [], dZ435, [(1, 0, 0, 0, [])], 0, 0))])])]
noncomputable def k300_c : List (Nat × ckCtr) := [(10, k295), (21, k246), (29, k297), (29, k298), (59, k295), (62, k246), (73, k299)]
theorem k300_ok (l : Launch) : ckCtrOk l ckMT ckTW ckCL k300 := mt_88 (as := k300_a) (cs := k300_c) (gx := []) (f := 200000) rfl (ckHc (k295_ok l) (ckHc (k246_ok l) (ckHc (k297_ok l) (ckHc (k298_ok l) (ckHc (k295_ok l) (ckHc (k246_ok l) (ckHc (k299_ok l) (fun _ h => absurd h List.not_mem_nil)))))))) True.intro (by decide +kernel)
noncomputable def dT539 : List ckI := [(0, 1), (0, 1), ckTop, ckTop, ckTop, ckTop, ckTop, ckTop, ckTop, ckTop, ckTop, ckTop, ckTop, (30, 30), (0, 270), (0, 30), (0, 1), ckTop, (0, 1), (318, 318), (300, 300)]
noncomputable def dP540 : List (Nat × ckC) := [(0, .inl (9, [(4, 10), (1, 1), (4, 11), (4, 12), (4, 13), (4, 14), (4, 15), (4, 16), (4, 17), (4, 18), (4, 19), (4, 20), (4, 21), (4, 22), (1, 2), (4, 23), (0, 0), (0, 1), (0, 2), (0, 3), (0, 4), (0, 5), (0, 6), (4, 24), (0, 7), (4, 25), (0, 8), (0, 9), (0, 10), (0, 11), (4, 26), (0, 12), (0, 13), (0, 14), (0, 15), (1, 2), (1, 1), (0, 21), (4, 27), (4, 28), (0, 17), (0, 18)]))]
-- FarMachineModel.test
noncomputable def k301 : ckCtr := (86, ([(0, (1, 0))], [], dC533, dT539, dG535, [], [], [(1, 0, 0, 0, [])], 0, 0), [([], [(0, 21)], dP540, [], [], [(0, 0)], [], [], [], [(1, 0, 0, 0, [])], 0, 0)], 5, 166, 0, 0)
noncomputable def k301_a : ckAs := []
noncomputable def k301_c : List (Nat × ckCtr) := [(3, k296), (23, k300), (28, k295)]
theorem k301_ok (l : Launch) : ckCtrOk l ckMT ckTW ckCL k301 := mt_86 (as := k301_a) (cs := k301_c) (gx := []) (f := 200000) rfl (ckHc (k296_ok l) (ckHc (k300_ok l) (ckHc (k295_ok l) (fun _ h => absurd h List.not_mem_nil)))) True.intro (by decide +kernel)
noncomputable def dT541 : List ckI := [(0, 1), (0, 1), ckTop, ckTop, ckTop, ckTop, ckTop, ckTop, ckTop, ckTop, ckTop, ckTop, ckTop, (29, 30), (0, 270), (0, 30), (0, 1), ckTop, (0, 1), (318, 318), (300, 300)]
-- FarMachineModel.test
noncomputable def k302 : ckCtr := (86, ([(0, (1, 0))], [], dC533, dT541, dG535, [], [], [(1, 0, 0, 0, [])], 0, 0), [([], [(0, 21)], dP536, [], [], [(0, 1), (29, 30), (0, 1)], [], [], dZ439, [(1, 0, 0, 0, [])], 0, 0)], 6, 189, 0, 0)
noncomputable def k302_a : ckAs := []
noncomputable def k302_c : List (Nat × ckCtr) := [(3, k296), (10, k301), (23, k300), (28, k295), (75, k300)]
theorem k302_ok (l : Launch) : ckCtrOk l ckMT ckTW ckCL k302 := mt_86 (as := k302_a) (cs := k302_c) (gx := []) (f := 200000) rfl (ckHc (k296_ok l) (ckHc (k301_ok l) (ckHc (k300_ok l) (ckHc (k295_ok l) (ckHc (k300_ok l) (fun _ h => absurd h List.not_mem_nil)))))) True.intro (by decide +kernel)
noncomputable def dT542 : List ckI := [(0, 1), (0, 1), ckTop, ckTop, ckTop, ckTop, ckTop, ckTop, ckTop, ckTop, ckTop, ckTop, ckTop, (28, 30), (0, 270), (0, 30), (0, 1), ckTop, (0, 1), (318, 318), (300, 300)]
-- FarMachineModel.test
noncomputable def k303 : ckCtr := (86, ([(0, (1, 0))], [], dC533, dT542, dG535, [], [], [(1, 0, 0, 0, [])], 0, 0), [([], [(0, 21)], dP536, [], [], [(0, 1), (28, 30), (0, 1)], [], [], dZ441, [(1, 0, 0, 0, [])], 0, 0)], 7, 212, 0, 0)
noncomputable def k303_a : ckAs := []
noncomputable def k303_c : List (Nat × ckCtr) := [(3, k296), (10, k302), (23, k300), (28, k295), (75, k300)]
theorem k303_ok (l : Launch) : ckCtrOk l ckMT ckTW ckCL k303 := mt_86 (as := k303_a) (cs := k303_c) (gx := []) (f := 200000) rfl (ckHc (k296_ok l) (ckHc (k302_ok l) (ckHc (k300_ok l) (ckHc (k295_ok l) (ckHc (k300_ok l) (fun _ h => absurd h List.not_mem_nil)))))) True.intro (by decide +kernel)
noncomputable def dT543 : List ckI := [(0, 1), (0, 1), ckTop, ckTop, ckTop, ckTop, ckTop, ckTop, ckTop, ckTop, ckTop, ckTop, ckTop, (27, 30), (0, 270), (0, 30), (0, 1), ckTop, (0, 1), (318, 318), (300, 300)]
-- FarMachineModel.test
noncomputable def k304 : ckCtr := (86, ([(0, (1, 0))], [], dC533, dT543, dG535, [], [], [(1, 0, 0, 0, [])], 0, 0), [([], [(0, 21)], dP536, [], [], [(0, 1), (27, 30), (0, 1)], [], [], dZ443, [(1, 0, 0, 0, [])], 0, 0)], 8, 235, 0, 0)
noncomputable def k304_a : ckAs := []
noncomputable def k304_c : List (Nat × ckCtr) := [(3, k296), (10, k303), (23, k300), (28, k295), (75, k300)]
theorem k304_ok (l : Launch) : ckCtrOk l ckMT ckTW ckCL k304 := mt_86 (as := k304_a) (cs := k304_c) (gx := []) (f := 200000) rfl (ckHc (k296_ok l) (ckHc (k303_ok l) (ckHc (k300_ok l) (ckHc (k295_ok l) (ckHc (k300_ok l) (fun _ h => absurd h List.not_mem_nil)))))) True.intro (by decide +kernel)
noncomputable def dT544 : List ckI := [(0, 1), (0, 1), ckTop, ckTop, ckTop, ckTop, ckTop, ckTop, ckTop, ckTop, ckTop, ckTop, ckTop, (26, 30), (0, 270), (0, 30), (0, 1), ckTop, (0, 1), (318, 318), (300, 300)]
-- FarMachineModel.test
noncomputable def k305 : ckCtr := (86, ([(0, (1, 0))], [], dC533, dT544, dG535, [], [], [(1, 0, 0, 0, [])], 0, 0), [([], [(0, 21)], dP536, [], [], [(0, 1), (26, 30), (0, 1)], [], [], dZ445, [(1, 0, 0, 0, [])], 0, 0)], 9, 258, 0, 0)
noncomputable def k305_a : ckAs := []
noncomputable def k305_c : List (Nat × ckCtr) := [(3, k296), (10, k304), (23, k300), (28, k295), (75, k300)]
theorem k305_ok (l : Launch) : ckCtrOk l ckMT ckTW ckCL k305 := mt_86 (as := k305_a) (cs := k305_c) (gx := []) (f := 200000) rfl (ckHc (k296_ok l) (ckHc (k304_ok l) (ckHc (k300_ok l) (ckHc (k295_ok l) (ckHc (k300_ok l) (fun _ h => absurd h List.not_mem_nil)))))) True.intro (by decide +kernel)
noncomputable def dT545 : List ckI := [(0, 1), (0, 1), ckTop, ckTop, ckTop, ckTop, ckTop, ckTop, ckTop, ckTop, ckTop, ckTop, ckTop, (25, 30), (0, 270), (0, 30), (0, 1), ckTop, (0, 1), (318, 318), (300, 300)]
-- FarMachineModel.test
noncomputable def k306 : ckCtr := (86, ([(0, (1, 0))], [], dC533, dT545, dG535, [], [], [(1, 0, 0, 0, [])], 0, 0), [([], [(0, 21)], dP536, [], [], [(0, 1), (25, 30), (0, 1)], [], [], dZ447, [(1, 0, 0, 0, [])], 0, 0)], 10, 281, 0, 0)
noncomputable def k306_a : ckAs := []
noncomputable def k306_c : List (Nat × ckCtr) := [(3, k296), (10, k305), (23, k300), (28, k295), (75, k300)]
theorem k306_ok (l : Launch) : ckCtrOk l ckMT ckTW ckCL k306 := mt_86 (as := k306_a) (cs := k306_c) (gx := []) (f := 200000) rfl (ckHc (k296_ok l) (ckHc (k305_ok l) (ckHc (k300_ok l) (ckHc (k295_ok l) (ckHc (k300_ok l) (fun _ h => absurd h List.not_mem_nil)))))) True.intro (by decide +kernel)
noncomputable def dT546 : List ckI := [(0, 1), (0, 1), ckTop, ckTop, ckTop, ckTop, ckTop, ckTop, ckTop, ckTop, ckTop, ckTop, ckTop, (24, 30), (0, 270), (0, 30), (0, 1), ckTop, (0, 1), (318, 318), (300, 300)]
-- FarMachineModel.test
noncomputable def k307 : ckCtr := (86, ([(0, (1, 0))], [], dC533, dT546, dG535, [], [], [(1, 0, 0, 0, [])], 0, 0), [([], [(0, 21)], dP536, [], [], [(0, 1), (24, 30), (0, 1)], [], [], dZ449, [(1, 0, 0, 0, [])], 0, 0)], 11, 304, 0, 0)
noncomputable def k307_a : ckAs := []
noncomputable def k307_c : List (Nat × ckCtr) := [(3, k296), (10, k306), (23, k300), (28, k295), (75, k300)]
theorem k307_ok (l : Launch) : ckCtrOk l ckMT ckTW ckCL k307 := mt_86 (as := k307_a) (cs := k307_c) (gx := []) (f := 200000) rfl (ckHc (k296_ok l) (ckHc (k306_ok l) (ckHc (k300_ok l) (ckHc (k295_ok l) (ckHc (k300_ok l) (fun _ h => absurd h List.not_mem_nil)))))) True.intro (by decide +kernel)
noncomputable def dT547 : List ckI := [(0, 1), (0, 1), ckTop, ckTop, ckTop, ckTop, ckTop, ckTop, ckTop, ckTop, ckTop, ckTop, ckTop, (23, 30), (0, 270), (0, 30), (0, 1), ckTop, (0, 1), (318, 318), (300, 300)]
-- FarMachineModel.test
noncomputable def k308 : ckCtr := (86, ([(0, (1, 0))], [], dC533, dT547, dG535, [], [], [(1, 0, 0, 0, [])], 0, 0), [([], [(0, 21)], dP536, [], [], [(0, 1), (23, 30), (0, 1)], [], [], dZ451, [(1, 0, 0, 0, [])], 0, 0)], 12, 327, 0, 0)
noncomputable def k308_a : ckAs := []
noncomputable def k308_c : List (Nat × ckCtr) := [(3, k296), (10, k307), (23, k300), (28, k295), (75, k300)]
theorem k308_ok (l : Launch) : ckCtrOk l ckMT ckTW ckCL k308 := mt_86 (as := k308_a) (cs := k308_c) (gx := []) (f := 200000) rfl (ckHc (k296_ok l) (ckHc (k307_ok l) (ckHc (k300_ok l) (ckHc (k295_ok l) (ckHc (k300_ok l) (fun _ h => absurd h List.not_mem_nil)))))) True.intro (by decide +kernel)
noncomputable def dT548 : List ckI := [(0, 1), (0, 1), ckTop, ckTop, ckTop, ckTop, ckTop, ckTop, ckTop, ckTop, ckTop, ckTop, ckTop, (22, 30), (0, 270), (0, 30), (0, 1), ckTop, (0, 1), (318, 318), (300, 300)]
-- FarMachineModel.test
noncomputable def k309 : ckCtr := (86, ([(0, (1, 0))], [], dC533, dT548, dG535, [], [], [(1, 0, 0, 0, [])], 0, 0), [([], [(0, 21)], dP536, [], [], [(0, 1), (22, 30), (0, 1)], [], [], dZ453, [(1, 0, 0, 0, [])], 0, 0)], 13, 350, 0, 0)
noncomputable def k309_a : ckAs := []
noncomputable def k309_c : List (Nat × ckCtr) := [(3, k296), (10, k308), (23, k300), (28, k295), (75, k300)]
theorem k309_ok (l : Launch) : ckCtrOk l ckMT ckTW ckCL k309 := mt_86 (as := k309_a) (cs := k309_c) (gx := []) (f := 200000) rfl (ckHc (k296_ok l) (ckHc (k308_ok l) (ckHc (k300_ok l) (ckHc (k295_ok l) (ckHc (k300_ok l) (fun _ h => absurd h List.not_mem_nil)))))) True.intro (by decide +kernel)
noncomputable def dT549 : List ckI := [(0, 1), (0, 1), ckTop, ckTop, ckTop, ckTop, ckTop, ckTop, ckTop, ckTop, ckTop, ckTop, ckTop, (21, 30), (0, 270), (0, 30), (0, 1), ckTop, (0, 1), (318, 318), (300, 300)]
-- FarMachineModel.test
noncomputable def k310 : ckCtr := (86, ([(0, (1, 0))], [], dC533, dT549, dG535, [], [], [(1, 0, 0, 0, [])], 0, 0), [([], [(0, 21)], dP536, [], [], [(0, 1), (21, 30), (0, 1)], [], [], dZ455, [(1, 0, 0, 0, [])], 0, 0)], 14, 373, 0, 0)
noncomputable def k310_a : ckAs := []
noncomputable def k310_c : List (Nat × ckCtr) := [(3, k296), (10, k309), (23, k300), (28, k295), (75, k300)]
theorem k310_ok (l : Launch) : ckCtrOk l ckMT ckTW ckCL k310 := mt_86 (as := k310_a) (cs := k310_c) (gx := []) (f := 200000) rfl (ckHc (k296_ok l) (ckHc (k309_ok l) (ckHc (k300_ok l) (ckHc (k295_ok l) (ckHc (k300_ok l) (fun _ h => absurd h List.not_mem_nil)))))) True.intro (by decide +kernel)
noncomputable def dT550 : List ckI := [(0, 1), (0, 1), ckTop, ckTop, ckTop, ckTop, ckTop, ckTop, ckTop, ckTop, ckTop, ckTop, ckTop, (20, 30), (0, 270), (0, 30), (0, 1), ckTop, (0, 1), (318, 318), (300, 300)]
-- FarMachineModel.test
noncomputable def k311 : ckCtr := (86, ([(0, (1, 0))], [], dC533, dT550, dG535, [], [], [(1, 0, 0, 0, [])], 0, 0), [([], [(0, 21)], dP536, [], [], [(0, 1), (20, 30), (0, 1)], [], [], dZ457, [(1, 0, 0, 0, [])], 0, 0)], 15, 396, 0, 0)
noncomputable def k311_a : ckAs := []
noncomputable def k311_c : List (Nat × ckCtr) := [(3, k296), (10, k310), (23, k300), (28, k295), (75, k300)]
theorem k311_ok (l : Launch) : ckCtrOk l ckMT ckTW ckCL k311 := mt_86 (as := k311_a) (cs := k311_c) (gx := []) (f := 200000) rfl (ckHc (k296_ok l) (ckHc (k310_ok l) (ckHc (k300_ok l) (ckHc (k295_ok l) (ckHc (k300_ok l) (fun _ h => absurd h List.not_mem_nil)))))) True.intro (by decide +kernel)
noncomputable def dT551 : List ckI := [(0, 1), (0, 1), ckTop, ckTop, ckTop, ckTop, ckTop, ckTop, ckTop, ckTop, ckTop, ckTop, ckTop, (19, 30), (0, 270), (0, 30), (0, 1), ckTop, (0, 1), (318, 318), (300, 300)]
-- FarMachineModel.test
noncomputable def k312 : ckCtr := (86, ([(0, (1, 0))], [], dC533, dT551, dG535, [], [], [(1, 0, 0, 0, [])], 0, 0), [([], [(0, 21)], dP536, [], [], [(0, 1), (19, 30), (0, 1)], [], [], dZ459, [(1, 0, 0, 0, [])], 0, 0)], 16, 419, 0, 0)
noncomputable def k312_a : ckAs := []
noncomputable def k312_c : List (Nat × ckCtr) := [(3, k296), (10, k311), (23, k300), (28, k295), (75, k300)]
theorem k312_ok (l : Launch) : ckCtrOk l ckMT ckTW ckCL k312 := mt_86 (as := k312_a) (cs := k312_c) (gx := []) (f := 200000) rfl (ckHc (k296_ok l) (ckHc (k311_ok l) (ckHc (k300_ok l) (ckHc (k295_ok l) (ckHc (k300_ok l) (fun _ h => absurd h List.not_mem_nil)))))) True.intro (by decide +kernel)
noncomputable def dT552 : List ckI := [(0, 1), (0, 1), ckTop, ckTop, ckTop, ckTop, ckTop, ckTop, ckTop, ckTop, ckTop, ckTop, ckTop, (18, 30), (0, 270), (0, 30), (0, 1), ckTop, (0, 1), (318, 318), (300, 300)]
-- FarMachineModel.test
noncomputable def k313 : ckCtr := (86, ([(0, (1, 0))], [], dC533, dT552, dG535, [], [], [(1, 0, 0, 0, [])], 0, 0), [([], [(0, 21)], dP536, [], [], [(0, 1), (18, 30), (0, 1)], [], [], dZ461, [(1, 0, 0, 0, [])], 0, 0)], 17, 442, 0, 0)
noncomputable def k313_a : ckAs := []
noncomputable def k313_c : List (Nat × ckCtr) := [(3, k296), (10, k312), (23, k300), (28, k295), (75, k300)]
theorem k313_ok (l : Launch) : ckCtrOk l ckMT ckTW ckCL k313 := mt_86 (as := k313_a) (cs := k313_c) (gx := []) (f := 200000) rfl (ckHc (k296_ok l) (ckHc (k312_ok l) (ckHc (k300_ok l) (ckHc (k295_ok l) (ckHc (k300_ok l) (fun _ h => absurd h List.not_mem_nil)))))) True.intro (by decide +kernel)
noncomputable def dT553 : List ckI := [(0, 1), (0, 1), ckTop, ckTop, ckTop, ckTop, ckTop, ckTop, ckTop, ckTop, ckTop, ckTop, ckTop, (17, 30), (0, 270), (0, 30), (0, 1), ckTop, (0, 1), (318, 318), (300, 300)]
-- FarMachineModel.test
noncomputable def k314 : ckCtr := (86, ([(0, (1, 0))], [], dC533, dT553, dG535, [], [], [(1, 0, 0, 0, [])], 0, 0), [([], [(0, 21)], dP536, [], [], [(0, 1), (17, 30), (0, 1)], [], [], dZ463, [(1, 0, 0, 0, [])], 0, 0)], 18, 465, 0, 0)
noncomputable def k314_a : ckAs := []
noncomputable def k314_c : List (Nat × ckCtr) := [(3, k296), (10, k313), (23, k300), (28, k295), (75, k300)]
theorem k314_ok (l : Launch) : ckCtrOk l ckMT ckTW ckCL k314 := mt_86 (as := k314_a) (cs := k314_c) (gx := []) (f := 200000) rfl (ckHc (k296_ok l) (ckHc (k313_ok l) (ckHc (k300_ok l) (ckHc (k295_ok l) (ckHc (k300_ok l) (fun _ h => absurd h List.not_mem_nil)))))) True.intro (by decide +kernel)
noncomputable def dT554 : List ckI := [(0, 1), (0, 1), ckTop, ckTop, ckTop, ckTop, ckTop, ckTop, ckTop, ckTop, ckTop, ckTop, ckTop, (16, 30), (0, 270), (0, 30), (0, 1), ckTop, (0, 1), (318, 318), (300, 300)]
-- FarMachineModel.test
noncomputable def k315 : ckCtr := (86, ([(0, (1, 0))], [], dC533, dT554, dG535, [], [], [(1, 0, 0, 0, [])], 0, 0), [([], [(0, 21)], dP536, [], [], [(0, 1), (16, 30), (0, 1)], [], [], dZ465, [(1, 0, 0, 0, [])], 0, 0)], 19, 488, 0, 0)
noncomputable def k315_a : ckAs := []
noncomputable def k315_c : List (Nat × ckCtr) := [(3, k296), (10, k314), (23, k300), (28, k295), (75, k300)]
theorem k315_ok (l : Launch) : ckCtrOk l ckMT ckTW ckCL k315 := mt_86 (as := k315_a) (cs := k315_c) (gx := []) (f := 200000) rfl (ckHc (k296_ok l) (ckHc (k314_ok l) (ckHc (k300_ok l) (ckHc (k295_ok l) (ckHc (k300_ok l) (fun _ h => absurd h List.not_mem_nil)))))) True.intro (by decide +kernel)
noncomputable def dT555 : List ckI := [(0, 1), (0, 1), ckTop, ckTop, ckTop, ckTop, ckTop, ckTop, ckTop, ckTop, ckTop, ckTop, ckTop, (15, 30), (0, 270), (0, 30), (0, 1), ckTop, (0, 1), (318, 318), (300, 300)]
-- FarMachineModel.test
noncomputable def k316 : ckCtr := (86, ([(0, (1, 0))], [], dC533, dT555, dG535, [], [], [(1, 0, 0, 0, [])], 0, 0), [([], [(0, 21)], dP536, [], [], [(0, 1), (15, 30), (0, 1)], [], [], dZ467, [(1, 0, 0, 0, [])], 0, 0)], 20, 511, 0, 0)
noncomputable def k316_a : ckAs := []
noncomputable def k316_c : List (Nat × ckCtr) := [(3, k296), (10, k315), (23, k300), (28, k295), (75, k300)]
theorem k316_ok (l : Launch) : ckCtrOk l ckMT ckTW ckCL k316 := mt_86 (as := k316_a) (cs := k316_c) (gx := []) (f := 200000) rfl (ckHc (k296_ok l) (ckHc (k315_ok l) (ckHc (k300_ok l) (ckHc (k295_ok l) (ckHc (k300_ok l) (fun _ h => absurd h List.not_mem_nil)))))) True.intro (by decide +kernel)
noncomputable def dT556 : List ckI := [(0, 1), (0, 1), ckTop, ckTop, ckTop, ckTop, ckTop, ckTop, ckTop, ckTop, ckTop, ckTop, ckTop, (14, 30), (0, 270), (0, 30), (0, 1), ckTop, (0, 1), (318, 318), (300, 300)]
-- FarMachineModel.test
noncomputable def k317 : ckCtr := (86, ([(0, (1, 0))], [], dC533, dT556, dG535, [], [], [(1, 0, 0, 0, [])], 0, 0), [([], [(0, 21)], dP536, [], [], [(0, 1), (14, 30), (0, 1)], [], [], dZ469, [(1, 0, 0, 0, [])], 0, 0)], 21, 534, 0, 0)
noncomputable def k317_a : ckAs := []
noncomputable def k317_c : List (Nat × ckCtr) := [(3, k296), (10, k316), (23, k300), (28, k295), (75, k300)]
theorem k317_ok (l : Launch) : ckCtrOk l ckMT ckTW ckCL k317 := mt_86 (as := k317_a) (cs := k317_c) (gx := []) (f := 200000) rfl (ckHc (k296_ok l) (ckHc (k316_ok l) (ckHc (k300_ok l) (ckHc (k295_ok l) (ckHc (k300_ok l) (fun _ h => absurd h List.not_mem_nil)))))) True.intro (by decide +kernel)
noncomputable def dT557 : List ckI := [(0, 1), (0, 1), ckTop, ckTop, ckTop, ckTop, ckTop, ckTop, ckTop, ckTop, ckTop, ckTop, ckTop, (13, 30), (0, 270), (0, 30), (0, 1), ckTop, (0, 1), (318, 318), (300, 300)]
-- FarMachineModel.test
noncomputable def k318 : ckCtr := (86, ([(0, (1, 0))], [], dC533, dT557, dG535, [], [], [(1, 0, 0, 0, [])], 0, 0), [([], [(0, 21)], dP536, [], [], [(0, 1), (13, 30), (0, 1)], [], [], dZ471, [(1, 0, 0, 0, [])], 0, 0)], 22, 557, 0, 0)
noncomputable def k318_a : ckAs := []
noncomputable def k318_c : List (Nat × ckCtr) := [(3, k296), (10, k317), (23, k300), (28, k295), (75, k300)]
theorem k318_ok (l : Launch) : ckCtrOk l ckMT ckTW ckCL k318 := mt_86 (as := k318_a) (cs := k318_c) (gx := []) (f := 200000) rfl (ckHc (k296_ok l) (ckHc (k317_ok l) (ckHc (k300_ok l) (ckHc (k295_ok l) (ckHc (k300_ok l) (fun _ h => absurd h List.not_mem_nil)))))) True.intro (by decide +kernel)
noncomputable def dT558 : List ckI := [(0, 1), (0, 1), ckTop, ckTop, ckTop, ckTop, ckTop, ckTop, ckTop, ckTop, ckTop, ckTop, ckTop, (12, 30), (0, 270), (0, 30), (0, 1), ckTop, (0, 1), (318, 318), (300, 300)]
-- FarMachineModel.test
noncomputable def k319 : ckCtr := (86, ([(0, (1, 0))], [], dC533, dT558, dG535, [], [], [(1, 0, 0, 0, [])], 0, 0), [([], [(0, 21)], dP536, [], [], [(0, 1), (12, 30), (0, 1)], [], [], dZ473, [(1, 0, 0, 0, [])], 0, 0)], 23, 580, 0, 0)
noncomputable def k319_a : ckAs := []
noncomputable def k319_c : List (Nat × ckCtr) := [(3, k296), (10, k318), (23, k300), (28, k295), (75, k300)]
theorem k319_ok (l : Launch) : ckCtrOk l ckMT ckTW ckCL k319 := mt_86 (as := k319_a) (cs := k319_c) (gx := []) (f := 200000) rfl (ckHc (k296_ok l) (ckHc (k318_ok l) (ckHc (k300_ok l) (ckHc (k295_ok l) (ckHc (k300_ok l) (fun _ h => absurd h List.not_mem_nil)))))) True.intro (by decide +kernel)
noncomputable def dT559 : List ckI := [(0, 1), (0, 1), ckTop, ckTop, ckTop, ckTop, ckTop, ckTop, ckTop, ckTop, ckTop, ckTop, ckTop, (11, 30), (0, 270), (0, 30), (0, 1), ckTop, (0, 1), (318, 318), (300, 300)]
-- FarMachineModel.test
noncomputable def k320 : ckCtr := (86, ([(0, (1, 0))], [], dC533, dT559, dG535, [], [], [(1, 0, 0, 0, [])], 0, 0), [([], [(0, 21)], dP536, [], [], [(0, 1), (11, 30), (0, 1)], [], [], dZ475, [(1, 0, 0, 0, [])], 0, 0)], 24, 603, 0, 0)
noncomputable def k320_a : ckAs := []
noncomputable def k320_c : List (Nat × ckCtr) := [(3, k296), (10, k319), (23, k300), (28, k295), (75, k300)]
theorem k320_ok (l : Launch) : ckCtrOk l ckMT ckTW ckCL k320 := mt_86 (as := k320_a) (cs := k320_c) (gx := []) (f := 200000) rfl (ckHc (k296_ok l) (ckHc (k319_ok l) (ckHc (k300_ok l) (ckHc (k295_ok l) (ckHc (k300_ok l) (fun _ h => absurd h List.not_mem_nil)))))) True.intro (by decide +kernel)
noncomputable def dT560 : List ckI := [(0, 1), (0, 1), ckTop, ckTop, ckTop, ckTop, ckTop, ckTop, ckTop, ckTop, ckTop, ckTop, ckTop, (10, 30), (0, 270), (0, 30), (0, 1), ckTop, (0, 1), (318, 318), (300, 300)]
-- FarMachineModel.test
noncomputable def k321 : ckCtr := (86, ([(0, (1, 0))], [], dC533, dT560, dG535, [], [], [(1, 0, 0, 0, [])], 0, 0), [([], [(0, 21)], dP536, [], [], [(0, 1), (10, 30), (0, 1)], [], [], dZ477, [(1, 0, 0, 0, [])], 0, 0)], 25, 626, 0, 0)
noncomputable def k321_a : ckAs := []
noncomputable def k321_c : List (Nat × ckCtr) := [(3, k296), (10, k320), (23, k300), (28, k295), (75, k300)]
theorem k321_ok (l : Launch) : ckCtrOk l ckMT ckTW ckCL k321 := mt_86 (as := k321_a) (cs := k321_c) (gx := []) (f := 200000) rfl (ckHc (k296_ok l) (ckHc (k320_ok l) (ckHc (k300_ok l) (ckHc (k295_ok l) (ckHc (k300_ok l) (fun _ h => absurd h List.not_mem_nil)))))) True.intro (by decide +kernel)
noncomputable def dT561 : List ckI := [(0, 1), (0, 1), ckTop, ckTop, ckTop, ckTop, ckTop, ckTop, ckTop, ckTop, ckTop, ckTop, ckTop, (9, 30), (0, 270), (0, 30), (0, 1), ckTop, (0, 1), (318, 318), (300, 300)]
-- FarMachineModel.test
noncomputable def k322 : ckCtr := (86, ([(0, (1, 0))], [], dC533, dT561, dG535, [], [], [(1, 0, 0, 0, [])], 0, 0), [([], [(0, 21)], dP536, [], [], [(0, 1), (9, 30), (0, 1)], [], [], dZ479, [(1, 0, 0, 0, [])], 0, 0)], 26, 649, 0, 0)
noncomputable def k322_a : ckAs := []
noncomputable def k322_c : List (Nat × ckCtr) := [(3, k296), (10, k321), (23, k300), (28, k295), (75, k300)]
theorem k322_ok (l : Launch) : ckCtrOk l ckMT ckTW ckCL k322 := mt_86 (as := k322_a) (cs := k322_c) (gx := []) (f := 200000) rfl (ckHc (k296_ok l) (ckHc (k321_ok l) (ckHc (k300_ok l) (ckHc (k295_ok l) (ckHc (k300_ok l) (fun _ h => absurd h List.not_mem_nil)))))) True.intro (by decide +kernel)
noncomputable def dT562 : List ckI := [(0, 1), (0, 1), ckTop, ckTop, ckTop, ckTop, ckTop, ckTop, ckTop, ckTop, ckTop, ckTop, ckTop, (8, 30), (0, 270), (0, 30), (0, 1), ckTop, (0, 1), (318, 318), (300, 300)]
-- FarMachineModel.test
noncomputable def k323 : ckCtr := (86, ([(0, (1, 0))], [], dC533, dT562, dG535, [], [], [(1, 0, 0, 0, [])], 0, 0), [([], [(0, 21)], dP536, [], [], [(0, 1), (8, 30), (0, 1)], [], [], dZ481, [(1, 0, 0, 0, [])], 0, 0)], 27, 672, 0, 0)
noncomputable def k323_a : ckAs := []
noncomputable def k323_c : List (Nat × ckCtr) := [(3, k296), (10, k322), (23, k300), (28, k295), (75, k300)]
theorem k323_ok (l : Launch) : ckCtrOk l ckMT ckTW ckCL k323 := mt_86 (as := k323_a) (cs := k323_c) (gx := []) (f := 200000) rfl (ckHc (k296_ok l) (ckHc (k322_ok l) (ckHc (k300_ok l) (ckHc (k295_ok l) (ckHc (k300_ok l) (fun _ h => absurd h List.not_mem_nil)))))) True.intro (by decide +kernel)
noncomputable def dT563 : List ckI := [(0, 1), (0, 1), ckTop, ckTop, ckTop, ckTop, ckTop, ckTop, ckTop, ckTop, ckTop, ckTop, ckTop, (7, 30), (0, 270), (0, 30), (0, 1), ckTop, (0, 1), (318, 318), (300, 300)]
-- FarMachineModel.test
noncomputable def k324 : ckCtr := (86, ([(0, (1, 0))], [], dC533, dT563, dG535, [], [], [(1, 0, 0, 0, [])], 0, 0), [([], [(0, 21)], dP536, [], [], [(0, 1), (7, 30), (0, 1)], [], [], dZ483, [(1, 0, 0, 0, [])], 0, 0)], 28, 695, 0, 0)
noncomputable def k324_a : ckAs := []
noncomputable def k324_c : List (Nat × ckCtr) := [(3, k296), (10, k323), (23, k300), (28, k295), (75, k300)]
theorem k324_ok (l : Launch) : ckCtrOk l ckMT ckTW ckCL k324 := mt_86 (as := k324_a) (cs := k324_c) (gx := []) (f := 200000) rfl (ckHc (k296_ok l) (ckHc (k323_ok l) (ckHc (k300_ok l) (ckHc (k295_ok l) (ckHc (k300_ok l) (fun _ h => absurd h List.not_mem_nil)))))) True.intro (by decide +kernel)
noncomputable def dT564 : List ckI := [(0, 1), (0, 1), ckTop, ckTop, ckTop, ckTop, ckTop, ckTop, ckTop, ckTop, ckTop, ckTop, ckTop, (6, 30), (0, 270), (0, 30), (0, 1), ckTop, (0, 1), (318, 318), (300, 300)]
-- FarMachineModel.test
noncomputable def k325 : ckCtr := (86, ([(0, (1, 0))], [], dC533, dT564, dG535, [], [], [(1, 0, 0, 0, [])], 0, 0), [([], [(0, 21)], dP536, [], [], [(0, 1), (6, 30), (0, 1)], [], [], dZ485, [(1, 0, 0, 0, [])], 0, 0)], 29, 718, 0, 0)
noncomputable def k325_a : ckAs := []
noncomputable def k325_c : List (Nat × ckCtr) := [(3, k296), (10, k324), (23, k300), (28, k295), (75, k300)]
theorem k325_ok (l : Launch) : ckCtrOk l ckMT ckTW ckCL k325 := mt_86 (as := k325_a) (cs := k325_c) (gx := []) (f := 200000) rfl (ckHc (k296_ok l) (ckHc (k324_ok l) (ckHc (k300_ok l) (ckHc (k295_ok l) (ckHc (k300_ok l) (fun _ h => absurd h List.not_mem_nil)))))) True.intro (by decide +kernel)
noncomputable def dT565 : List ckI := [(0, 1), (0, 1), ckTop, ckTop, ckTop, ckTop, ckTop, ckTop, ckTop, ckTop, ckTop, ckTop, ckTop, (5, 30), (0, 270), (0, 30), (0, 1), ckTop, (0, 1), (318, 318), (300, 300)]
-- FarMachineModel.test
noncomputable def k326 : ckCtr := (86, ([(0, (1, 0))], [], dC533, dT565, dG535, [], [], [(1, 0, 0, 0, [])], 0, 0), [([], [(0, 21)], dP536, [], [], [(0, 1), (5, 30), (0, 1)], [], [], dZ487, [(1, 0, 0, 0, [])], 0, 0)], 30, 741, 0, 0)
noncomputable def k326_a : ckAs := []
noncomputable def k326_c : List (Nat × ckCtr) := [(3, k296), (10, k325), (23, k300), (28, k295), (75, k300)]
theorem k326_ok (l : Launch) : ckCtrOk l ckMT ckTW ckCL k326 := mt_86 (as := k326_a) (cs := k326_c) (gx := []) (f := 200000) rfl (ckHc (k296_ok l) (ckHc (k325_ok l) (ckHc (k300_ok l) (ckHc (k295_ok l) (ckHc (k300_ok l) (fun _ h => absurd h List.not_mem_nil)))))) True.intro (by decide +kernel)
noncomputable def dT566 : List ckI := [(0, 1), (0, 1), ckTop, ckTop, ckTop, ckTop, ckTop, ckTop, ckTop, ckTop, ckTop, ckTop, ckTop, (4, 30), (0, 270), (0, 30), (0, 1), ckTop, (0, 1), (318, 318), (300, 300)]
-- FarMachineModel.test
noncomputable def k327 : ckCtr := (86, ([(0, (1, 0))], [], dC533, dT566, dG535, [], [], [(1, 0, 0, 0, [])], 0, 0), [([], [(0, 21)], dP536, [], [], [(0, 1), (4, 30), (0, 1)], [], [], dZ489, [(1, 0, 0, 0, [])], 0, 0)], 31, 764, 0, 0)
noncomputable def k327_a : ckAs := []
noncomputable def k327_c : List (Nat × ckCtr) := [(3, k296), (10, k326), (23, k300), (28, k295), (75, k300)]
theorem k327_ok (l : Launch) : ckCtrOk l ckMT ckTW ckCL k327 := mt_86 (as := k327_a) (cs := k327_c) (gx := []) (f := 200000) rfl (ckHc (k296_ok l) (ckHc (k326_ok l) (ckHc (k300_ok l) (ckHc (k295_ok l) (ckHc (k300_ok l) (fun _ h => absurd h List.not_mem_nil)))))) True.intro (by decide +kernel)
noncomputable def dT567 : List ckI := [(0, 1), (0, 1), ckTop, ckTop, ckTop, ckTop, ckTop, ckTop, ckTop, ckTop, ckTop, ckTop, ckTop, (3, 30), (0, 270), (0, 30), (0, 1), ckTop, (0, 1), (318, 318), (300, 300)]
-- FarMachineModel.test
noncomputable def k328 : ckCtr := (86, ([(0, (1, 0))], [], dC533, dT567, dG535, [], [], [(1, 0, 0, 0, [])], 0, 0), [([], [(0, 21)], dP536, [], [], [(0, 1), (3, 30), (0, 1)], [], [], dZ491, [(1, 0, 0, 0, [])], 0, 0)], 32, 787, 0, 0)
noncomputable def k328_a : ckAs := []
noncomputable def k328_c : List (Nat × ckCtr) := [(3, k296), (10, k327), (23, k300), (28, k295), (75, k300)]
theorem k328_ok (l : Launch) : ckCtrOk l ckMT ckTW ckCL k328 := mt_86 (as := k328_a) (cs := k328_c) (gx := []) (f := 200000) rfl (ckHc (k296_ok l) (ckHc (k327_ok l) (ckHc (k300_ok l) (ckHc (k295_ok l) (ckHc (k300_ok l) (fun _ h => absurd h List.not_mem_nil)))))) True.intro (by decide +kernel)
noncomputable def dT568 : List ckI := [(0, 1), (0, 1), ckTop, ckTop, ckTop, ckTop, ckTop, ckTop, ckTop, ckTop, ckTop, ckTop, ckTop, (2, 30), (0, 270), (0, 30), (0, 1), ckTop, (0, 1), (318, 318), (300, 300)]
-- FarMachineModel.test
noncomputable def k329 : ckCtr := (86, ([(0, (1, 0))], [], dC533, dT568, dG535, [], [], [(1, 0, 0, 0, [])], 0, 0), [([], [(0, 21)], dP536, [], [], [(0, 1), (2, 30), (0, 1)], [], [], dZ493, [(1, 0, 0, 0, [])], 0, 0)], 33, 810, 0, 0)
noncomputable def k329_a : ckAs := []
noncomputable def k329_c : List (Nat × ckCtr) := [(3, k296), (10, k328), (23, k300), (28, k295), (75, k300)]
theorem k329_ok (l : Launch) : ckCtrOk l ckMT ckTW ckCL k329 := mt_86 (as := k329_a) (cs := k329_c) (gx := []) (f := 200000) rfl (ckHc (k296_ok l) (ckHc (k328_ok l) (ckHc (k300_ok l) (ckHc (k295_ok l) (ckHc (k300_ok l) (fun _ h => absurd h List.not_mem_nil)))))) True.intro (by decide +kernel)
noncomputable def dT569 : List ckI := [(0, 1), (0, 1), ckTop, ckTop, ckTop, ckTop, ckTop, ckTop, ckTop, ckTop, ckTop, ckTop, ckTop, (1, 30), (0, 270), (0, 30), (0, 1), ckTop, (0, 1), (318, 318), (300, 300)]
-- FarMachineModel.test
noncomputable def k330 : ckCtr := (86, ([(0, (1, 0))], [], dC533, dT569, dG535, [], [], [(1, 0, 0, 0, [])], 0, 0), [([], [(0, 21)], dP536, [], [], [(0, 1), (1, 30), (0, 1)], [], [], dZ495, [(1, 0, 0, 0, [])], 0, 0)], 34, 833, 0, 0)
noncomputable def k330_a : ckAs := []
noncomputable def k330_c : List (Nat × ckCtr) := [(3, k296), (10, k329), (23, k300), (28, k295), (75, k300)]
theorem k330_ok (l : Launch) : ckCtrOk l ckMT ckTW ckCL k330 := mt_86 (as := k330_a) (cs := k330_c) (gx := []) (f := 200000) rfl (ckHc (k296_ok l) (ckHc (k329_ok l) (ckHc (k300_ok l) (ckHc (k295_ok l) (ckHc (k300_ok l) (fun _ h => absurd h List.not_mem_nil)))))) True.intro (by decide +kernel)
-- FarMachineModel.test
noncomputable def k331 : ckCtr := (86, ([(0, (1, 0))], [], dC533, dT534, dG535, [], [], [(1, 0, 0, 0, [])], 0, 0), [([], [(0, 21)], dP536, [], [], [(0, 1), (0, 30), (0, 1)], [], [], dZ496, [(1, 0, 0, 0, [])], 0, 0)], 35, 856, 0, 0)
noncomputable def k331_a : ckAs := []
noncomputable def k331_c : List (Nat × ckCtr) := [(3, k296), (10, k330), (23, k300), (28, k295), (75, k300)]
theorem k331_ok (l : Launch) : ckCtrOk l ckMT ckTW ckCL k331 := mt_86 (as := k331_a) (cs := k331_c) (gx := []) (f := 200000) rfl (ckHc (k296_ok l) (ckHc (k330_ok l) (ckHc (k300_ok l) (ckHc (k295_ok l) (ckHc (k300_ok l) (fun _ h => absurd h List.not_mem_nil)))))) True.intro (by decide +kernel)
noncomputable def dT570 : List ckI := [(38, 38), (0, 1), (0, 1), ckTop, ckTop, ckTop, ckTop, ckTop, ckTop, ckTop, ckTop, ckTop, ckTop, ckTop, (0, 30), (0, 270), (0, 30), (0, 1), ckTop, (0, 1), (300, 300)]
-- FarMachineModel.takes
noncomputable def k332 : ckCtr := (84, ([(0, (1, 0)), (1, (0, 0))], [], dC524, dT570, [([(300, ckTop)], [], [])], [], [], [], 0, 0), [([], [(0, 21)], [], [], [], [(0, 0)], [], [], [], [], 0, 0), ([], [(0, 21)], dP526, [], [(14, (0, 29)), (16, (1, 30)), (17, (1, 1))], [(1, 1), (1, 30)], [], [], [(14, 16, (-1)), (14, 22, (-1)), (22, 14, 1), (22, 16, 0)], [], 0, 0)], 2, 100, 0, 0)
noncomputable def k332_a : ckAs := []
noncomputable def k332_c : List (Nat × ckCtr) := [(8, k295)]
theorem k332_ok (l : Launch) : ckCtrOk l ckMT ckTW ckCL k332 := mt_84 (as := k332_a) (cs := k332_c) (gx := []) (f := 200000) rfl (ckHc (k295_ok l) (fun _ h => absurd h List.not_mem_nil)) True.intro (by decide +kernel)
noncomputable def dT571 : List ckI := [(0, 1), (0, 1), ckTop, ckTop, ckTop, ckTop, ckTop, ckTop, ckTop, ckTop, ckTop, ckTop, ckTop, (0, 0), (0, 270), (0, 30), (0, 1), ckTop, (0, 1), (318, 318), (300, 300)]
noncomputable def dP572 : List (Nat × ckC) := [(0, .inl (9, [(4, 10), (1, 1), (4, 11), (4, 12), (4, 13), (4, 14), (4, 15), (4, 16), (4, 17), (4, 18), (4, 19), (4, 20), (4, 21), (4, 22), (1, 2), (4, 23), (0, 0), (0, 1), (0, 2), (0, 3), (0, 4), (0, 5), (0, 6), (4, 24), (0, 7), (4, 25), (0, 8), (0, 9), (0, 10), (0, 11), (4, 26), (0, 12), (0, 25), (0, 14), (0, 15), (1, 2), (1, 1), (0, 26), (4, 27), (4, 28), (0, 17), (0, 18)]))]
-- FarMachineModel.and
noncomputable def k333 : ckCtr := (85, ([(0, (1, 0))], [], dC533, dT571, dG535, [], [], [(1, 0, 0, 0, [])], 0, 0), [([], [(0, 21)], dP536, [], [], [(0, 1), (0, 30), (0, 1)], [], [], dZ499, [(1, 0, 0, 0, [])], 0, 0)], 36, 879, 0, 0)
noncomputable def k333_a : ckAs := [(5, [(274191, [(1, 0, 1, ([(0, (1, 0)), (1, (0, 24))], [], dP572, [], [], [(0, 1), (0, 30), (0, 1)], [], [], dZ501, [(1, 0, 0, 0, [])], 0, 0))])])]
noncomputable def k333_c : List (Nat × ckCtr) := [(1, k331), (8, k332), (15, k330)]
theorem k333_ok (l : Launch) : ckCtrOk l ckMT ckTW ckCL k333 := mt_85 (as := k333_a) (cs := k333_c) (gx := []) (f := 200000) rfl (ckHc (k331_ok l) (ckHc (k332_ok l) (ckHc (k330_ok l) (fun _ h => absurd h List.not_mem_nil)))) True.intro (by decide +kernel)
noncomputable def dC573 : List ckC := [.inl (9, [(4, 10), (1, 2), (4, 11), (4, 12), (4, 13), (4, 14), (4, 15), (4, 16), (4, 17), (4, 18), (4, 19), (4, 20), (4, 21), (4, 22), (1, 1), (4, 23), (0, 2), (0, 3), (0, 4), (0, 5), (0, 6), (0, 7), (0, 8), (4, 24), (0, 9), (4, 25), (0, 10), (0, 11), (0, 12), (0, 13), (4, 26), (0, 14), (0, 15), (0, 16), (0, 17), (5, 0), (5, 0), (0, 18), (4, 27), (4, 28), (0, 19), (0, 20)]), .inr (0, 21, 0), .inr (0, 22, 1)]
noncomputable def dT574 : List ckI := [(0, 270), (0, 30), (0, 1), (0, 1), ckTop, ckTop, ckTop, ckTop, ckTop, ckTop, ckTop, ckTop, ckTop, ckTop, ckTop, ckTop, ckTop, ckTop, (0, 1), ckTop, (0, 1), (300, 300), (318, 318)]
noncomputable def dG575 : List ckG := [([(300, ckTop)], [], []), ([(48, ckTop), (49, (0, 47)), (55, ckTop), (56, ckTop), (58, ckTop), (59, ckTop), (76, ckTop), (77, (0, 30)), (197, ckTop), (198, (0, 60)), (318, ckTop)], [], [])]
noncomputable def dP576 : List (Nat × ckC) := [(0, .inl (9, [(4, 10), (1, 2), (4, 11), (4, 12), (4, 13), (4, 14), (4, 15), (4, 16), (4, 17), (4, 18), (4, 19), (4, 20), (4, 21), (4, 22), (1, 1), (4, 23), (0, 2), (0, 3), (0, 4), (0, 5), (0, 6), (0, 7), (0, 8), (4, 24), (0, 9), (4, 25), (0, 10), (0, 11), (0, 12), (0, 13), (4, 26), (0, 14), (0, 24), (0, 0), (0, 1), (1, 1), (1, 2), (0, 25), (4, 27), (4, 28), (0, 19), (0, 20)]))]
-- FarMachineModel.goesThrough
noncomputable def k334 : ckCtr := (90, ([(0, (1, 0)), (1, (1, 1)), (2, (0, 0)), (3, (0, 1)), (4, (1, 2))], [], dC573, dT574, dG575, [], [], [(1, 1, 0, 0, [])], 0, 0), [([], [(0, 23)], dP576, [], [], [(0, 1), (0, 30), (0, 1)], [], [], [(23, 1, 0), (23, 24, 0), (25, 1, 0), (25, 24, 0)], [(1, 1, 0, 0, [])], 0, 0)], 37, 901, 0, 0)
noncomputable def k334_a : ckAs := []
noncomputable def k334_c : List (Nat × ckCtr) := [(32, k333)]
theorem k334_ok (l : Launch) : ckCtrOk l ckMT ckTW ckCL k334 := mt_90 (as := k334_a) (cs := k334_c) (gx := []) (f := 200000) rfl (ckHc (k333_ok l) (fun _ h => absurd h List.not_mem_nil)) True.intro (by decide +kernel)
noncomputable def dC577 : List ckC := [.inl (9, [(4, 10), (1, 1), (4, 11), (4, 12), (4, 13), (4, 14), (4, 15), (4, 16), (4, 17), (4, 18), (4, 19), (4, 20), (4, 21), (4, 22), (1, 2), (1, 3), (0, 1), (0, 2), (0, 3), (0, 4), (0, 5), (0, 6), (0, 7), (4, 23), (0, 8), (4, 24), (0, 9), (0, 10), (0, 11), (0, 12), (4, 25), (0, 13), (0, 14), (0, 15), (0, 16), (5, 0), (5, 0), (0, 17), (4, 26), (4, 27), (0, 18), (0, 19)]), .inr (0, 20, 0), .inr (0, 21, 1), .inr (0, 22, 2)]
noncomputable def dT578 : List ckI := [(0, 9), (0, 1), (0, 1), ckTop, ckTop, ckTop, ckTop, ckTop, ckTop, ckTop, ckTop, ckTop, ckTop, ckTop, ckTop, ckTop, ckTop, (0, 1), ckTop, (0, 1), (318, 318), (300, 300), (10, 10)]
noncomputable def dG579 : List ckG := [([(48, ckTop), (49, (0, 47)), (55, ckTop), (56, ckTop), (58, ckTop), (59, ckTop), (76, ckTop), (77, (0, 30)), (197, ckTop), (198, (0, 60)), (318, ckTop)], [], []), ([(300, ckTop)], [], []), ([(10, (0, 30))], [], [])]
noncomputable def dP580 : List (Nat × ckC) := [(0, .inl (9, [(4, 10), (1, 1), (4, 11), (4, 12), (4, 13), (4, 14), (4, 15), (4, 16), (4, 17), (4, 18), (4, 19), (4, 20), (4, 21), (4, 22), (1, 2), (1, 3), (0, 1), (0, 2), (0, 3), (0, 4), (0, 5), (0, 6), (0, 7), (4, 23), (0, 8), (4, 24), (0, 9), (0, 10), (0, 11), (0, 12), (4, 25), (0, 13), (0, 24), (0, 25), (0, 26), (1, 2), (1, 1), (0, 27), (4, 26), (4, 27), (0, 18), (0, 19)]))]
-- FarMachineModel.isSo
noncomputable def k335 : ckCtr := (92, ([(0, (1, 0)), (1, (0, 0)), (2, (1, 1))], [], dC577, dT578, dG579, [], [], [(1, 0, 0, 0, [])], 0, 0), [([], [(0, 23)], dP580, [], [], [(0, 1), (0, 30), (0, 270), (0, 30), (0, 1)], [], [], [(23, 24, 0), (23, 26, 0), (27, 24, 0), (27, 26, 0)], [(1, 0, 0, 0, [])], 0, 0)], 38, 925, 0, 0)
noncomputable def k335_a : ckAs := []
noncomputable def k335_c : List (Nat × ckCtr) := [(16, k334)]
theorem k335_ok (l : Launch) : ckCtrOk l ckMT ckTW ckCL k335 := mt_92 (as := k335_a) (cs := k335_c) (gx := []) (f := 200000) rfl (ckHc (k334_ok l) (fun _ h => absurd h List.not_mem_nil)) True.intro (by decide +kernel)
noncomputable def dC581 : List ckC := [.inl (9, [(1, 1), (1, 2), (4, 10), (4, 11), (4, 12), (4, 13), (4, 14), (4, 15), (4, 16), (4, 17), (4, 18), (4, 19), (4, 20), (4, 21), (1, 3), (1, 4), (0, 1), (0, 2), (0, 3), (0, 4), (0, 5), (0, 6), (0, 7), (4, 22), (0, 8), (4, 23), (0, 9), (0, 10), (0, 11), (0, 12), (4, 24), (0, 13), (0, 14), (0, 15), (0, 16), (5, 0), (5, 0), (0, 17), (4, 25), (4, 26), (0, 18), (0, 19)]), .inr (0, 20, 0), .inr (0, 21, 1), .inr (0, 22, 2), .inr (0, 23, 3)]
noncomputable def dT582 : List ckI := [ckTop, (0, 1), (0, 1), (0, 8), (0, 40), (0, 6), (0, 8), (0, 10), (0, 126000), ckTop, ckTop, ckTop, ckTop, (0, 30), ckTop, ckTop, ckTop, (0, 1), ckTop, (0, 1), (7, 7), (318, 318), (300, 300), (10, 10), (1, 99), (0, 126000)]
noncomputable def dG583 : List ckG := [([(7, ckTop)], [], []), ([(48, ckTop), (49, (0, 47)), (50, ckTop), (51, ckTop), (52, ckTop), (54, ckTop), (55, ckTop), (56, ckTop), (57, ckTop), (58, ckTop), (59, ckTop), (76, ckTop), (77, (0, 30)), (197, ckTop), (198, (0, 60)), (318, ckTop)], [(55, 24), (58, 25)], []), ([(300, ckTop)], [], []), ([(10, (0, 30))], [], [])]
noncomputable def dP584 : List (Nat × ckC) := [(0, .inl (9, [(1, 1), (1, 2), (4, 10), (4, 11), (4, 12), (4, 13), (4, 14), (4, 15), (4, 16), (4, 17), (4, 18), (4, 19), (4, 20), (4, 21), (1, 3), (1, 4), (0, 1), (0, 2), (0, 3), (0, 4), (0, 5), (0, 6), (0, 7), (4, 22), (0, 8), (4, 23), (0, 9), (0, 10), (0, 11), (0, 12), (4, 24), (0, 13), (0, 27), (0, 28), (0, 29), (5, 0), (5, 0), (0, 30), (4, 25), (4, 26), (0, 18), (0, 19)])), (1, .inr (0, 20, 4))]
-- FarMachineModel.holds
noncomputable def k336 : ckCtr := (93, ([(0, (1, 0)), (1, (0, 0))], [], dC581, dT582, dG583, [], [], [(1, 1, 0, 0, [])], 0, 0), [([], [(0, 26)], dP584, [], [], [(-1, 1), ckTop, ckTop, ckTop, (0, 1)], [([(1, ckTop), (2, ckTop), (7, ckTop)], [], [])], [], [(26, 7, 0)], [(1, 1, 0, 0, [])], 0, 0)], 39, 947, 0, 0)
noncomputable def k336_a : ckAs := []
noncomputable def k336_c : List (Nat × ckCtr) := [(5, k294), (17, k335), (33, k22)]
theorem k336_ok (l : Launch) : ckCtrOk l ckMT ckTW ckCL k336 := mt_93 (as := k336_a) (cs := k336_c) (gx := []) (f := 200000) rfl (ckHc (k294_ok l) (ckHc (k335_ok l) (ckHc (k22_ok l) (fun _ h => absurd h List.not_mem_nil)))) True.intro (by decide +kernel)
-- FarMachine$Rows.hasRoom
noncomputable def k337 : ckCtr := (152, ([(0, (1, 0))], [], [.inl (3, [(4, 10), (0, 0), (0, 1)])], [ckTop, ckTop], [], [], [], [], 0, 0), [([], [(0, 2)], [], [], [(1, (0, 255))], [(1, 1)], [], [], [], [], 0, 0), ([], [(0, 2)], [], [], [], [(0, 0)], [], [], [], [], 0, 0)], 1, 80, 0, 0)
noncomputable def k337_a : ckAs := []
noncomputable def k337_c : List (Nat × ckCtr) := []
theorem k337_ok (l : Launch) : ckCtrOk l ckMT ckTW ckCL k337 := mt_152 (as := k337_a) (cs := k337_c) (gx := []) (f := 200000) rfl (fun _ h => absurd h List.not_mem_nil) True.intro (by decide +kernel)
-- FarMachine$Rows.begin
noncomputable def k338 : ckCtr := (153, ([(0, (1, 0))], [], [.inl (3, [(1, 1), (0, 0), (0, 1)]), .inr (1, 2, 0)], [ckTop, ckTop, (2048, 2048)], [([(2048, (0, 0))], [], [])], [], [], [], 0, 0), [([], [], [(0, .inl (3, [(1, 1), (0, 3), (0, 1)]))], [], [], [(0, 0)], [], [], [], [], 0, 0)], 2, 100, 0, 0)
noncomputable def k338_a : ckAs := [(7, [(367430, [(1, 0, 0, ([(0, (1, 0)), (1, (0, 5))], [], [], [], [], [(0, 8)], [], [], [], [], 0, 0))])])]
noncomputable def k338_c : List (Nat × ckCtr) := [(14, k337)]
theorem k338_ok (l : Launch) : ckCtrOk l ckMT ckTW ckCL k338 := mt_153 (as := k338_a) (cs := k338_c) (gx := []) (f := 200000) rfl (ckHc (k337_ok l) (fun _ h => absurd h List.not_mem_nil)) True.intro (by decide +kernel)
-- FarMachine$Rows.add
noncomputable def k339 : ckCtr := (154, ([(0, (1, 0)), (1, (0, 0))], [], [.inl (3, [(1, 1), (0, 1), (0, 2)]), .inr (1, 3, 0)], [ckTop, ckTop, ckTop, (2048, 2048)], [([(2048, (0, 0))], [], [])], [], [], [], 0, 0), [([], [], [], [], [], [], [], [], [], [], 0, 0), ([], [], [(0, .inl (3, [(1, 1), (0, 4), (0, 2)]))], [], [(1, (0, 59)), (2, (0, 255))], [(1, 60)], [], [], [(1, 4, (-1)), (4, 1, 1)], [], 0, 0), ([], [], [], [], [(1, (60, 2147483647)), (2, (0, 255))], [], [], [], [], [], 0, 0), ([], [], [], [], [(1, (-2147483648, -1)), (2, (0, 255))], [], [], [], [], [], 0, 0)], 2, 100, 0, 0)
noncomputable def k339_a : ckAs := []
noncomputable def k339_c : List (Nat × ckCtr) := [(1, k337)]
theorem k339_ok (l : Launch) : ckCtrOk l ckMT ckTW ckCL k339 := mt_154 (as := k339_a) (cs := k339_c) (gx := []) (f := 200000) rfl (ckHc (k337_ok l) (fun _ h => absurd h List.not_mem_nil)) True.intro (by decide +kernel)
noncomputable def dC585 : List ckC := [.inl (5, [(1, 2), (1, 3), (1, 4), (1, 5), (1, 6), (0, 0)]), .inr (0, 1, 0), .inr (0, 2, 1), .inr (0, 2, 2), .inr (0, 2, 3), .inr (0, 2, 4), .inr (0, 3, 5)]
-- FarMachine$Rules.firstTrue
noncomputable def k340 : ckCtr := (173, ([(0, (1, 0)), (1, (1, 1))], [], dC585, [(0, 10), (8, 8), (70, 70), (10, 10)], dG517, [], [], [], 0, 0), [([], [(0, 4)], [], [], [(0, (1, 10))], [(0, 9)], [], [], [(4, 0, (-1))], [], 0, 0), ([], [(0, 4)], [], [], [], [(-9, -9)], [], [], [], [], 0, 0)], 4, 151, 0, 0)
noncomputable def k340_a : ckAs := [(2, [(352605, [(1, 0, 0, ([(0, (1, 0)), (1, (1, 1)), (2, (0, 5))], [], [], [], [], [(0, 10)], [], [], [(5, 0, 0)], [], 0, 0))])])]
noncomputable def k340_c : List (Nat × ckCtr) := [(13, k292)]
theorem k340_ok (l : Launch) : ckCtrOk l ckMT ckTW ckCL k340 := mt_173 (as := k340_a) (cs := k340_c) (gx := []) (f := 200000) rfl (ckHc (k292_ok l) (fun _ h => absurd h List.not_mem_nil)) True.intro (by decide +kernel)
noncomputable def dC586 : List ckC := [.inl (6, [(1, 1), (4, 10), (1, 2), (1, 3), (1, 4), (0, 1), (0, 2), (0, 3), (0, 4), (0, 5)]), .inl (7, [(4, 11), (4, 12), (0, 6), (4, 13), (4, 14), (4, 15), (4, 16), (1, 5), (4, 17), (4, 18)]), .inl (2, [(1, 6), (1, 7), (1, 8), (0, 7), (0, 8), (0, 9), (0, 10), (0, 11), (0, 12), (0, 13), (0, 14), (0, 15), (0, 16), (0, 17), (0, 18), (0, 19)]), .inr (0, 20, 0), .inl (3, [(1, 9), (0, 21), (0, 22)]), .inl (5, [(1, 10), (1, 11), (1, 12), (1, 13), (1, 14), (0, 23)]), .inr (0, 24, 1), .inr (0, 20, 2), .inl (1, [(1, 15), (1, 16), (1, 17), (1, 18), (0, 25)]), .inr (1, 26, 3), .inr (0, 27, 4), .inr (0, 27, 5), .inr (0, 27, 6), .inr (0, 27, 7), .inr (0, 28, 8), .inr (0, 29, 9), .inr (0, 29, 10), .inr (0, 29, 11), .inr (0, 29, 12)]
noncomputable def dT587 : List ckI := [ckTop, ckTop, ckTop, ckTop, ckTop, (0, 1), (0, 1), ckTop, ckTop, ckTop, ckTop, ckTop, ckTop, ckTop, ckTop, ckTop, ckTop, ckTop, ckTop, ckTop, (8, 8), ckTop, ckTop, (0, 10), (48, 48), ckTop, (2048, 2048), (70, 70), (10, 10), (30, 30)]
noncomputable def dG588 : List ckG := [([(8, ckTop)], [], []), ([(48, ckTop)], [], []), ([(8, ckTop)], [], []), ([(2048, (0, 0))], [], []), ([(70, ckTop)], [], []), ([(70, ckTop)], [], []), ([(70, ckTop)], [], []), ([(70, ckTop)], [], []), ([(10, ckTop)], [], []), ([(30, ckTop)], [], []), ([(30, ckTop)], [], []), ([(30, ckTop)], [], []), ([(30, ckTop)], [], [])]
noncomputable def dP589 : List (Nat × ckC) := [(2, .inl (2, [(1, 6), (1, 7), (1, 8), (0, 31), (0, 32), (0, 33), (0, 34), (0, 35), (0, 36), (0, 37), (0, 14), (0, 15), (0, 16), (0, 17), (0, 38), (0, 39)])), (3, .inr (0, 20, 13)), (4, .inl (3, [(1, 9), (0, 40), (0, 22)])), (6, .inr (0, 24, 14)), (8, .inl (1, [(1, 15), (1, 16), (1, 17), (1, 18), (0, 41)])), (15, .inr (0, 29, 15)), (16, .inr (0, 29, 16)), (17, .inr (0, 29, 17)), (18, .inr (0, 29, 18))]
noncomputable def dT590 : List ckI := [ckTop, ckTop, ckTop, ckTop, ckTop, ckTop, ckTop, ckTop, ckTop, ckTop, (0, 60), ckTop]
noncomputable def dG591 : List ckG := [([(1, ckTop), (2, ckTop), (3, ckTop), (4, ckTop), (5, ckTop), (6, ckTop), (7, ckTop), (8, ckTop)], [], []), ([(48, ckTop)], [], []), ([(30, ckTop)], [], []), ([(30, ckTop)], [], []), ([(30, ckTop)], [], []), ([(30, ckTop)], [], [])]
noncomputable def dP592 : List (Nat × ckC) := [(2, .inl (2, [(1, 6), (1, 7), (1, 8), (0, 35), (0, 36), (0, 37), (0, 38), (0, 39), (0, 40), (0, 41), (0, 14), (0, 15), (0, 16), (0, 17), (0, 42), (0, 43)])), (3, .inr (0, 20, 13)), (4, .inl (3, [(1, 9), (0, 44), (0, 22)])), (6, .inr (0, 24, 14)), (8, .inl (1, [(1, 15), (1, 16), (1, 17), (1, 18), (0, 45)])), (15, .inr (0, 29, 15)), (16, .inr (0, 29, 16)), (17, .inr (0, 29, 17)), (18, .inr (0, 29, 18))]
noncomputable def dT593 : List ckI := [ckTop, (0, 2147483647), ckTop, ckTop, ckTop, ckTop, ckTop, ckTop, ckTop, ckTop, ckTop, (0, 60), ckTop]
-- FarMachine$Trials.goOn
noncomputable def k341 : ckCtr := (180, ([(0, (1, 0)), (1, (0, 0))], [], dC586, dT587, dG588, [], [], [], 0, 0), [([], [(0, 30)], dP589, [], [], dT590, dG591, [], [], [], 0, 0)], 6, 193, 0, 0)
noncomputable def k341_a : ckAs := [(12, [(359473, [(1, 0, 1, ([(0, (1, 0)), (1, (0, 0)), (2, (0, 33)), (3, (0, 34))], [], dP592, [], [], dT593, dG591, [], [(44, 34, 0)], [], 0, 0))])])]
noncomputable def k341_c : List (Nat × ckCtr) := [(7, k338), (21, k129), (40, k339), (57, k288), (71, k340)]
theorem k341_ok (l : Launch) : ckCtrOk l ckMT ckTW ckCL k341 := mt_180 (as := k341_a) (cs := k341_c) (gx := []) (f := 200000) rfl (ckHc (k338_ok l) (ckHc (k129_ok l) (ckHc (k339_ok l) (ckHc (k288_ok l) (ckHc (k340_ok l) (fun _ h => absurd h List.not_mem_nil)))))) True.intro (by decide +kernel)
noncomputable def dC594 : List ckC := [.inl (8, [(1, 1), (4, 10), (0, 2), (4, 11), (4, 12), (1, 2), (4, 13), (1, 3)]), .inl (7, [(4, 14), (1, 4), (0, 3), (4, 15), (4, 16), (1, 5), (1, 6), (1, 7), (4, 17), (4, 18)]), .inl (6, [(1, 1), (4, 11), (1, 8), (1, 9), (1, 10), (0, 4), (0, 5), (0, 6), (0, 7), (0, 8)]), .inr (0, 9, 0), .inl (2, [(1, 11), (1, 12), (1, 13), (0, 10), (0, 11), (0, 12), (0, 13), (0, 14), (0, 15), (0, 16), (0, 17), (0, 18), (0, 19), (0, 20), (0, 21), (0, 22)]), .inl (0, [(1, 14), (0, 23)]), .inl (0, [(1, 15), (0, 24)]), .inl (5, [(1, 16), (1, 17), (1, 18), (1, 19), (1, 20), (0, 25)]), .inl (2, [(1, 21), (1, 22), (1, 23), (0, 26), (0, 27), (0, 28), (0, 29), (0, 30), (0, 31), (0, 32), (0, 33), (0, 34), (0, 35), (0, 36), (0, 37), (0, 38)]), .inr (0, 39, 1), .inl (3, [(1, 24), (0, 40), (0, 41)]), .inr (0, 42, 2), .inr (0, 39, 3), .inl (1, [(1, 25), (1, 26), (1, 27), (1, 28), (0, 43)]), .inr (0, 39, 4), .inr (0, 39, 5), .inr (0, 44, 6), .inr (0, 44, 7), .inr (0, 44, 8), .inr (0, 44, 9), .inr (0, 45, 10), .inr (0, 42, 11), .inr (0, 39, 12), .inl (1, [(1, 29), (1, 30), (1, 31), (1, 32), (0, 46)]), .inr (1, 47, 13), .inr (0, 48, 14), .inr (0, 48, 15), .inr (0, 48, 16), .inr (0, 48, 17), .inr (0, 48, 18), .inr (0, 48, 19), .inr (0, 48, 20), .inr (0, 48, 21)]
noncomputable def dT595 : List ckI := [ckTop, ckTop, (0, 1), (0, 1), ckTop, ckTop, ckTop, ckTop, (0, 1), (7, 7), ckTop, ckTop, ckTop, ckTop, ckTop, ckTop, ckTop, ckTop, ckTop, ckTop, ckTop, ckTop, ckTop, ckTop, ckTop, (0, 10), ckTop, ckTop, ckTop, ckTop, ckTop, ckTop, ckTop, ckTop, ckTop, ckTop, ckTop, ckTop, ckTop, (8, 8), ckTop, ckTop, (48, 48), ckTop, (70, 70), (10, 10), ckTop, (2048, 2048), (30, 30)]
noncomputable def dG596 : List ckG := [([(7, ckTop)], [], []), ([(8, ckTop)], [], []), ([(48, ckTop)], [], []), ([(8, ckTop)], [], []), ([(8, ckTop)], [], []), ([(8, ckTop)], [], []), ([(70, ckTop)], [], []), ([(70, ckTop)], [], []), ([(70, ckTop)], [], []), ([(70, ckTop)], [], []), ([(10, ckTop)], [], []), ([(48, ckTop)], [], []), ([(8, ckTop)], [], []), ([(2048, (0, 0))], [], []), ([(30, ckTop)], [], []), ([(30, ckTop)], [], []), ([(30, ckTop)], [], []), ([(30, ckTop)], [], []), ([(30, ckTop)], [], []), ([(30, ckTop)], [], []), ([(30, ckTop)], [], []), ([(30, ckTop)], [], [])]
noncomputable def dP597 : List (Nat × ckC) := [(3, .inr (0, 9, 22)), (8, .inl (2, [(1, 21), (1, 22), (1, 23), (0, 50), (0, 51), (0, 52), (0, 53), (0, 54), (0, 55), (0, 56), (0, 57), (0, 58), (0, 59), (0, 60), (0, 61), (0, 62)])), (9, .inr (0, 39, 23)), (10, .inl (3, [(1, 24), (0, 63), (0, 41)])), (21, .inr (0, 42, 24)), (22, .inr (0, 39, 25)), (23, .inl (1, [(1, 29), (1, 30), (1, 31), (1, 32), (0, 64)])), (29, .inr (0, 48, 26)), (30, .inr (0, 48, 27)), (31, .inr (0, 48, 28)), (32, .inr (0, 48, 29))]
noncomputable def dT598 : List ckI := [ckTop, ckTop, ckTop, ckTop, ckTop, ckTop, ckTop, ckTop, ckTop, ckTop, ckTop, ckTop, ckTop, ckTop, ckTop, ckTop]
noncomputable def dG599 : List ckG := [([(7, ckTop)], [], []), ([(1, ckTop), (2, ckTop), (3, ckTop), (4, ckTop), (5, ckTop), (6, ckTop), (7, ckTop), (8, ckTop)], [], []), ([(48, ckTop)], [], []), ([(8, ckTop)], [], []), ([(30, ckTop)], [], []), ([(30, ckTop)], [], []), ([(30, ckTop)], [], []), ([(30, ckTop)], [], [])]
-- FarMachine.broken
noncomputable def k342 : ckCtr := (20, ([(0, (1, 0)), (1, (0, 0)), (2, (0, 1))], [], dC594, dT595, dG596, [], [], [], 0, 0), [([], [(0, 49)], dP597, [], [], dT598, dG599, [], [], [], 0, 0)], 7, 218, 0, 0)
noncomputable def k342_a : ckAs := []
noncomputable def k342_c : List (Nat × ckCtr) := [(3, k185), (8, k186), (18, k149), (27, k187), (35, k341)]
theorem k342_ok (l : Launch) : ckCtrOk l ckMT ckTW ckCL k342 := mt_20 (as := k342_a) (cs := k342_c) (gx := []) (f := 200000) rfl (ckHc (k185_ok l) (ckHc (k186_ok l) (ckHc (k149_ok l) (ckHc (k187_ok l) (ckHc (k341_ok l) (fun _ h => absurd h List.not_mem_nil)))))) True.intro (by decide +kernel)
noncomputable def dC600 : List ckC := [.inl (9, [(4, 10), (4, 11), (4, 12), (4, 13), (4, 14), (4, 15), (4, 16), (4, 17), (4, 18), (4, 19), (4, 20), (4, 21), (4, 22), (4, 23), (1, 1), (4, 24), (0, 0), (0, 1), (0, 2), (0, 3), (0, 4), (0, 5), (0, 6), (4, 25), (0, 7), (4, 26), (0, 8), (0, 9), (0, 10), (0, 11), (4, 27), (0, 12), (0, 13), (0, 14), (0, 15), (1, 1), (4, 14), (0, 16), (4, 28), (4, 29), (0, 17), (0, 18)]), .inr (0, 19, 0)]
-- FarMachineModel.sign
noncomputable def k343 : ckCtr := (83, ([(0, (1, 0))], [], dC600, dT523, [([(300, ckTop)], [], [])], [], [], [], 0, 0), [([], [(0, 20)], [], [], [], [(-1, -1)], [], [], [(15, 13, 0)], [], 0, 0), ([], [(0, 20)], [], [], [(13, (0, 29)), (15, (1, 30))], [ckTop], [], [], [(13, 15, (-1))], [], 0, 0)], 1, 80, 0, 0)
noncomputable def k343_a : ckAs := []
noncomputable def k343_c : List (Nat × ckCtr) := []
theorem k343_ok (l : Launch) : ckCtrOk l ckMT ckTW ckCL k343 := mt_83 (as := k343_a) (cs := k343_c) (gx := []) (f := 200000) rfl (fun _ h => absurd h List.not_mem_nil) True.intro (by decide +kernel)
noncomputable def dC601 : List ckC := [.inl (9, [(4, 10), (4, 11), (4, 12), (4, 13), (4, 14), (4, 15), (4, 16), (4, 17), (4, 18), (4, 19), (4, 20), (4, 21), (4, 22), (4, 23), (1, 1), (4, 24), (0, 1), (0, 2), (0, 3), (0, 4), (0, 5), (0, 6), (0, 7), (4, 25), (0, 8), (4, 26), (0, 9), (0, 10), (0, 11), (0, 12), (4, 27), (0, 13), (0, 14), (0, 15), (0, 16), (1, 1), (4, 14), (0, 17), (4, 28), (4, 29), (0, 18), (0, 19)]), .inr (0, 20, 0)]
noncomputable def dP602 : List (Nat × ckC) := [(0, .inl (9, [(4, 10), (4, 11), (4, 12), (4, 13), (4, 14), (4, 15), (4, 16), (4, 17), (4, 18), (4, 19), (4, 20), (4, 21), (4, 22), (4, 23), (1, 1), (4, 24), (0, 1), (0, 2), (0, 3), (0, 4), (0, 5), (0, 6), (0, 7), (4, 25), (0, 8), (4, 26), (0, 9), (0, 10), (0, 11), (0, 12), (4, 27), (0, 13), (0, 22), (0, 15), (0, 16), (1, 1), (4, 14), (0, 17), (4, 28), (4, 29), (0, 18), (0, 19)]))]
-- FarMachineModel.takes
noncomputable def k344 : ckCtr := (84, ([(0, (1, 0)), (1, (0, 0))], [], dC601, dT525, [([(300, ckTop)], [], [])], [], [], [], 0, 0), [([], [(0, 21)], [], [], [], [(0, 0)], [], [], [], [], 0, 0), ([], [(0, 21)], dP602, [], [(14, (0, 29)), (16, (1, 30)), (17, (1, 1))], [(1, 1), (1, 30)], [], [], [(14, 16, (-1)), (14, 22, (-1)), (22, 14, 1), (22, 16, 0)], [], 0, 0)], 2, 100, 0, 0)
noncomputable def k344_a : ckAs := []
noncomputable def k344_c : List (Nat × ckCtr) := [(8, k343)]
theorem k344_ok (l : Launch) : ckCtrOk l ckMT ckTW ckCL k344 := mt_84 (as := k344_a) (cs := k344_c) (gx := []) (f := 200000) rfl (ckHc (k343_ok l) (fun _ h => absurd h List.not_mem_nil)) True.intro (by decide +kernel)
noncomputable def dC603 : List ckC := [.inl (9, [(4, 10), (4, 11), (4, 12), (4, 13), (1, 1), (4, 14), (4, 15), (4, 16), (4, 17), (4, 18), (4, 19), (4, 20), (4, 21), (4, 22), (4, 23), (4, 24), (0, 1), (0, 2), (0, 3), (0, 4), (0, 5), (0, 6), (0, 7), (4, 25), (0, 8), (4, 26), (0, 9), (0, 10), (0, 11), (0, 12), (4, 27), (0, 13), (0, 14), (0, 15), (0, 16), (4, 23), (1, 1), (0, 17), (4, 28), (4, 29), (0, 18), (0, 19)]), .inr (0, 20, 0)]
noncomputable def dP604 : List (Nat × ckC) := [(0, .inl (9, [(4, 10), (4, 11), (4, 12), (4, 13), (1, 1), (4, 14), (4, 15), (4, 16), (4, 17), (4, 18), (4, 19), (4, 20), (4, 21), (4, 22), (4, 23), (4, 24), (0, 1), (0, 2), (0, 3), (0, 4), (0, 5), (0, 6), (0, 7), (4, 25), (0, 8), (4, 26), (0, 9), (0, 10), (0, 11), (0, 12), (4, 27), (0, 13), (0, 22), (0, 15), (0, 16), (4, 23), (1, 1), (0, 21), (4, 28), (4, 29), (0, 18), (0, 19)]))]
-- FarMachineModel.letter
noncomputable def k345 : ckCtr := (89, ([(0, (1, 0)), (1, (0, 0))], [], dC603, dT528, dG423, [], [], [(1, 0, 0, 0, [])], 0, 0), [([], [(0, 21)], dP604, [], [], [(0, 0), (0, 30)], [], [], [(14, 22, 0), (22, 14, 0)], [(1, 0, 0, 0, [])], 0, 0)], 1, 80, 0, 0)
noncomputable def k345_a : ckAs := []
noncomputable def k345_c : List (Nat × ckCtr) := []
theorem k345_ok (l : Launch) : ckCtrOk l ckMT ckTW ckCL k345 := mt_89 (as := k345_a) (cs := k345_c) (gx := []) (f := 200000) rfl (fun _ h => absurd h List.not_mem_nil) True.intro (by decide +kernel)
noncomputable def dP605 : List (Nat × ckC) := [(0, .inl (9, [(4, 10), (4, 11), (4, 12), (4, 13), (1, 1), (4, 14), (4, 15), (4, 16), (4, 17), (4, 18), (4, 19), (4, 20), (4, 21), (4, 22), (4, 23), (4, 24), (0, 1), (0, 2), (0, 3), (0, 4), (0, 5), (0, 6), (0, 7), (4, 25), (0, 8), (4, 26), (0, 9), (0, 10), (0, 11), (0, 12), (4, 27), (0, 13), (0, 22), (0, 15), (0, 16), (4, 23), (1, 1), (0, 23), (4, 28), (4, 29), (0, 18), (0, 19)]))]
-- FarMachineModel.letter
noncomputable def k346 : ckCtr := (89, ([(0, (1, 0)), (1, (0, 0))], [], dC603, dT530, dG423, [], [], [(1, 0, 0, 0, [])], 0, 0), [([], [(0, 21)], dP605, [], [], [ckTop, (0, 30), (0, 1)], [], [], [(14, 22, 0), (22, 14, 1), (23, 17, 0), (23, 22, 0)], [(1, 0, 0, 0, [])], 0, 0)], 3, 122, 0, 0)
noncomputable def k346_a : ckAs := []
noncomputable def k346_c : List (Nat × ckCtr) := [(171, k248), (179, k249), (182, k106)]
theorem k346_ok (l : Launch) : ckCtrOk l ckMT ckTW ckCL k346 := mt_89 (as := k346_a) (cs := k346_c) (gx := []) (f := 200000) rfl (ckHc (k248_ok l) (ckHc (k249_ok l) (ckHc (k106_ok l) (fun _ h => absurd h List.not_mem_nil)))) True.intro (by decide +kernel)
-- FarMachineModel.sign
noncomputable def k347 : ckCtr := (83, ([(0, (1, 0))], [], dC600, dT532, [([(300, ckTop)], [], [])], [], [], [], 0, 0), [([], [(0, 20)], [], [], [(15, (0, 29))], [(-1, -1)], [], [], [(15, 13, 0)], [], 0, 0), ([], [(0, 20)], [], [], [(15, (1, 30))], [ckTop], [], [], [(13, 15, (-1))], [], 0, 0)], 1, 80, 0, 0)
noncomputable def k347_a : ckAs := []
noncomputable def k347_c : List (Nat × ckCtr) := []
theorem k347_ok (l : Launch) : ckCtrOk l ckMT ckTW ckCL k347 := mt_83 (as := k347_a) (cs := k347_c) (gx := []) (f := 200000) rfl (fun _ h => absurd h List.not_mem_nil) True.intro (by decide +kernel)
noncomputable def dC606 : List ckC := [.inl (9, [(4, 10), (4, 11), (4, 12), (4, 13), (1, 1), (4, 14), (4, 15), (4, 16), (4, 17), (4, 18), (4, 19), (4, 20), (4, 21), (4, 22), (1, 2), (4, 23), (0, 0), (0, 1), (0, 2), (0, 3), (0, 4), (0, 5), (0, 6), (4, 24), (0, 7), (4, 25), (0, 8), (0, 9), (0, 10), (0, 11), (4, 26), (0, 12), (0, 13), (0, 14), (0, 15), (1, 2), (1, 1), (0, 16), (4, 27), (4, 28), (0, 17), (0, 18)]), .inr (0, 19, 0), .inr (0, 20, 1)]
noncomputable def dP607 : List (Nat × ckC) := [(0, .inl (9, [(4, 10), (4, 11), (4, 12), (4, 13), (1, 1), (4, 14), (4, 15), (4, 16), (4, 17), (4, 18), (4, 19), (4, 20), (4, 21), (4, 22), (1, 2), (4, 23), (0, 0), (0, 1), (0, 2), (0, 3), (0, 4), (0, 5), (0, 6), (4, 24), (0, 7), (4, 25), (0, 8), (0, 9), (0, 10), (0, 11), (4, 26), (0, 12), (0, 22), (0, 14), (0, 15), (1, 2), (1, 1), (0, 23), (4, 27), (4, 28), (0, 17), (0, 18)]))]
noncomputable def dP608 : List (Nat × ckC) := [(0, .inl (9, [(4, 10), (4, 11), (4, 12), (4, 13), (1, 1), (4, 14), (4, 15), (4, 16), (4, 17), (4, 18), (4, 19), (4, 20), (4, 21), (4, 22), (1, 2), (4, 23), (0, 0), (0, 1), (0, 2), (0, 3), (0, 4), (0, 5), (0, 6), (4, 24), (0, 7), (4, 25), (0, 8), (0, 9), (0, 10), (0, 11), (4, 26), (0, 12), (0, 29), (0, 14), (0, 15), (1, 2), (1, 1), (0, 16), (4, 27), (4, 28), (0, 17), (0, 18)]))]
noncomputable def dP609 : List (Nat × ckC) := [(0, .inl (9, [(4, 10), (4, 11), (4, 12), (4, 13), (1, 1), (4, 14), (4, 15), (4, 16), (4, 17), (4, 18), (4, 19), (4, 20), (4, 21), (4, 22), (1, 2), (4, 23), (0, 0), (0, 1), (0, 2), (0, 3), (0, 4), (0, 5), (0, 6), (4, 24), (0, 7), (4, 25), (0, 8), (0, 9), (0, 10), (0, 11), (4, 26), (0, 12), (0, 30), (0, 14), (0, 15), (1, 2), (1, 1), (0, 16), (4, 27), (4, 28), (0, 17), (0, 18)]))]
-- FarMachineModel.unit
noncomputable def k348 : ckCtr := (88, ([(0, (1, 0))], [], dC606, dT534, dG535, [], [], [(1, 0, 0, 0, [])], 0, 0), [([], [(0, 21)], dP607, [], [], [ckTop, (0, 30), (0, 1)], [], [], [(13, 22, 0), (23, 15, 0), (23, 16, 0), (23, 22, 0)], [(1, 0, 0, 0, [])], 0, 0)], 4, 143, 0, 0)
noncomputable def k348_a : ckAs := [(53, [(262068, [(1, 0, 1, ([(0, (1, 0)), (1, (0, 21)), (2, (0, 27)), (3, (0, 28))], [], dP608, [], [], [ckTop, (0, 3), (0, 30)], [], [], dZ433, [(1, 0, 0, 0, [])], 0, 0))]), (316176, [(1, 0, 1, ([(0, (1, 0)), (1, (0, 21)), (2, (0, 28)), (3, (0, 29))], [], dP609, [], [], [ckTop, (0, 3), (1, 30)], [], [], dZ435, [(1, 0, 0, 0, [])], 0, 0))])])]
noncomputable def k348_c : List (Nat × ckCtr) := [(10, k343), (21, k246), (29, k345), (29, k346), (59, k343), (62, k246), (73, k347)]
theorem k348_ok (l : Launch) : ckCtrOk l ckMT ckTW ckCL k348 := mt_88 (as := k348_a) (cs := k348_c) (gx := []) (f := 200000) rfl (ckHc (k343_ok l) (ckHc (k246_ok l) (ckHc (k345_ok l) (ckHc (k346_ok l) (ckHc (k343_ok l) (ckHc (k246_ok l) (ckHc (k347_ok l) (fun _ h => absurd h List.not_mem_nil)))))))) True.intro (by decide +kernel)
