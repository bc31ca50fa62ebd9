/-! THE CHECKER: contracts with their certificates (printed by wip/gen2/p16gen.py) -/
noncomputable def dC421 : List ckC := [.inl (9, [(4, 10), (1, 1), (4, 11), (4, 12), (4, 13), (4, 14), (4, 15), (4, 16), (4, 17), (4, 18), (4, 19), (4, 20), (4, 21), (4, 22), (4, 23), (4, 24), (0, 1), (0, 2), (0, 3), (0, 4), (0, 5), (0, 6), (0, 7), (4, 25), (0, 8), (4, 26), (0, 9), (0, 10), (0, 11), (0, 12), (4, 27), (0, 13), (0, 14), (0, 15), (0, 16), (4, 27), (1, 1), (0, 17), (4, 28), (4, 29), (0, 18), (0, 19)]), .inr (0, 20, 0)]
noncomputable def dT422 : List ckI := [(-1, -1), (0, 1), (0, 1), ckTop, ckTop, ckTop, ckTop, ckTop, ckTop, ckTop, ckTop, ckTop, ckTop, ckTop, (0, 30), (0, 0), (0, 30), (0, 1), ckTop, (0, 1), (318, 318)]
noncomputable def dG423 : List ckG := [([(48, ckTop), (49, (0, 47)), (55, ckTop), (56, ckTop), (58, ckTop), (59, ckTop), (76, ckTop), (77, (0, 30)), (197, ckTop), (198, (0, 60)), (318, ckTop)], [], [])]
noncomputable def dP424 : List (Nat × ckC) := [(0, .inl (9, [(4, 10), (1, 1), (4, 11), (4, 12), (4, 13), (4, 14), (4, 15), (4, 16), (4, 17), (4, 18), (4, 19), (4, 20), (4, 21), (4, 22), (4, 23), (4, 24), (0, 1), (0, 2), (0, 3), (0, 4), (0, 5), (0, 6), (0, 7), (4, 25), (0, 8), (4, 26), (0, 9), (0, 10), (0, 11), (0, 12), (4, 27), (0, 13), (0, 21), (0, 15), (0, 16), (4, 27), (1, 1), (0, 15), (4, 28), (4, 29), (0, 18), (0, 19)]))]
-- FarMachineModel.letter
noncomputable def k247 : ckCtr := (89, ([(0, (1, 0)), (1, (0, 0))], [], dC421, dT422, dG423, [], [], [(1, 0, 0, 0, [])], 0, 0), [([], [(0, 15)], dP424, [], [], [(0, 30)], [], [], [(14, 21, 0), (21, 14, 0)], [(1, 0, 0, 0, [])], 0, 0)], 1, 80, 0, 0)
noncomputable def k247_a : ckAs := []
noncomputable def k247_c : List (Nat × ckCtr) := []
theorem k247_ok (l : Launch) : ckCtrOk l ckMT ckTW ckCL k247 := mt_89 (as := k247_a) (cs := k247_c) (gx := []) (f := 200000) rfl (fun _ h => absurd h List.not_mem_nil) True.intro (by decide +kernel)
-- FarMachineModel.power
noncomputable def k248 : ckCtr := (50, ([(0, (1, 0))], [], [.inr (0, 0, 0)], [(318, 318)], dG423, [], [], [(1, 0, 0, 0, [])], 0, 0), [([], [(0, 1)], [], [], [], [ckTop], [], [], [], [(1, 0, 0, 0, [])], 0, 0)], 2, 100, 0, 0)
noncomputable def k248_a : ckAs := [(4, [(156723, [(1, 0, 1, ([(0, (1, 0)), (1, (0, 3)), (2, (0, 4))], [], [], [], [], [ckTop, (0, 8)], [], [], [], [(1, 0, 0, 0, [])], 0, 0))])])]
noncomputable def k248_c : List (Nat × ckCtr) := [(23, k94)]
theorem k248_ok (l : Launch) : ckCtrOk l ckMT ckTW ckCL k248 := mt_50 (as := k248_a) (cs := k248_c) (gx := []) (f := 200000) rfl (ckHc (k94_ok l) (fun _ h => absurd h List.not_mem_nil)) True.intro (by decide +kernel)
-- FarMachineModel.ons
noncomputable def k249 : ckCtr := (52, ([(0, (1, 0))], [], [.inr (0, 0, 0)], [(318, 318)], dG423, [], [], [(1, 0, 0, 0, [])], 0, 0), [([], [(0, 1)], [], [], [], [ckTop], [], [], [], [(1, 0, 0, 0, [])], 0, 0)], 1, 80, 0, 0)
noncomputable def k249_a : ckAs := [(4, [(156723, [(1, 0, 1, ([(0, (1, 0)), (1, (0, 3)), (2, (0, 4))], [], [], [], [], [ckTop, (0, 8)], [], [], [], [(1, 0, 0, 0, [])], 0, 0))])])]
noncomputable def k249_c : List (Nat × ckCtr) := []
theorem k249_ok (l : Launch) : ckCtrOk l ckMT ckTW ckCL k249 := mt_52 (as := k249_a) (cs := k249_c) (gx := []) (f := 200000) rfl (fun _ h => absurd h List.not_mem_nil) True.intro (by decide +kernel)
noncomputable def dT425 : List ckI := [ckTop, (0, 1), (0, 1), ckTop, ckTop, ckTop, ckTop, ckTop, ckTop, ckTop, ckTop, ckTop, ckTop, ckTop, (0, 29), (0, 0), (0, 30), (0, 1), ckTop, (0, 1), (318, 318)]
noncomputable def dP426 : List (Nat × ckC) := [(0, .inl (9, [(4, 10), (1, 1), (4, 11), (4, 12), (4, 13), (4, 14), (4, 15), (4, 16), (4, 17), (4, 18), (4, 19), (4, 20), (4, 21), (4, 22), (4, 23), (4, 24), (0, 1), (0, 2), (0, 3), (0, 4), (0, 5), (0, 6), (0, 7), (4, 25), (0, 8), (4, 26), (0, 9), (0, 10), (0, 11), (0, 12), (4, 27), (0, 13), (0, 22), (0, 15), (0, 16), (4, 27), (1, 1), (0, 23), (4, 28), (4, 29), (0, 18), (0, 19)]))]
-- FarMachineModel.letter
noncomputable def k250 : ckCtr := (89, ([(0, (1, 0)), (1, (0, 0))], [], dC421, dT425, dG423, [], [], [(1, 0, 0, 0, [])], 0, 0), [([], [(0, 21)], dP426, [], [], [ckTop, (0, 30), (0, 1)], [], [], [(14, 22, 0), (22, 14, 1), (23, 17, 0), (23, 22, 0)], [(1, 0, 0, 0, [])], 0, 0)], 3, 122, 0, 0)
noncomputable def k250_a : ckAs := []
noncomputable def k250_c : List (Nat × ckCtr) := [(171, k248), (179, k249), (182, k106)]
theorem k250_ok (l : Launch) : ckCtrOk l ckMT ckTW ckCL k250 := mt_89 (as := k250_a) (cs := k250_c) (gx := []) (f := 200000) rfl (ckHc (k248_ok l) (ckHc (k249_ok l) (ckHc (k106_ok l) (fun _ h => absurd h List.not_mem_nil)))) True.intro (by decide +kernel)
noncomputable def dT427 : List ckI := [(0, 1), (0, 1), ckTop, ckTop, ckTop, ckTop, ckTop, ckTop, ckTop, ckTop, ckTop, ckTop, ckTop, (0, 29), (0, 0), (0, 30), (0, 1), ckTop, (0, 1), (30, 30)]
-- FarMachineModel.sign
noncomputable def k251 : ckCtr := (83, ([(0, (1, 0))], [], dC416, dT427, [([(30, ckTop)], [], [])], [], [], [], 0, 0), [([], [(0, 20)], [], [], [(15, (0, 29))], [(-1, -1)], [], [], [(15, 13, 0)], [], 0, 0), ([], [(0, 20)], [], [], [(15, (1, 30))], [ckTop], [], [], [(13, 15, (-1))], [], 0, 0)], 1, 80, 0, 0)
noncomputable def k251_a : ckAs := []
noncomputable def k251_c : List (Nat × ckCtr) := []
theorem k251_ok (l : Launch) : ckCtrOk l ckMT ckTW ckCL k251 := mt_83 (as := k251_a) (cs := k251_c) (gx := []) (f := 200000) rfl (fun _ h => absurd h List.not_mem_nil) True.intro (by decide +kernel)
noncomputable def dC428 : List ckC := [.inl (9, [(4, 10), (1, 1), (4, 11), (4, 12), (4, 13), (4, 14), (4, 15), (4, 16), (4, 17), (4, 18), (4, 19), (4, 20), (4, 21), (4, 22), (4, 23), (4, 24), (0, 0), (0, 1), (0, 2), (0, 3), (0, 4), (0, 5), (0, 6), (4, 25), (0, 7), (4, 26), (0, 8), (0, 9), (0, 10), (0, 11), (1, 2), (0, 12), (0, 13), (0, 14), (0, 15), (1, 2), (1, 1), (0, 16), (4, 27), (4, 28), (0, 17), (0, 18)]), .inr (0, 19, 0), .inr (0, 20, 1)]
noncomputable def dT429 : List ckI := [(0, 1), (0, 1), ckTop, ckTop, ckTop, ckTop, ckTop, ckTop, ckTop, ckTop, ckTop, ckTop, ckTop, (0, 30), (0, 0), (0, 30), (0, 1), ckTop, (0, 1), (318, 318), (30, 30)]
noncomputable def dG430 : List ckG := [([(48, ckTop), (49, (0, 47)), (55, ckTop), (56, ckTop), (58, ckTop), (59, ckTop), (76, ckTop), (77, (0, 30)), (197, ckTop), (198, (0, 60)), (318, ckTop)], [], []), ([(30, ckTop)], [], [])]
noncomputable def dP431 : List (Nat × ckC) := [(0, .inl (9, [(4, 10), (1, 1), (4, 11), (4, 12), (4, 13), (4, 14), (4, 15), (4, 16), (4, 17), (4, 18), (4, 19), (4, 20), (4, 21), (4, 22), (4, 23), (4, 24), (0, 0), (0, 1), (0, 2), (0, 3), (0, 4), (0, 5), (0, 6), (4, 25), (0, 7), (4, 26), (0, 8), (0, 9), (0, 10), (0, 11), (1, 2), (0, 12), (0, 22), (0, 14), (0, 15), (1, 2), (1, 1), (0, 23), (4, 27), (4, 28), (0, 17), (0, 18)]))]
noncomputable def dP432 : List (Nat × ckC) := [(0, .inl (9, [(4, 10), (1, 1), (4, 11), (4, 12), (4, 13), (4, 14), (4, 15), (4, 16), (4, 17), (4, 18), (4, 19), (4, 20), (4, 21), (4, 22), (4, 23), (4, 24), (0, 0), (0, 1), (0, 2), (0, 3), (0, 4), (0, 5), (0, 6), (4, 25), (0, 7), (4, 26), (0, 8), (0, 9), (0, 10), (0, 11), (1, 2), (0, 12), (0, 29), (0, 14), (0, 15), (1, 2), (1, 1), (0, 16), (4, 27), (4, 28), (0, 17), (0, 18)]))]
noncomputable def dZ433 : List ckZ := [(13, 15, (-1)), (13, 29, 0), (28, 15, 0), (28, 29, 0), (29, 15, 0), (29, 28, 29)]
noncomputable def dP434 : List (Nat × ckC) := [(0, .inl (9, [(4, 10), (1, 1), (4, 11), (4, 12), (4, 13), (4, 14), (4, 15), (4, 16), (4, 17), (4, 18), (4, 19), (4, 20), (4, 21), (4, 22), (4, 23), (4, 24), (0, 0), (0, 1), (0, 2), (0, 3), (0, 4), (0, 5), (0, 6), (4, 25), (0, 7), (4, 26), (0, 8), (0, 9), (0, 10), (0, 11), (1, 2), (0, 12), (0, 30), (0, 14), (0, 15), (1, 2), (1, 1), (0, 16), (4, 27), (4, 28), (0, 17), (0, 18)]))]
noncomputable def dZ435 : List ckZ := [(13, 15, (-1)), (13, 25, (-1)), (13, 30, (-1)), (25, 13, 1), (25, 15, 0), (25, 30, 0), (29, 15, (-1)), (29, 30, (-1)), (30, 15, 0)]
-- FarMachineModel.unit
noncomputable def k252 : ckCtr := (88, ([(0, (1, 0))], [], dC428, dT429, dG430, [], [], [(1, 0, 0, 0, [])], 0, 0), [([], [(0, 21)], dP431, [], [], [ckTop, (0, 30), (0, 1)], [], [], [(13, 22, 0), (23, 15, 0), (23, 16, 0), (23, 22, 0)], [(1, 0, 0, 0, [])], 0, 0)], 4, 143, 0, 0)
noncomputable def k252_a : ckAs := [(53, [(480548, [(1, 0, 1, ([(0, (1, 0)), (1, (0, 21)), (2, (0, 27)), (3, (0, 28))], [], dP432, [], [], [ckTop, (0, 3), (0, 30)], [], [], dZ433, [(1, 0, 0, 0, [])], 0, 0))]), (89035, [(1, 0, 1, ([(0, (1, 0)), (1, (0, 21)), (2, (0, 28)), (3, (0, 29))], [], dP434, [], [], [ckTop, (0, 3), (1, 30)], [], [], dZ435, [(1, 0, 0, 0, [])], 0, 0))])])]
noncomputable def k252_c : List (Nat × ckCtr) := [(10, k244), (21, k246), (29, k247), (29, k250), (59, k244), (62, k246), (73, k251)]
theorem k252_ok (l : Launch) : ckCtrOk l ckMT ckTW ckCL k252 := mt_88 (as := k252_a) (cs := k252_c) (gx := []) (f := 200000) rfl (ckHc (k244_ok l) (ckHc (k246_ok l) (ckHc (k247_ok l) (ckHc (k250_ok l) (ckHc (k244_ok l) (ckHc (k246_ok l) (ckHc (k251_ok l) (fun _ h => absurd h List.not_mem_nil)))))))) True.intro (by decide +kernel)
noncomputable def dT436 : List ckI := [(0, 1), (0, 1), ckTop, ckTop, ckTop, ckTop, ckTop, ckTop, ckTop, ckTop, ckTop, ckTop, ckTop, (30, 30), (0, 0), (0, 30), (0, 1), ckTop, (0, 1), (318, 318), (30, 30)]
noncomputable def dP437 : List (Nat × ckC) := [(0, .inl (9, [(4, 10), (1, 1), (4, 11), (4, 12), (4, 13), (4, 14), (4, 15), (4, 16), (4, 17), (4, 18), (4, 19), (4, 20), (4, 21), (4, 22), (4, 23), (4, 24), (0, 0), (0, 1), (0, 2), (0, 3), (0, 4), (0, 5), (0, 6), (4, 25), (0, 7), (4, 26), (0, 8), (0, 9), (0, 10), (0, 11), (1, 2), (0, 12), (0, 13), (0, 14), (0, 15), (1, 2), (1, 1), (0, 14), (4, 27), (4, 28), (0, 17), (0, 18)]))]
-- FarMachineModel.test
noncomputable def k253 : ckCtr := (86, ([(0, (1, 0))], [], dC428, dT436, dG430, [], [], [(1, 0, 0, 0, [])], 0, 0), [([], [(0, 14)], dP437, [], [], [], [], [], [], [(1, 0, 0, 0, [])], 0, 0)], 5, 166, 0, 0)
noncomputable def k253_a : ckAs := []
noncomputable def k253_c : List (Nat × ckCtr) := [(3, k245), (23, k252), (28, k244)]
theorem k253_ok (l : Launch) : ckCtrOk l ckMT ckTW ckCL k253 := mt_86 (as := k253_a) (cs := k253_c) (gx := []) (f := 200000) rfl (ckHc (k245_ok l) (ckHc (k252_ok l) (ckHc (k244_ok l) (fun _ h => absurd h List.not_mem_nil)))) True.intro (by decide +kernel)
noncomputable def dT438 : List ckI := [(0, 1), (0, 1), ckTop, ckTop, ckTop, ckTop, ckTop, ckTop, ckTop, ckTop, ckTop, ckTop, ckTop, (29, 30), (0, 0), (0, 30), (0, 1), ckTop, (0, 1), (318, 318), (30, 30)]
noncomputable def dZ439 : List ckZ := [(13, 22, 0), (21, 15, 0), (21, 16, 0), (21, 22, (-29)), (23, 15, 0), (23, 16, 0), (23, 22, (-29))]
-- FarMachineModel.test
noncomputable def k254 : ckCtr := (86, ([(0, (1, 0))], [], dC428, dT438, dG430, [], [], [(1, 0, 0, 0, [])], 0, 0), [([], [(0, 21)], dP431, [], [], [(0, 1), (29, 30), (0, 1)], [], [], dZ439, [(1, 0, 0, 0, [])], 0, 0)], 6, 189, 0, 0)
noncomputable def k254_a : ckAs := []
noncomputable def k254_c : List (Nat × ckCtr) := [(3, k245), (10, k253), (23, k252), (28, k244), (75, k252)]
theorem k254_ok (l : Launch) : ckCtrOk l ckMT ckTW ckCL k254 := mt_86 (as := k254_a) (cs := k254_c) (gx := []) (f := 200000) rfl (ckHc (k245_ok l) (ckHc (k253_ok l) (ckHc (k252_ok l) (ckHc (k244_ok l) (ckHc (k252_ok l) (fun _ h => absurd h List.not_mem_nil)))))) True.intro (by decide +kernel)
noncomputable def dT440 : List ckI := [(0, 1), (0, 1), ckTop, ckTop, ckTop, ckTop, ckTop, ckTop, ckTop, ckTop, ckTop, ckTop, ckTop, (28, 30), (0, 0), (0, 30), (0, 1), ckTop, (0, 1), (318, 318), (30, 30)]
noncomputable def dZ441 : List ckZ := [(13, 22, 0), (21, 15, 0), (21, 16, 0), (21, 22, (-28)), (23, 15, 0), (23, 16, 0), (23, 22, (-28))]
-- FarMachineModel.test
noncomputable def k255 : ckCtr := (86, ([(0, (1, 0))], [], dC428, dT440, dG430, [], [], [(1, 0, 0, 0, [])], 0, 0), [([], [(0, 21)], dP431, [], [], [(0, 1), (28, 30), (0, 1)], [], [], dZ441, [(1, 0, 0, 0, [])], 0, 0)], 7, 212, 0, 0)
noncomputable def k255_a : ckAs := []
noncomputable def k255_c : List (Nat × ckCtr) := [(3, k245), (10, k254), (23, k252), (28, k244), (75, k252)]
theorem k255_ok (l : Launch) : ckCtrOk l ckMT ckTW ckCL k255 := mt_86 (as := k255_a) (cs := k255_c) (gx := []) (f := 200000) rfl (ckHc (k245_ok l) (ckHc (k254_ok l) (ckHc (k252_ok l) (ckHc (k244_ok l) (ckHc (k252_ok l) (fun _ h => absurd h List.not_mem_nil)))))) True.intro (by decide +kernel)
noncomputable def dT442 : List ckI := [(0, 1), (0, 1), ckTop, ckTop, ckTop, ckTop, ckTop, ckTop, ckTop, ckTop, ckTop, ckTop, ckTop, (27, 30), (0, 0), (0, 30), (0, 1), ckTop, (0, 1), (318, 318), (30, 30)]
noncomputable def dZ443 : List ckZ := [(13, 22, 0), (21, 15, 0), (21, 16, 0), (21, 22, (-27)), (23, 15, 0), (23, 16, 0), (23, 22, (-27))]
-- FarMachineModel.test
noncomputable def k256 : ckCtr := (86, ([(0, (1, 0))], [], dC428, dT442, dG430, [], [], [(1, 0, 0, 0, [])], 0, 0), [([], [(0, 21)], dP431, [], [], [(0, 1), (27, 30), (0, 1)], [], [], dZ443, [(1, 0, 0, 0, [])], 0, 0)], 8, 235, 0, 0)
noncomputable def k256_a : ckAs := []
noncomputable def k256_c : List (Nat × ckCtr) := [(3, k245), (10, k255), (23, k252), (28, k244), (75, k252)]
theorem k256_ok (l : Launch) : ckCtrOk l ckMT ckTW ckCL k256 := mt_86 (as := k256_a) (cs := k256_c) (gx := []) (f := 200000) rfl (ckHc (k245_ok l) (ckHc (k255_ok l) (ckHc (k252_ok l) (ckHc (k244_ok l) (ckHc (k252_ok l) (fun _ h => absurd h List.not_mem_nil)))))) True.intro (by decide +kernel)
noncomputable def dT444 : List ckI := [(0, 1), (0, 1), ckTop, ckTop, ckTop, ckTop, ckTop, ckTop, ckTop, ckTop, ckTop, ckTop, ckTop, (26, 30), (0, 0), (0, 30), (0, 1), ckTop, (0, 1), (318, 318), (30, 30)]
noncomputable def dZ445 : List ckZ := [(13, 22, 0), (21, 15, 0), (21, 16, 0), (21, 22, (-26)), (23, 15, 0), (23, 16, 0), (23, 22, (-26))]
-- FarMachineModel.test
noncomputable def k257 : ckCtr := (86, ([(0, (1, 0))], [], dC428, dT444, dG430, [], [], [(1, 0, 0, 0, [])], 0, 0), [([], [(0, 21)], dP431, [], [], [(0, 1), (26, 30), (0, 1)], [], [], dZ445, [(1, 0, 0, 0, [])], 0, 0)], 9, 258, 0, 0)
noncomputable def k257_a : ckAs := []
noncomputable def k257_c : List (Nat × ckCtr) := [(3, k245), (10, k256), (23, k252), (28, k244), (75, k252)]
theorem k257_ok (l : Launch) : ckCtrOk l ckMT ckTW ckCL k257 := mt_86 (as := k257_a) (cs := k257_c) (gx := []) (f := 200000) rfl (ckHc (k245_ok l) (ckHc (k256_ok l) (ckHc (k252_ok l) (ckHc (k244_ok l) (ckHc (k252_ok l) (fun _ h => absurd h List.not_mem_nil)))))) True.intro (by decide +kernel)
noncomputable def dT446 : List ckI := [(0, 1), (0, 1), ckTop, ckTop, ckTop, ckTop, ckTop, ckTop, ckTop, ckTop, ckTop, ckTop, ckTop, (25, 30), (0, 0), (0, 30), (0, 1), ckTop, (0, 1), (318, 318), (30, 30)]
noncomputable def dZ447 : List ckZ := [(13, 22, 0), (21, 15, 0), (21, 16, 0), (21, 22, (-25)), (23, 15, 0), (23, 16, 0), (23, 22, (-25))]
-- FarMachineModel.test
noncomputable def k258 : ckCtr := (86, ([(0, (1, 0))], [], dC428, dT446, dG430, [], [], [(1, 0, 0, 0, [])], 0, 0), [([], [(0, 21)], dP431, [], [], [(0, 1), (25, 30), (0, 1)], [], [], dZ447, [(1, 0, 0, 0, [])], 0, 0)], 10, 281, 0, 0)
noncomputable def k258_a : ckAs := []
noncomputable def k258_c : List (Nat × ckCtr) := [(3, k245), (10, k257), (23, k252), (28, k244), (75, k252)]
theorem k258_ok (l : Launch) : ckCtrOk l ckMT ckTW ckCL k258 := mt_86 (as := k258_a) (cs := k258_c) (gx := []) (f := 200000) rfl (ckHc (k245_ok l) (ckHc (k257_ok l) (ckHc (k252_ok l) (ckHc (k244_ok l) (ckHc (k252_ok l) (fun _ h => absurd h List.not_mem_nil)))))) True.intro (by decide +kernel)
noncomputable def dT448 : List ckI := [(0, 1), (0, 1), ckTop, ckTop, ckTop, ckTop, ckTop, ckTop, ckTop, ckTop, ckTop, ckTop, ckTop, (24, 30), (0, 0), (0, 30), (0, 1), ckTop, (0, 1), (318, 318), (30, 30)]
noncomputable def dZ449 : List ckZ := [(13, 22, 0), (21, 15, 0), (21, 16, 0), (21, 22, (-24)), (23, 15, 0), (23, 16, 0), (23, 22, (-24))]
-- FarMachineModel.test
noncomputable def k259 : ckCtr := (86, ([(0, (1, 0))], [], dC428, dT448, dG430, [], [], [(1, 0, 0, 0, [])], 0, 0), [([], [(0, 21)], dP431, [], [], [(0, 1), (24, 30), (0, 1)], [], [], dZ449, [(1, 0, 0, 0, [])], 0, 0)], 11, 304, 0, 0)
noncomputable def k259_a : ckAs := []
noncomputable def k259_c : List (Nat × ckCtr) := [(3, k245), (10, k258), (23, k252), (28, k244), (75, k252)]
theorem k259_ok (l : Launch) : ckCtrOk l ckMT ckTW ckCL k259 := mt_86 (as := k259_a) (cs := k259_c) (gx := []) (f := 200000) rfl (ckHc (k245_ok l) (ckHc (k258_ok l) (ckHc (k252_ok l) (ckHc (k244_ok l) (ckHc (k252_ok l) (fun _ h => absurd h List.not_mem_nil)))))) True.intro (by decide +kernel)
noncomputable def dT450 : List ckI := [(0, 1), (0, 1), ckTop, ckTop, ckTop, ckTop, ckTop, ckTop, ckTop, ckTop, ckTop, ckTop, ckTop, (23, 30), (0, 0), (0, 30), (0, 1), ckTop, (0, 1), (318, 318), (30, 30)]
noncomputable def dZ451 : List ckZ := [(13, 22, 0), (21, 15, 0), (21, 16, 0), (21, 22, (-23)), (23, 15, 0), (23, 16, 0), (23, 22, (-23))]
-- FarMachineModel.test
noncomputable def k260 : ckCtr := (86, ([(0, (1, 0))], [], dC428, dT450, dG430, [], [], [(1, 0, 0, 0, [])], 0, 0), [([], [(0, 21)], dP431, [], [], [(0, 1), (23, 30), (0, 1)], [], [], dZ451, [(1, 0, 0, 0, [])], 0, 0)], 12, 327, 0, 0)
noncomputable def k260_a : ckAs := []
noncomputable def k260_c : List (Nat × ckCtr) := [(3, k245), (10, k259), (23, k252), (28, k244), (75, k252)]
theorem k260_ok (l : Launch) : ckCtrOk l ckMT ckTW ckCL k260 := mt_86 (as := k260_a) (cs := k260_c) (gx := []) (f := 200000) rfl (ckHc (k245_ok l) (ckHc (k259_ok l) (ckHc (k252_ok l) (ckHc (k244_ok l) (ckHc (k252_ok l) (fun _ h => absurd h List.not_mem_nil)))))) True.intro (by decide +kernel)
noncomputable def dT452 : List ckI := [(0, 1), (0, 1), ckTop, ckTop, ckTop, ckTop, ckTop, ckTop, ckTop, ckTop, ckTop, ckTop, ckTop, (22, 30), (0, 0), (0, 30), (0, 1), ckTop, (0, 1), (318, 318), (30, 30)]
noncomputable def dZ453 : List ckZ := [(13, 22, 0), (21, 15, 0), (21, 16, 0), (21, 22, (-22)), (23, 15, 0), (23, 16, 0), (23, 22, (-22))]
-- FarMachineModel.test
noncomputable def k261 : ckCtr := (86, ([(0, (1, 0))], [], dC428, dT452, dG430, [], [], [(1, 0, 0, 0, [])], 0, 0), [([], [(0, 21)], dP431, [], [], [(0, 1), (22, 30), (0, 1)], [], [], dZ453, [(1, 0, 0, 0, [])], 0, 0)], 13, 350, 0, 0)
noncomputable def k261_a : ckAs := []
noncomputable def k261_c : List (Nat × ckCtr) := [(3, k245), (10, k260), (23, k252), (28, k244), (75, k252)]
theorem k261_ok (l : Launch) : ckCtrOk l ckMT ckTW ckCL k261 := mt_86 (as := k261_a) (cs := k261_c) (gx := []) (f := 200000) rfl (ckHc (k245_ok l) (ckHc (k260_ok l) (ckHc (k252_ok l) (ckHc (k244_ok l) (ckHc (k252_ok l) (fun _ h => absurd h List.not_mem_nil)))))) True.intro (by decide +kernel)
noncomputable def dT454 : List ckI := [(0, 1), (0, 1), ckTop, ckTop, ckTop, ckTop, ckTop, ckTop, ckTop, ckTop, ckTop, ckTop, ckTop, (21, 30), (0, 0), (0, 30), (0, 1), ckTop, (0, 1), (318, 318), (30, 30)]
noncomputable def dZ455 : List ckZ := [(13, 22, 0), (21, 15, 0), (21, 16, 0), (21, 22, (-21)), (23, 15, 0), (23, 16, 0), (23, 22, (-21))]
-- FarMachineModel.test
noncomputable def k262 : ckCtr := (86, ([(0, (1, 0))], [], dC428, dT454, dG430, [], [], [(1, 0, 0, 0, [])], 0, 0), [([], [(0, 21)], dP431, [], [], [(0, 1), (21, 30), (0, 1)], [], [], dZ455, [(1, 0, 0, 0, [])], 0, 0)], 14, 373, 0, 0)
noncomputable def k262_a : ckAs := []
noncomputable def k262_c : List (Nat × ckCtr) := [(3, k245), (10, k261), (23, k252), (28, k244), (75, k252)]
theorem k262_ok (l : Launch) : ckCtrOk l ckMT ckTW ckCL k262 := mt_86 (as := k262_a) (cs := k262_c) (gx := []) (f := 200000) rfl (ckHc (k245_ok l) (ckHc (k261_ok l) (ckHc (k252_ok l) (ckHc (k244_ok l) (ckHc (k252_ok l) (fun _ h => absurd h List.not_mem_nil)))))) True.intro (by decide +kernel)
noncomputable def dT456 : List ckI := [(0, 1), (0, 1), ckTop, ckTop, ckTop, ckTop, ckTop, ckTop, ckTop, ckTop, ckTop, ckTop, ckTop, (20, 30), (0, 0), (0, 30), (0, 1), ckTop, (0, 1), (318, 318), (30, 30)]
noncomputable def dZ457 : List ckZ := [(13, 22, 0), (21, 15, 0), (21, 16, 0), (21, 22, (-20)), (23, 15, 0), (23, 16, 0), (23, 22, (-20))]
-- FarMachineModel.test
noncomputable def k263 : ckCtr := (86, ([(0, (1, 0))], [], dC428, dT456, dG430, [], [], [(1, 0, 0, 0, [])], 0, 0), [([], [(0, 21)], dP431, [], [], [(0, 1), (20, 30), (0, 1)], [], [], dZ457, [(1, 0, 0, 0, [])], 0, 0)], 15, 396, 0, 0)
noncomputable def k263_a : ckAs := []
noncomputable def k263_c : List (Nat × ckCtr) := [(3, k245), (10, k262), (23, k252), (28, k244), (75, k252)]
theorem k263_ok (l : Launch) : ckCtrOk l ckMT ckTW ckCL k263 := mt_86 (as := k263_a) (cs := k263_c) (gx := []) (f := 200000) rfl (ckHc (k245_ok l) (ckHc (k262_ok l) (ckHc (k252_ok l) (ckHc (k244_ok l) (ckHc (k252_ok l) (fun _ h => absurd h List.not_mem_nil)))))) True.intro (by decide +kernel)
noncomputable def dT458 : List ckI := [(0, 1), (0, 1), ckTop, ckTop, ckTop, ckTop, ckTop, ckTop, ckTop, ckTop, ckTop, ckTop, ckTop, (19, 30), (0, 0), (0, 30), (0, 1), ckTop, (0, 1), (318, 318), (30, 30)]
noncomputable def dZ459 : List ckZ := [(13, 22, 0), (21, 15, 0), (21, 16, 0), (21, 22, (-19)), (23, 15, 0), (23, 16, 0), (23, 22, (-19))]
-- FarMachineModel.test
noncomputable def k264 : ckCtr := (86, ([(0, (1, 0))], [], dC428, dT458, dG430, [], [], [(1, 0, 0, 0, [])], 0, 0), [([], [(0, 21)], dP431, [], [], [(0, 1), (19, 30), (0, 1)], [], [], dZ459, [(1, 0, 0, 0, [])], 0, 0)], 16, 419, 0, 0)
noncomputable def k264_a : ckAs := []
noncomputable def k264_c : List (Nat × ckCtr) := [(3, k245), (10, k263), (23, k252), (28, k244), (75, k252)]
theorem k264_ok (l : Launch) : ckCtrOk l ckMT ckTW ckCL k264 := mt_86 (as := k264_a) (cs := k264_c) (gx := []) (f := 200000) rfl (ckHc (k245_ok l) (ckHc (k263_ok l) (ckHc (k252_ok l) (ckHc (k244_ok l) (ckHc (k252_ok l) (fun _ h => absurd h List.not_mem_nil)))))) True.intro (by decide +kernel)
noncomputable def dT460 : List ckI := [(0, 1), (0, 1), ckTop, ckTop, ckTop, ckTop, ckTop, ckTop, ckTop, ckTop, ckTop, ckTop, ckTop, (18, 30), (0, 0), (0, 30), (0, 1), ckTop, (0, 1), (318, 318), (30, 30)]
noncomputable def dZ461 : List ckZ := [(13, 22, 0), (21, 15, 0), (21, 16, 0), (21, 22, (-18)), (23, 15, 0), (23, 16, 0), (23, 22, (-18))]
-- FarMachineModel.test
noncomputable def k265 : ckCtr := (86, ([(0, (1, 0))], [], dC428, dT460, dG430, [], [], [(1, 0, 0, 0, [])], 0, 0), [([], [(0, 21)], dP431, [], [], [(0, 1), (18, 30), (0, 1)], [], [], dZ461, [(1, 0, 0, 0, [])], 0, 0)], 17, 442, 0, 0)
noncomputable def k265_a : ckAs := []
noncomputable def k265_c : List (Nat × ckCtr) := [(3, k245), (10, k264), (23, k252), (28, k244), (75, k252)]
theorem k265_ok (l : Launch) : ckCtrOk l ckMT ckTW ckCL k265 := mt_86 (as := k265_a) (cs := k265_c) (gx := []) (f := 200000) rfl (ckHc (k245_ok l) (ckHc (k264_ok l) (ckHc (k252_ok l) (ckHc (k244_ok l) (ckHc (k252_ok l) (fun _ h => absurd h List.not_mem_nil)))))) True.intro (by decide +kernel)
noncomputable def dT462 : List ckI := [(0, 1), (0, 1), ckTop, ckTop, ckTop, ckTop, ckTop, ckTop, ckTop, ckTop, ckTop, ckTop, ckTop, (17, 30), (0, 0), (0, 30), (0, 1), ckTop, (0, 1), (318, 318), (30, 30)]
noncomputable def dZ463 : List ckZ := [(13, 22, 0), (21, 15, 0), (21, 16, 0), (21, 22, (-17)), (23, 15, 0), (23, 16, 0), (23, 22, (-17))]
-- FarMachineModel.test
noncomputable def k266 : ckCtr := (86, ([(0, (1, 0))], [], dC428, dT462, dG430, [], [], [(1, 0, 0, 0, [])], 0, 0), [([], [(0, 21)], dP431, [], [], [(0, 1), (17, 30), (0, 1)], [], [], dZ463, [(1, 0, 0, 0, [])], 0, 0)], 18, 465, 0, 0)
noncomputable def k266_a : ckAs := []
noncomputable def k266_c : List (Nat × ckCtr) := [(3, k245), (10, k265), (23, k252), (28, k244), (75, k252)]
theorem k266_ok (l : Launch) : ckCtrOk l ckMT ckTW ckCL k266 := mt_86 (as := k266_a) (cs := k266_c) (gx := []) (f := 200000) rfl (ckHc (k245_ok l) (ckHc (k265_ok l) (ckHc (k252_ok l) (ckHc (k244_ok l) (ckHc (k252_ok l) (fun _ h => absurd h List.not_mem_nil)))))) True.intro (by decide +kernel)
noncomputable def dT464 : List ckI := [(0, 1), (0, 1), ckTop, ckTop, ckTop, ckTop, ckTop, ckTop, ckTop, ckTop, ckTop, ckTop, ckTop, (16, 30), (0, 0), (0, 30), (0, 1), ckTop, (0, 1), (318, 318), (30, 30)]
noncomputable def dZ465 : List ckZ := [(13, 22, 0), (21, 15, 0), (21, 16, 0), (21, 22, (-16)), (23, 15, 0), (23, 16, 0), (23, 22, (-16))]
-- FarMachineModel.test
noncomputable def k267 : ckCtr := (86, ([(0, (1, 0))], [], dC428, dT464, dG430, [], [], [(1, 0, 0, 0, [])], 0, 0), [([], [(0, 21)], dP431, [], [], [(0, 1), (16, 30), (0, 1)], [], [], dZ465, [(1, 0, 0, 0, [])], 0, 0)], 19, 488, 0, 0)
noncomputable def k267_a : ckAs := []
noncomputable def k267_c : List (Nat × ckCtr) := [(3, k245), (10, k266), (23, k252), (28, k244), (75, k252)]
theorem k267_ok (l : Launch) : ckCtrOk l ckMT ckTW ckCL k267 := mt_86 (as := k267_a) (cs := k267_c) (gx := []) (f := 200000) rfl (ckHc (k245_ok l) (ckHc (k266_ok l) (ckHc (k252_ok l) (ckHc (k244_ok l) (ckHc (k252_ok l) (fun _ h => absurd h List.not_mem_nil)))))) True.intro (by decide +kernel)
noncomputable def dT466 : List ckI := [(0, 1), (0, 1), ckTop, ckTop, ckTop, ckTop, ckTop, ckTop, ckTop, ckTop, ckTop, ckTop, ckTop, (15, 30), (0, 0), (0, 30), (0, 1), ckTop, (0, 1), (318, 318), (30, 30)]
noncomputable def dZ467 : List ckZ := [(13, 22, 0), (21, 15, 0), (21, 16, 0), (21, 22, (-15)), (23, 15, 0), (23, 16, 0), (23, 22, (-15))]
-- FarMachineModel.test
noncomputable def k268 : ckCtr := (86, ([(0, (1, 0))], [], dC428, dT466, dG430, [], [], [(1, 0, 0, 0, [])], 0, 0), [([], [(0, 21)], dP431, [], [], [(0, 1), (15, 30), (0, 1)], [], [], dZ467, [(1, 0, 0, 0, [])], 0, 0)], 20, 511, 0, 0)
noncomputable def k268_a : ckAs := []
noncomputable def k268_c : List (Nat × ckCtr) := [(3, k245), (10, k267), (23, k252), (28, k244), (75, k252)]
theorem k268_ok (l : Launch) : ckCtrOk l ckMT ckTW ckCL k268 := mt_86 (as := k268_a) (cs := k268_c) (gx := []) (f := 200000) rfl (ckHc (k245_ok l) (ckHc (k267_ok l) (ckHc (k252_ok l) (ckHc (k244_ok l) (ckHc (k252_ok l) (fun _ h => absurd h List.not_mem_nil)))))) True.intro (by decide +kernel)
noncomputable def dT468 : List ckI := [(0, 1), (0, 1), ckTop, ckTop, ckTop, ckTop, ckTop, ckTop, ckTop, ckTop, ckTop, ckTop, ckTop, (14, 30), (0, 0), (0, 30), (0, 1), ckTop, (0, 1), (318, 318), (30, 30)]
noncomputable def dZ469 : List ckZ := [(13, 22, 0), (21, 15, 0), (21, 16, 0), (21, 22, (-14)), (23, 15, 0), (23, 16, 0), (23, 22, (-14))]
-- FarMachineModel.test
noncomputable def k269 : ckCtr := (86, ([(0, (1, 0))], [], dC428, dT468, dG430, [], [], [(1, 0, 0, 0, [])], 0, 0), [([], [(0, 21)], dP431, [], [], [(0, 1), (14, 30), (0, 1)], [], [], dZ469, [(1, 0, 0, 0, [])], 0, 0)], 21, 534, 0, 0)
noncomputable def k269_a : ckAs := []
noncomputable def k269_c : List (Nat × ckCtr) := [(3, k245), (10, k268), (23, k252), (28, k244), (75, k252)]
theorem k269_ok (l : Launch) : ckCtrOk l ckMT ckTW ckCL k269 := mt_86 (as := k269_a) (cs := k269_c) (gx := []) (f := 200000) rfl (ckHc (k245_ok l) (ckHc (k268_ok l) (ckHc (k252_ok l) (ckHc (k244_ok l) (ckHc (k252_ok l) (fun _ h => absurd h List.not_mem_nil)))))) True.intro (by decide +kernel)
noncomputable def dT470 : List ckI := [(0, 1), (0, 1), ckTop, ckTop, ckTop, ckTop, ckTop, ckTop, ckTop, ckTop, ckTop, ckTop, ckTop, (13, 30), (0, 0), (0, 30), (0, 1), ckTop, (0, 1), (318, 318), (30, 30)]
noncomputable def dZ471 : List ckZ := [(13, 22, 0), (21, 15, 0), (21, 16, 0), (21, 22, (-13)), (23, 15, 0), (23, 16, 0), (23, 22, (-13))]
-- FarMachineModel.test
noncomputable def k270 : ckCtr := (86, ([(0, (1, 0))], [], dC428, dT470, dG430, [], [], [(1, 0, 0, 0, [])], 0, 0), [([], [(0, 21)], dP431, [], [], [(0, 1), (13, 30), (0, 1)], [], [], dZ471, [(1, 0, 0, 0, [])], 0, 0)], 22, 557, 0, 0)
noncomputable def k270_a : ckAs := []
noncomputable def k270_c : List (Nat × ckCtr) := [(3, k245), (10, k269), (23, k252), (28, k244), (75, k252)]
theorem k270_ok (l : Launch) : ckCtrOk l ckMT ckTW ckCL k270 := mt_86 (as := k270_a) (cs := k270_c) (gx := []) (f := 200000) rfl (ckHc (k245_ok l) (ckHc (k269_ok l) (ckHc (k252_ok l) (ckHc (k244_ok l) (ckHc (k252_ok l) (fun _ h => absurd h List.not_mem_nil)))))) True.intro (by decide +kernel)
noncomputable def dT472 : List ckI := [(0, 1), (0, 1), ckTop, ckTop, ckTop, ckTop, ckTop, ckTop, ckTop, ckTop, ckTop, ckTop, ckTop, (12, 30), (0, 0), (0, 30), (0, 1), ckTop, (0, 1), (318, 318), (30, 30)]
noncomputable def dZ473 : List ckZ := [(13, 22, 0), (21, 15, 0), (21, 16, 0), (21, 22, (-12)), (23, 15, 0), (23, 16, 0), (23, 22, (-12))]
-- FarMachineModel.test
noncomputable def k271 : ckCtr := (86, ([(0, (1, 0))], [], dC428, dT472, dG430, [], [], [(1, 0, 0, 0, [])], 0, 0), [([], [(0, 21)], dP431, [], [], [(0, 1), (12, 30), (0, 1)], [], [], dZ473, [(1, 0, 0, 0, [])], 0, 0)], 23, 580, 0, 0)
noncomputable def k271_a : ckAs := []
noncomputable def k271_c : List (Nat × ckCtr) := [(3, k245), (10, k270), (23, k252), (28, k244), (75, k252)]
theorem k271_ok (l : Launch) : ckCtrOk l ckMT ckTW ckCL k271 := mt_86 (as := k271_a) (cs := k271_c) (gx := []) (f := 200000) rfl (ckHc (k245_ok l) (ckHc (k270_ok l) (ckHc (k252_ok l) (ckHc (k244_ok l) (ckHc (k252_ok l) (fun _ h => absurd h List.not_mem_nil)))))) True.intro (by decide +kernel)
noncomputable def dT474 : List ckI := [(0, 1), (0, 1), ckTop, ckTop, ckTop, ckTop, ckTop, ckTop, ckTop, ckTop, ckTop, ckTop, ckTop, (11, 30), (0, 0), (0, 30), (0, 1), ckTop, (0, 1), (318, 318), (30, 30)]
noncomputable def dZ475 : List ckZ := [(13, 22, 0), (21, 15, 0), (21, 16, 0), (21, 22, (-11)), (23, 15, 0), (23, 16, 0), (23, 22, (-11))]
-- FarMachineModel.test
noncomputable def k272 : ckCtr := (86, ([(0, (1, 0))], [], dC428, dT474, dG430, [], [], [(1, 0, 0, 0, [])], 0, 0), [([], [(0, 21)], dP431, [], [], [(0, 1), (11, 30), (0, 1)], [], [], dZ475, [(1, 0, 0, 0, [])], 0, 0)], 24, 603, 0, 0)
noncomputable def k272_a : ckAs := []
noncomputable def k272_c : List (Nat × ckCtr) := [(3, k245), (10, k271), (23, k252), (28, k244), (75, k252)]
theorem k272_ok (l : Launch) : ckCtrOk l ckMT ckTW ckCL k272 := mt_86 (as := k272_a) (cs := k272_c) (gx := []) (f := 200000) rfl (ckHc (k245_ok l) (ckHc (k271_ok l) (ckHc (k252_ok l) (ckHc (k244_ok l) (ckHc (k252_ok l) (fun _ h => absurd h List.not_mem_nil)))))) True.intro (by decide +kernel)
noncomputable def dT476 : List ckI := [(0, 1), (0, 1), ckTop, ckTop, ckTop, ckTop, ckTop, ckTop, ckTop, ckTop, ckTop, ckTop, ckTop, (10, 30), (0, 0), (0, 30), (0, 1), ckTop, (0, 1), (318, 318), (30, 30)]
noncomputable def dZ477 : List ckZ := [(13, 22, 0), (21, 15, 0), (21, 16, 0), (21, 22, (-10)), (23, 15, 0), (23, 16, 0), (23, 22, (-10))]
-- FarMachineModel.test
noncomputable def k273 : ckCtr := (86, ([(0, (1, 0))], [], dC428, dT476, dG430, [], [], [(1, 0, 0, 0, [])], 0, 0), [([], [(0, 21)], dP431, [], [], [(0, 1), (10, 30), (0, 1)], [], [], dZ477, [(1, 0, 0, 0, [])], 0, 0)], 25, 626, 0, 0)
noncomputable def k273_a : ckAs := []
noncomputable def k273_c : List (Nat × ckCtr) := [(3, k245), (10, k272), (23, k252), (28, k244), (75, k252)]
theorem k273_ok (l : Launch) : ckCtrOk l ckMT ckTW ckCL k273 := mt_86 (as := k273_a) (cs := k273_c) (gx := []) (f := 200000) rfl (ckHc (k245_ok l) (ckHc (k272_ok l) (ckHc (k252_ok l) (ckHc (k244_ok l) (ckHc (k252_ok l) (fun _ h => absurd h List.not_mem_nil)))))) True.intro (by decide +kernel)
noncomputable def dT478 : List ckI := [(0, 1), (0, 1), ckTop, ckTop, ckTop, ckTop, ckTop, ckTop, ckTop, ckTop, ckTop, ckTop, ckTop, (9, 30), (0, 0), (0, 30), (0, 1), ckTop, (0, 1), (318, 318), (30, 30)]
noncomputable def dZ479 : List ckZ := [(13, 22, 0), (21, 15, 0), (21, 16, 0), (21, 22, (-9)), (23, 15, 0), (23, 16, 0), (23, 22, (-9))]
-- FarMachineModel.test
noncomputable def k274 : ckCtr := (86, ([(0, (1, 0))], [], dC428, dT478, dG430, [], [], [(1, 0, 0, 0, [])], 0, 0), [([], [(0, 21)], dP431, [], [], [(0, 1), (9, 30), (0, 1)], [], [], dZ479, [(1, 0, 0, 0, [])], 0, 0)], 26, 649, 0, 0)
noncomputable def k274_a : ckAs := []
noncomputable def k274_c : List (Nat × ckCtr) := [(3, k245), (10, k273), (23, k252), (28, k244), (75, k252)]
theorem k274_ok (l : Launch) : ckCtrOk l ckMT ckTW ckCL k274 := mt_86 (as := k274_a) (cs := k274_c) (gx := []) (f := 200000) rfl (ckHc (k245_ok l) (ckHc (k273_ok l) (ckHc (k252_ok l) (ckHc (k244_ok l) (ckHc (k252_ok l) (fun _ h => absurd h List.not_mem_nil)))))) True.intro (by decide +kernel)
noncomputable def dT480 : List ckI := [(0, 1), (0, 1), ckTop, ckTop, ckTop, ckTop, ckTop, ckTop, ckTop, ckTop, ckTop, ckTop, ckTop, (8, 30), (0, 0), (0, 30), (0, 1), ckTop, (0, 1), (318, 318), (30, 30)]
noncomputable def dZ481 : List ckZ := [(13, 22, 0), (21, 15, 0), (21, 16, 0), (21, 22, (-8)), (23, 15, 0), (23, 16, 0), (23, 22, (-8))]
-- FarMachineModel.test
noncomputable def k275 : ckCtr := (86, ([(0, (1, 0))], [], dC428, dT480, dG430, [], [], [(1, 0, 0, 0, [])], 0, 0), [([], [(0, 21)], dP431, [], [], [(0, 1), (8, 30), (0, 1)], [], [], dZ481, [(1, 0, 0, 0, [])], 0, 0)], 27, 672, 0, 0)
noncomputable def k275_a : ckAs := []
noncomputable def k275_c : List (Nat × ckCtr) := [(3, k245), (10, k274), (23, k252), (28, k244), (75, k252)]
theorem k275_ok (l : Launch) : ckCtrOk l ckMT ckTW ckCL k275 := mt_86 (as := k275_a) (cs := k275_c) (gx := []) (f := 200000) rfl (ckHc (k245_ok l) (ckHc (k274_ok l) (ckHc (k252_ok l) (ckHc (k244_ok l) (ckHc (k252_ok l) (fun _ h => absurd h List.not_mem_nil)))))) True.intro (by decide +kernel)
noncomputable def dT482 : List ckI := [(0, 1), (0, 1), ckTop, ckTop, ckTop, ckTop, ckTop, ckTop, ckTop, ckTop, ckTop, ckTop, ckTop, (7, 30), (0, 0), (0, 30), (0, 1), ckTop, (0, 1), (318, 318), (30, 30)]
noncomputable def dZ483 : List ckZ := [(13, 22, 0), (21, 15, 0), (21, 16, 0), (21, 22, (-7)), (23, 15, 0), (23, 16, 0), (23, 22, (-7))]
-- FarMachineModel.test
noncomputable def k276 : ckCtr := (86, ([(0, (1, 0))], [], dC428, dT482, dG430, [], [], [(1, 0, 0, 0, [])], 0, 0), [([], [(0, 21)], dP431, [], [], [(0, 1), (7, 30), (0, 1)], [], [], dZ483, [(1, 0, 0, 0, [])], 0, 0)], 28, 695, 0, 0)
noncomputable def k276_a : ckAs := []
noncomputable def k276_c : List (Nat × ckCtr) := [(3, k245), (10, k275), (23, k252), (28, k244), (75, k252)]
theorem k276_ok (l : Launch) : ckCtrOk l ckMT ckTW ckCL k276 := mt_86 (as := k276_a) (cs := k276_c) (gx := []) (f := 200000) rfl (ckHc (k245_ok l) (ckHc (k275_ok l) (ckHc (k252_ok l) (ckHc (k244_ok l) (ckHc (k252_ok l) (fun _ h => absurd h List.not_mem_nil)))))) True.intro (by decide +kernel)
noncomputable def dT484 : List ckI := [(0, 1), (0, 1), ckTop, ckTop, ckTop, ckTop, ckTop, ckTop, ckTop, ckTop, ckTop, ckTop, ckTop, (6, 30), (0, 0), (0, 30), (0, 1), ckTop, (0, 1), (318, 318), (30, 30)]
noncomputable def dZ485 : List ckZ := [(13, 22, 0), (21, 15, 0), (21, 16, 0), (21, 22, (-6)), (23, 15, 0), (23, 16, 0), (23, 22, (-6))]
-- FarMachineModel.test
noncomputable def k277 : ckCtr := (86, ([(0, (1, 0))], [], dC428, dT484, dG430, [], [], [(1, 0, 0, 0, [])], 0, 0), [([], [(0, 21)], dP431, [], [], [(0, 1), (6, 30), (0, 1)], [], [], dZ485, [(1, 0, 0, 0, [])], 0, 0)], 29, 718, 0, 0)
noncomputable def k277_a : ckAs := []
noncomputable def k277_c : List (Nat × ckCtr) := [(3, k245), (10, k276), (23, k252), (28, k244), (75, k252)]
theorem k277_ok (l : Launch) : ckCtrOk l ckMT ckTW ckCL k277 := mt_86 (as := k277_a) (cs := k277_c) (gx := []) (f := 200000) rfl (ckHc (k245_ok l) (ckHc (k276_ok l) (ckHc (k252_ok l) (ckHc (k244_ok l) (ckHc (k252_ok l) (fun _ h => absurd h List.not_mem_nil)))))) True.intro (by decide +kernel)
noncomputable def dT486 : List ckI := [(0, 1), (0, 1), ckTop, ckTop, ckTop, ckTop, ckTop, ckTop, ckTop, ckTop, ckTop, ckTop, ckTop, (5, 30), (0, 0), (0, 30), (0, 1), ckTop, (0, 1), (318, 318), (30, 30)]
noncomputable def dZ487 : List ckZ := [(13, 22, 0), (21, 15, 0), (21, 16, 0), (21, 22, (-5)), (23, 15, 0), (23, 16, 0), (23, 22, (-5))]
-- FarMachineModel.test
noncomputable def k278 : ckCtr := (86, ([(0, (1, 0))], [], dC428, dT486, dG430, [], [], [(1, 0, 0, 0, [])], 0, 0), [([], [(0, 21)], dP431, [], [], [(0, 1), (5, 30), (0, 1)], [], [], dZ487, [(1, 0, 0, 0, [])], 0, 0)], 30, 741, 0, 0)
noncomputable def k278_a : ckAs := []
noncomputable def k278_c : List (Nat × ckCtr) := [(3, k245), (10, k277), (23, k252), (28, k244), (75, k252)]
theorem k278_ok (l : Launch) : ckCtrOk l ckMT ckTW ckCL k278 := mt_86 (as := k278_a) (cs := k278_c) (gx := []) (f := 200000) rfl (ckHc (k245_ok l) (ckHc (k277_ok l) (ckHc (k252_ok l) (ckHc (k244_ok l) (ckHc (k252_ok l) (fun _ h => absurd h List.not_mem_nil)))))) True.intro (by decide +kernel)
noncomputable def dT488 : List ckI := [(0, 1), (0, 1), ckTop, ckTop, ckTop, ckTop, ckTop, ckTop, ckTop, ckTop, ckTop, ckTop, ckTop, (4, 30), (0, 0), (0, 30), (0, 1), ckTop, (0, 1), (318, 318), (30, 30)]
noncomputable def dZ489 : List ckZ := [(13, 22, 0), (21, 15, 0), (21, 16, 0), (21, 22, (-4)), (23, 15, 0), (23, 16, 0), (23, 22, (-4))]
-- FarMachineModel.test
noncomputable def k279 : ckCtr := (86, ([(0, (1, 0))], [], dC428, dT488, dG430, [], [], [(1, 0, 0, 0, [])], 0, 0), [([], [(0, 21)], dP431, [], [], [(0, 1), (4, 30), (0, 1)], [], [], dZ489, [(1, 0, 0, 0, [])], 0, 0)], 31, 764, 0, 0)
noncomputable def k279_a : ckAs := []
noncomputable def k279_c : List (Nat × ckCtr) := [(3, k245), (10, k278), (23, k252), (28, k244), (75, k252)]
theorem k279_ok (l : Launch) : ckCtrOk l ckMT ckTW ckCL k279 := mt_86 (as := k279_a) (cs := k279_c) (gx := []) (f := 200000) rfl (ckHc (k245_ok l) (ckHc (k278_ok l) (ckHc (k252_ok l) (ckHc (k244_ok l) (ckHc (k252_ok l) (fun _ h => absurd h List.not_mem_nil)))))) True.intro (by decide +kernel)
noncomputable def dT490 : List ckI := [(0, 1), (0, 1), ckTop, ckTop, ckTop, ckTop, ckTop, ckTop, ckTop, ckTop, ckTop, ckTop, ckTop, (3, 30), (0, 0), (0, 30), (0, 1), ckTop, (0, 1), (318, 318), (30, 30)]
noncomputable def dZ491 : List ckZ := [(13, 22, 0), (21, 15, 0), (21, 16, 0), (21, 22, (-3)), (23, 15, 0), (23, 16, 0), (23, 22, (-3))]
-- FarMachineModel.test
noncomputable def k280 : ckCtr := (86, ([(0, (1, 0))], [], dC428, dT490, dG430, [], [], [(1, 0, 0, 0, [])], 0, 0), [([], [(0, 21)], dP431, [], [], [(0, 1), (3, 30), (0, 1)], [], [], dZ491, [(1, 0, 0, 0, [])], 0, 0)], 32, 787, 0, 0)
noncomputable def k280_a : ckAs := []
noncomputable def k280_c : List (Nat × ckCtr) := [(3, k245), (10, k279), (23, k252), (28, k244), (75, k252)]
theorem k280_ok (l : Launch) : ckCtrOk l ckMT ckTW ckCL k280 := mt_86 (as := k280_a) (cs := k280_c) (gx := []) (f := 200000) rfl (ckHc (k245_ok l) (ckHc (k279_ok l) (ckHc (k252_ok l) (ckHc (k244_ok l) (ckHc (k252_ok l) (fun _ h => absurd h List.not_mem_nil)))))) True.intro (by decide +kernel)
noncomputable def dT492 : List ckI := [(0, 1), (0, 1), ckTop, ckTop, ckTop, ckTop, ckTop, ckTop, ckTop, ckTop, ckTop, ckTop, ckTop, (2, 30), (0, 0), (0, 30), (0, 1), ckTop, (0, 1), (318, 318), (30, 30)]
noncomputable def dZ493 : List ckZ := [(13, 22, 0), (21, 15, 0), (21, 16, 0), (21, 22, (-2)), (23, 15, 0), (23, 16, 0), (23, 22, (-2))]
-- FarMachineModel.test
noncomputable def k281 : ckCtr := (86, ([(0, (1, 0))], [], dC428, dT492, dG430, [], [], [(1, 0, 0, 0, [])], 0, 0), [([], [(0, 21)], dP431, [], [], [(0, 1), (2, 30), (0, 1)], [], [], dZ493, [(1, 0, 0, 0, [])], 0, 0)], 33, 810, 0, 0)
noncomputable def k281_a : ckAs := []
noncomputable def k281_c : List (Nat × ckCtr) := [(3, k245), (10, k280), (23, k252), (28, k244), (75, k252)]
theorem k281_ok (l : Launch) : ckCtrOk l ckMT ckTW ckCL k281 := mt_86 (as := k281_a) (cs := k281_c) (gx := []) (f := 200000) rfl (ckHc (k245_ok l) (ckHc (k280_ok l) (ckHc (k252_ok l) (ckHc (k244_ok l) (ckHc (k252_ok l) (fun _ h => absurd h List.not_mem_nil)))))) True.intro (by decide +kernel)
noncomputable def dT494 : List ckI := [(0, 1), (0, 1), ckTop, ckTop, ckTop, ckTop, ckTop, ckTop, ckTop, ckTop, ckTop, ckTop, ckTop, (1, 30), (0, 0), (0, 30), (0, 1), ckTop, (0, 1), (318, 318), (30, 30)]
noncomputable def dZ495 : List ckZ := [(13, 22, 0), (21, 15, 0), (21, 16, 0), (21, 22, (-1)), (23, 15, 0), (23, 16, 0), (23, 22, (-1))]
-- FarMachineModel.test
noncomputable def k282 : ckCtr := (86, ([(0, (1, 0))], [], dC428, dT494, dG430, [], [], [(1, 0, 0, 0, [])], 0, 0), [([], [(0, 21)], dP431, [], [], [(0, 1), (1, 30), (0, 1)], [], [], dZ495, [(1, 0, 0, 0, [])], 0, 0)], 34, 833, 0, 0)
noncomputable def k282_a : ckAs := []
noncomputable def k282_c : List (Nat × ckCtr) := [(3, k245), (10, k281), (23, k252), (28, k244), (75, k252)]
theorem k282_ok (l : Launch) : ckCtrOk l ckMT ckTW ckCL k282 := mt_86 (as := k282_a) (cs := k282_c) (gx := []) (f := 200000) rfl (ckHc (k245_ok l) (ckHc (k281_ok l) (ckHc (k252_ok l) (ckHc (k244_ok l) (ckHc (k252_ok l) (fun _ h => absurd h List.not_mem_nil)))))) True.intro (by decide +kernel)
noncomputable def dZ496 : List ckZ := [(13, 22, 0), (21, 15, 0), (21, 16, 0), (21, 22, 0), (23, 15, 0), (23, 16, 0), (23, 22, 0)]
-- FarMachineModel.test
noncomputable def k283 : ckCtr := (86, ([(0, (1, 0))], [], dC428, dT429, dG430, [], [], [(1, 0, 0, 0, [])], 0, 0), [([], [(0, 21)], dP431, [], [], [(0, 1), (0, 30), (0, 1)], [], [], dZ496, [(1, 0, 0, 0, [])], 0, 0)], 35, 856, 0, 0)
noncomputable def k283_a : ckAs := []
noncomputable def k283_c : List (Nat × ckCtr) := [(3, k245), (10, k282), (23, k252), (28, k244), (75, k252)]
theorem k283_ok (l : Launch) : ckCtrOk l ckMT ckTW ckCL k283 := mt_86 (as := k283_a) (cs := k283_c) (gx := []) (f := 200000) rfl (ckHc (k245_ok l) (ckHc (k282_ok l) (ckHc (k252_ok l) (ckHc (k244_ok l) (ckHc (k252_ok l) (fun _ h => absurd h List.not_mem_nil)))))) True.intro (by decide +kernel)
noncomputable def dT497 : List ckI := [(38, 38), (0, 1), (0, 1), ckTop, ckTop, ckTop, ckTop, ckTop, ckTop, ckTop, ckTop, ckTop, ckTop, ckTop, (0, 30), (0, 0), (0, 30), (0, 1), ckTop, (0, 1), (30, 30)]
-- FarMachineModel.takes
noncomputable def k284 : ckCtr := (84, ([(0, (1, 0)), (1, (0, 0))], [], dC418, dT497, [([(30, ckTop)], [], [])], [], [], [], 0, 0), [([], [(0, 15)], [], [], [], [], [], [], [], [], 0, 0), ([], [(0, 21)], dP420, [], [(14, (0, 29)), (16, (1, 30)), (17, (1, 1))], [(1, 1), (1, 30)], [], [], [(14, 16, (-1)), (14, 22, (-1)), (22, 14, 1), (22, 16, 0)], [], 0, 0)], 2, 100, 0, 0)
noncomputable def k284_a : ckAs := []
noncomputable def k284_c : List (Nat × ckCtr) := [(8, k244)]
theorem k284_ok (l : Launch) : ckCtrOk l ckMT ckTW ckCL k284 := mt_84 (as := k284_a) (cs := k284_c) (gx := []) (f := 200000) rfl (ckHc (k244_ok l) (fun _ h => absurd h List.not_mem_nil)) True.intro (by decide +kernel)
noncomputable def dT498 : List ckI := [(0, 1), (0, 1), ckTop, ckTop, ckTop, ckTop, ckTop, ckTop, ckTop, ckTop, ckTop, ckTop, ckTop, (0, 0), (0, 0), (0, 30), (0, 1), ckTop, (0, 1), (318, 318), (30, 30)]
noncomputable def dZ499 : List ckZ := [(21, 15, 0), (21, 16, 0), (21, 22, 0), (23, 15, 0), (23, 16, 0), (23, 22, 0)]
noncomputable def dP500 : List (Nat × ckC) := [(0, .inl (9, [(4, 10), (1, 1), (4, 11), (4, 12), (4, 13), (4, 14), (4, 15), (4, 16), (4, 17), (4, 18), (4, 19), (4, 20), (4, 21), (4, 22), (4, 23), (4, 24), (0, 0), (0, 1), (0, 2), (0, 3), (0, 4), (0, 5), (0, 6), (4, 25), (0, 7), (4, 26), (0, 8), (0, 9), (0, 10), (0, 11), (1, 2), (0, 12), (0, 25), (0, 14), (0, 15), (1, 2), (1, 1), (0, 26), (4, 27), (4, 28), (0, 17), (0, 18)]))]
noncomputable def dZ501 : List ckZ := [(21, 15, 0), (21, 16, 0), (21, 22, 0), (21, 25, 0), (22, 25, 0), (23, 15, 0), (23, 16, 0), (23, 22, 0), (23, 25, 0), (24, 15, 0), (24, 16, 0), (24, 21, 0), (24, 22, 0), (24, 25, 0), (25, 22, 29), (26, 15, 0), (26, 16, 0), (26, 22, 0), (26, 23, 0), (26, 25, 0)]
-- FarMachineModel.and
noncomputable def k285 : ckCtr := (85, ([(0, (1, 0))], [], dC428, dT498, dG430, [], [], [(1, 0, 0, 0, [])], 0, 0), [([], [(0, 21)], dP431, [], [], [(0, 1), (0, 30), (0, 1)], [], [], dZ499, [(1, 0, 0, 0, [])], 0, 0)], 36, 879, 0, 0)
noncomputable def k285_a : ckAs := [(5, [(574357, [(1, 0, 1, ([(0, (1, 0)), (1, (0, 24))], [], dP500, [], [], [(0, 1), (0, 30), (0, 1)], [], [], dZ501, [(1, 0, 0, 0, [])], 0, 0))])])]
noncomputable def k285_c : List (Nat × ckCtr) := [(1, k283), (8, k284), (15, k282)]
theorem k285_ok (l : Launch) : ckCtrOk l ckMT ckTW ckCL k285 := mt_85 (as := k285_a) (cs := k285_c) (gx := []) (f := 200000) rfl (ckHc (k283_ok l) (ckHc (k284_ok l) (ckHc (k282_ok l) (fun _ h => absurd h List.not_mem_nil)))) True.intro (by decide +kernel)
noncomputable def dC502 : List ckC := [.inl (9, [(4, 10), (1, 2), (4, 11), (4, 12), (4, 13), (4, 14), (4, 15), (4, 16), (4, 17), (4, 18), (4, 19), (4, 20), (4, 21), (4, 22), (4, 23), (4, 24), (0, 2), (0, 3), (0, 4), (0, 5), (0, 6), (0, 7), (0, 8), (4, 25), (0, 9), (4, 26), (0, 10), (0, 11), (0, 12), (0, 13), (1, 1), (0, 14), (0, 15), (0, 16), (0, 17), (5, 0), (5, 0), (0, 18), (4, 27), (4, 28), (0, 19), (0, 20)]), .inr (0, 21, 0), .inr (0, 22, 1)]
noncomputable def dT503 : List ckI := [(0, 0), (0, 30), (0, 1), (0, 1), ckTop, ckTop, ckTop, ckTop, ckTop, ckTop, ckTop, ckTop, ckTop, ckTop, ckTop, ckTop, ckTop, ckTop, (0, 1), ckTop, (0, 1), (30, 30), (318, 318)]
noncomputable def dG504 : List ckG := [([(30, ckTop)], [], []), ([(48, ckTop), (49, (0, 47)), (55, ckTop), (56, ckTop), (58, ckTop), (59, ckTop), (76, ckTop), (77, (0, 30)), (197, ckTop), (198, (0, 60)), (318, ckTop)], [], [])]
noncomputable def dP505 : List (Nat × ckC) := [(0, .inl (9, [(4, 10), (1, 2), (4, 11), (4, 12), (4, 13), (4, 14), (4, 15), (4, 16), (4, 17), (4, 18), (4, 19), (4, 20), (4, 21), (4, 22), (4, 23), (4, 24), (0, 2), (0, 3), (0, 4), (0, 5), (0, 6), (0, 7), (0, 8), (4, 25), (0, 9), (4, 26), (0, 10), (0, 11), (0, 12), (0, 13), (1, 1), (0, 14), (0, 24), (0, 0), (0, 1), (1, 1), (1, 2), (0, 25), (4, 27), (4, 28), (0, 19), (0, 20)]))]
-- FarMachineModel.goesThrough
noncomputable def k286 : ckCtr := (90, ([(0, (1, 0)), (1, (1, 1)), (2, (0, 0)), (3, (0, 1)), (4, (1, 2))], [], dC502, dT503, dG504, [], [], [(1, 1, 0, 0, [])], 0, 0), [([], [(0, 23)], dP505, [], [], [(0, 1), (0, 30), (0, 1)], [], [], [(23, 1, 0), (23, 24, 0), (25, 1, 0), (25, 24, 0)], [(1, 1, 0, 0, [])], 0, 0)], 37, 901, 0, 0)
noncomputable def k286_a : ckAs := []
noncomputable def k286_c : List (Nat × ckCtr) := [(32, k285)]
theorem k286_ok (l : Launch) : ckCtrOk l ckMT ckTW ckCL k286 := mt_90 (as := k286_a) (cs := k286_c) (gx := []) (f := 200000) rfl (ckHc (k285_ok l) (fun _ h => absurd h List.not_mem_nil)) True.intro (by decide +kernel)
noncomputable def dC506 : List ckC := [.inl (9, [(1, 1), (1, 2), (4, 10), (4, 11), (4, 12), (4, 13), (4, 14), (4, 15), (4, 16), (4, 17), (4, 18), (4, 19), (4, 20), (4, 21), (1, 3), (1, 4), (0, 0), (0, 1), (0, 2), (0, 3), (0, 4), (0, 5), (0, 6), (4, 22), (0, 7), (4, 23), (0, 8), (0, 9), (0, 10), (0, 11), (1, 5), (0, 12), (0, 13), (0, 14), (0, 15), (5, 0), (5, 0), (0, 16), (4, 24), (4, 25), (0, 17), (0, 18)]), .inr (0, 19, 0), .inr (0, 20, 1), .inr (0, 21, 2), .inr (0, 22, 3), .inr (0, 23, 4)]
noncomputable def dT507 : List ckI := [(0, 1), (0, 1), (0, 8), (0, 40), (0, 6), (0, 8), (0, 10), (0, 126000), ckTop, ckTop, ckTop, ckTop, (0, 30), ckTop, ckTop, ckTop, (0, 1), ckTop, (0, 1), (7, 7), (318, 318), (300, 300), (10, 10), (30, 30), (1, 99), (0, 126000)]
noncomputable def dG508 : List ckG := [([(7, ckTop)], [], []), ([(48, ckTop), (49, (0, 47)), (50, ckTop), (51, ckTop), (52, ckTop), (54, ckTop), (55, ckTop), (56, ckTop), (57, ckTop), (58, ckTop), (59, ckTop), (76, ckTop), (77, (0, 30)), (197, ckTop), (198, (0, 60)), (318, ckTop)], [(55, 24), (58, 25)], []), ([(300, ckTop)], [], []), ([(10, (0, 30))], [], []), ([(30, ckTop)], [], [])]
noncomputable def dP509 : List (Nat × ckC) := [(0, .inl (9, [(1, 1), (1, 2), (4, 10), (4, 11), (4, 12), (4, 13), (4, 14), (4, 15), (4, 16), (4, 17), (4, 18), (4, 19), (4, 20), (4, 21), (1, 3), (1, 4), (0, 0), (0, 1), (0, 2), (0, 3), (0, 4), (0, 5), (0, 27), (4, 22), (0, 7), (4, 23), (0, 8), (0, 9), (0, 10), (0, 11), (1, 5), (0, 28), (0, 29), (0, 30), (0, 31), (5, 0), (5, 0), (0, 32), (4, 24), (4, 25), (0, 17), (0, 18)])), (1, .inr (0, 19, 5)), (3, .inr (0, 21, 6)), (4, .inr (0, 22, 7))]
noncomputable def dG510 : List ckG := [([(6, ckTop), (7, ckTop)], [], []), ([(300, ckTop)], [], []), ([(10, (0, 30))], [], [])]
noncomputable def dZ511 : List ckZ := [(6, 26, 59), (6, 27, 0), (26, 6, 0), (26, 12, 8), (26, 27, (-1)), (26, 32, 8), (27, 6, 1), (27, 26, 59), (28, 6, 20), (28, 12, 0), (28, 26, 50), (28, 27, 20)]
-- FarMachineModel.rule
noncomputable def k287 : ckCtr := (91, ([(0, (1, 0))], [], dC506, dT507, dG508, [], [], [(1, 1, 0, 0, [])], 0, 0), [([], [(0, 26)], dP509, [], [], [(-50, 9), (0, 10), (0, 30), ckTop, ckTop, ckTop, (0, 1)], dG510, [], dZ511, [(1, 1, 0, 0, [])], 0, 0)], 38, 925, 0, 0)
noncomputable def k287_a : ckAs := [(83, [(153422, [(1, 0, 0, ([(0, (1, 0)), (1, (0, 28)), (2, (0, 31)), (3, (0, 12)), (4, (0, 34))], [], [(3, .inr (0, 21, 5))], [], [], [(0, 30)], [([(300, ckTop)], [], [])], [], [(12, 29, 0), (29, 12, 0), (34, 12, 0), (34, 29, 0)], [(1, 1, 0, 0, [])], 0, 0))])])]
noncomputable def k287_c : List (Nat × ckCtr) := [(12, k23), (30, k286)]
theorem k287_ok (l : Launch) : ckCtrOk l ckMT ckTW ckCL k287 := mt_91 (as := k287_a) (cs := k287_c) (gx := []) (f := 200000) rfl (ckHc (k23_ok l) (ckHc (k286_ok l) (fun _ h => absurd h List.not_mem_nil))) True.intro (by decide +kernel)
noncomputable def dC512 : List ckC := [.inl (2, [(4, 10), (1, 2), (4, 11), (0, 0), (0, 1), (0, 2), (0, 3), (0, 4), (0, 5), (0, 6), (0, 7), (0, 8), (0, 9), (0, 10), (0, 11), (0, 12)]), .inr (0, 13, 0), .inr (0, 13, 1)]
noncomputable def dG513 : List ckG := [([(1, ckTop), (2, ckTop), (3, ckTop), (4, ckTop), (5, ckTop), (6, ckTop), (7, ckTop), (8, (0, 63))], [(0, 3), (1, 4), (2, 5), (3, 2), (4, 1), (5, 16), (6, 15), (7, 14)], [])]
-- FarMachine$Machine.readInto
noncomputable def k288 : ckCtr := (147, ([(0, (1, 0)), (1, (1, 1))], [], dC512, dT137, [([(8, ckTop)], [], []), ([(8, ckTop)], [], [])], [], [], [], 0, 0), [([], [], [(1, .inr (0, 13, 2))], [], [], [(0, 63), ckTop, ckTop], dG513, [], [], [], 0, 0)], 3, 126, 0, 0)
noncomputable def k288_a : ckAs := []
noncomputable def k288_c : List (Nat × ckCtr) := [(59, k90), (70, k102)]
theorem k288_ok (l : Launch) : ckCtrOk l ckMT ckTW ckCL k288 := mt_147 (as := k288_a) (cs := k288_c) (gx := []) (f := 200000) rfl (ckHc (k90_ok l) (ckHc (k102_ok l) (fun _ h => absurd h List.not_mem_nil))) True.intro (by decide +kernel)
-- FarMachine$Rules.sizeOf
noncomputable def k289 : ckCtr := (168, ([(0, (1, 0)), (1, (0, 0))], [], dC397, [ckTop, (0, 10), (10, 10)], [([(10, ckTop)], [], [])], [], [], [], 0, 0), [([], [(0, 3)], [], [], [(0, (0, 9))], [ckTop], [], [], [], [], 0, 0), ([], [(0, 3)], [], [], [], [(0, 0)], [], [], [], [], 0, 0)], 1, 80, 0, 0)
noncomputable def k289_a : ckAs := []
noncomputable def k289_c : List (Nat × ckCtr) := []
theorem k289_ok (l : Launch) : ckCtrOk l ckMT ckTW ckCL k289 := mt_168 (as := k289_a) (cs := k289_c) (gx := []) (f := 200000) rfl (fun _ h => absurd h List.not_mem_nil) True.intro (by decide +kernel)
-- FarMachine$Rules.valueOf
noncomputable def k290 : ckCtr := (175, ([(0, (0, 0)), (1, (1, 0))], [], [.inr (0, 1, 0)], [ckTop, (8, 8)], [([(8, ckTop)], [], [])], [], [], [], 0, 0), [([], [(0, 2)], [], [], [], [ckTop], [], [], [], [], 0, 0), ([], [(0, 0)], [], [], [], [], [], [], [], [], 0, 0)], 1, 80, 0, 0)
noncomputable def k290_a : ckAs := []
noncomputable def k290_c : List (Nat × ckCtr) := []
theorem k290_ok (l : Launch) : ckCtrOk l ckMT ckTW ckCL k290 := mt_175 (as := k290_a) (cs := k290_c) (gx := []) (f := 200000) rfl (fun _ h => absurd h List.not_mem_nil) True.intro (by decide +kernel)
noncomputable def dC514 : List ckC := [.inl (5, [(1, 2), (1, 3), (1, 4), (1, 5), (4, 10), (0, 1)]), .inr (0, 2, 0), .inr (0, 3, 1), .inr (0, 3, 2), .inr (0, 3, 3), .inr (0, 3, 4)]
noncomputable def dG515 : List ckG := [([(8, ckTop)], [], []), ([(70, ckTop)], [], []), ([(70, ckTop)], [], []), ([(70, ckTop)], [], []), ([(70, ckTop)], [], [])]
-- FarMachine$Rules.isTestTrue
noncomputable def k291 : ckCtr := (174, ([(0, (1, 0)), (1, (0, 0)), (2, (1, 1))], [], dC514, [ckTop, (0, 10), (8, 8), (70, 70)], dG515, [], [], [], 0, 0), [([], [(0, 4)], [], [], [], [(0, 0)], [], [], [], [], 0, 0), ([], [(0, 4)], [], [], [(0, (0, 69))], [(1, 1)], [], [], [], [], 0, 0)], 2, 102, 0, 0)
noncomputable def k291_a : ckAs := []
noncomputable def k291_c : List (Nat × ckCtr) := [(22, k290), (33, k290)]
theorem k291_ok (l : Launch) : ckCtrOk l ckMT ckTW ckCL k291 := mt_174 (as := k291_a) (cs := k291_c) (gx := []) (f := 200000) rfl (ckHc (k290_ok l) (ckHc (k290_ok l) (fun _ h => absurd h List.not_mem_nil))) True.intro (by decide +kernel)
noncomputable def dC516 : List ckC := [.inl (5, [(1, 2), (1, 3), (1, 4), (1, 5), (1, 6), (0, 1)]), .inr (0, 2, 0), .inr (0, 3, 1), .inr (0, 3, 2), .inr (0, 3, 3), .inr (0, 3, 4), .inr (0, 4, 5)]
noncomputable def dG517 : List ckG := [([(8, ckTop)], [], []), ([(70, ckTop)], [], []), ([(70, ckTop)], [], []), ([(70, ckTop)], [], []), ([(70, ckTop)], [], []), ([(10, ckTop)], [], [])]
-- FarMachine$Rules.isTrue
noncomputable def k292 : ckCtr := (172, ([(0, (1, 0)), (1, (0, 0)), (2, (1, 1))], [], dC516, [ckTop, (0, 10), (8, 8), (70, 70), (10, 10)], dG517, [], [], [], 0, 0), [([], [(0, 5)], [], [], [], [(1, 1)], [], [], [], [], 0, 0), ([], [(0, 5)], [], [], [(0, (0, 9))], [(0, 0)], [], [], [], [], 0, 0)], 3, 127, 0, 0)
noncomputable def k292_a : ckAs := [(9, [(97688, [(1, 0, 0, ([(0, (1, 0)), (1, (0, 0)), (2, (1, 1)), (3, (0, 5)), (4, (0, 7))], [], [], [], [], [(0, 2147483647)], [], [], [], [], 0, 0))])])]
noncomputable def k292_c : List (Nat × ckCtr) := [(2, k289), (24, k291)]
theorem k292_ok (l : Launch) : ckCtrOk l ckMT ckTW ckCL k292 := mt_172 (as := k292_a) (cs := k292_c) (gx := []) (f := 200000) rfl (ckHc (k289_ok l) (ckHc (k291_ok l) (fun _ h => absurd h List.not_mem_nil))) True.intro (by decide +kernel)
noncomputable def dC518 : List ckC := [.inl (8, [(1, 1), (4, 10), (0, 1), (4, 11), (4, 12), (4, 13), (1, 2), (1, 3)]), .inl (7, [(1, 4), (4, 14), (0, 2), (4, 15), (4, 16), (4, 17), (4, 18), (1, 5), (4, 19), (4, 20)]), .inr (0, 3, 0), .inr (0, 4, 1), .inl (2, [(4, 21), (1, 6), (4, 22), (0, 5), (0, 6), (0, 7), (0, 8), (0, 9), (0, 10), (0, 11), (0, 12), (0, 13), (0, 14), (0, 15), (0, 16), (0, 17)]), .inl (5, [(1, 7), (1, 8), (1, 9), (1, 10), (1, 11), (0, 18)]), .inr (0, 3, 2), .inr (0, 19, 3), .inr (0, 19, 4), .inr (0, 19, 5), .inr (0, 19, 6), .inr (0, 20, 7)]
noncomputable def dT519 : List ckI := [ckTop, (0, 1), (0, 1), (8, 8), (7, 7), ckTop, ckTop, ckTop, ckTop, ckTop, ckTop, ckTop, ckTop, ckTop, ckTop, ckTop, ckTop, ckTop, (0, 10), (70, 70), (10, 10)]
noncomputable def dG520 : List ckG := [([(8, ckTop)], [], []), ([(7, ckTop)], [], []), ([(8, ckTop)], [], []), ([(70, ckTop)], [], []), ([(70, ckTop)], [], []), ([(70, ckTop)], [], []), ([(70, ckTop)], [], []), ([(10, ckTop)], [], [])]
noncomputable def dG521 : List ckG := [([(1, ckTop), (2, ckTop), (3, ckTop), (4, ckTop), (5, ckTop), (6, ckTop), (7, ckTop), (8, ckTop)], [], []), ([(1, ckTop), (2, ckTop), (7, ckTop)], [], [])]
-- FarMachine.holds
noncomputable def k293 : ckCtr := (19, ([(0, (1, 0)), (1, (0, 0))], [], dC518, dT519, dG520, [], [], [], 0, 0), [([], [(0, 21)], [(2, .inr (0, 3, 8)), (3, .inr (0, 4, 9))], [], [], [(-1, 1)], dG521, [], [(21, 18, 0)], [], 0, 0)], 4, 151, 0, 0)
noncomputable def k293_a : ckAs := []
noncomputable def k293_c : List (Nat × ckCtr) := [(20, k14), (35, k288), (50, k292)]
theorem k293_ok (l : Launch) : ckCtrOk l ckMT ckTW ckCL k293 := mt_19 (as := k293_a) (cs := k293_c) (gx := []) (f := 200000) rfl (ckHc (k14_ok l) (ckHc (k288_ok l) (ckHc (k292_ok l) (fun _ h => absurd h List.not_mem_nil)))) True.intro (by decide +kernel)
-- FarMachineModel.isIn
noncomputable def k294 : ckCtr := (45, ([(0, (0, 0)), (1, (0, 1))], [], [], [ckTop, (0, 10)], [], [], [], [], 0, 0), [([], [(0, 2)], [], [], [(0, (0, 9)), (1, (1, 10))], [(1, 1)], [], [], [(0, 1, (-1))], [], 0, 0), ([], [(0, 2)], [], [], [(0, (0, 2147483647))], [(0, 0)], [], [], [(1, 0, 0)], [], 0, 0), ([], [(0, 2)], [], [], [(0, (-2147483648, -1))], [(0, 0)], [], [], [], [], 0, 0)], 1, 80, 0, 0)
noncomputable def k294_a : ckAs := []
noncomputable def k294_c : List (Nat × ckCtr) := []
theorem k294_ok (l : Launch) : ckCtrOk l ckMT ckTW ckCL k294 := mt_45 (as := k294_a) (cs := k294_c) (gx := []) (f := 200000) rfl (fun _ h => absurd h List.not_mem_nil) True.intro (by decide +kernel)
noncomputable def dC522 : List ckC := [.inl (9, [(4, 10), (4, 11), (4, 12), (4, 13), (4, 14), (4, 15), (4, 16), (4, 17), (4, 18), (4, 19), (4, 20), (4, 21), (4, 22), (4, 23), (1, 1), (4, 24), (0, 0), (0, 1), (0, 2), (0, 3), (0, 4), (0, 5), (0, 6), (4, 25), (0, 7), (4, 26), (0, 8), (0, 9), (0, 10), (0, 11), (4, 27), (0, 12), (0, 13), (0, 14), (0, 15), (1, 1), (4, 11), (0, 16), (4, 28), (4, 29), (0, 17), (0, 18)]), .inr (0, 19, 0)]
noncomputable def dT523 : List ckI := [(0, 1), (0, 1), ckTop, ckTop, ckTop, ckTop, ckTop, ckTop, ckTop, ckTop, ckTop, ckTop, ckTop, (0, 30), (0, 270), (0, 30), (0, 1), ckTop, (0, 1), (300, 300)]
-- FarMachineModel.sign
noncomputable def k295 : ckCtr := (83, ([(0, (1, 0))], [], dC522, dT523, [([(300, ckTop)], [], [])], [], [], [], 0, 0), [([], [(0, 20)], [], [], [], [(-1, -1)], [], [], [(15, 13, 0)], [], 0, 0), ([], [(0, 20)], [], [], [(13, (0, 29)), (15, (1, 30))], [ckTop], [], [], [(13, 15, (-1))], [], 0, 0)], 1, 80, 0, 0)
noncomputable def k295_a : ckAs := []
noncomputable def k295_c : List (Nat × ckCtr) := []
theorem k295_ok (l : Launch) : ckCtrOk l ckMT ckTW ckCL k295 := mt_83 (as := k295_a) (cs := k295_c) (gx := []) (f := 200000) rfl (fun _ h => absurd h List.not_mem_nil) True.intro (by decide +kernel)
noncomputable def dC524 : List ckC := [.inl (9, [(4, 10), (4, 11), (4, 12), (4, 13), (4, 14), (4, 15), (4, 16), (4, 17), (4, 18), (4, 19), (4, 20), (4, 21), (4, 22), (4, 23), (1, 1), (4, 24), (0, 1), (0, 2), (0, 3), (0, 4), (0, 5), (0, 6), (0, 7), (4, 25), (0, 8), (4, 26), (0, 9), (0, 10), (0, 11), (0, 12), (4, 27), (0, 13), (0, 14), (0, 15), (0, 16), (1, 1), (4, 11), (0, 17), (4, 28), (4, 29), (0, 18), (0, 19)]), .inr (0, 20, 0)]
noncomputable def dT525 : List ckI := [(33, 33), (0, 1), (0, 1), ckTop, ckTop, ckTop, ckTop, ckTop, ckTop, ckTop, ckTop, ckTop, ckTop, ckTop, (0, 30), (0, 270), (0, 30), (0, 1), ckTop, (0, 1), (300, 300)]
noncomputable def dP526 : List (Nat × ckC) := [(0, .inl (9, [(4, 10), (4, 11), (4, 12), (4, 13), (4, 14), (4, 15), (4, 16), (4, 17), (4, 18), (4, 19), (4, 20), (4, 21), (4, 22), (4, 23), (1, 1), (4, 24), (0, 1), (0, 2), (0, 3), (0, 4), (0, 5), (0, 6), (0, 7), (4, 25), (0, 8), (4, 26), (0, 9), (0, 10), (0, 11), (0, 12), (4, 27), (0, 13), (0, 22), (0, 15), (0, 16), (1, 1), (4, 11), (0, 17), (4, 28), (4, 29), (0, 18), (0, 19)]))]
-- FarMachineModel.takes
noncomputable def k296 : ckCtr := (84, ([(0, (1, 0)), (1, (0, 0))], [], dC524, dT525, [([(300, ckTop)], [], [])], [], [], [], 0, 0), [([], [(0, 21)], [], [], [], [(0, 0)], [], [], [], [], 0, 0), ([], [(0, 21)], dP526, [], [(14, (0, 29)), (16, (1, 30)), (17, (1, 1))], [(1, 1), (1, 30)], [], [], [(14, 16, (-1)), (14, 22, (-1)), (22, 14, 1), (22, 16, 0)], [], 0, 0)], 2, 100, 0, 0)
noncomputable def k296_a : ckAs := []
noncomputable def k296_c : List (Nat × ckCtr) := [(8, k295)]
theorem k296_ok (l : Launch) : ckCtrOk l ckMT ckTW ckCL k296 := mt_84 (as := k296_a) (cs := k296_c) (gx := []) (f := 200000) rfl (ckHc (k295_ok l) (fun _ h => absurd h List.not_mem_nil)) True.intro (by decide +kernel)
noncomputable def dC527 : List ckC := [.inl (9, [(4, 10), (1, 1), (4, 11), (4, 12), (4, 13), (4, 14), (4, 15), (4, 16), (4, 17), (4, 18), (4, 19), (4, 20), (4, 21), (4, 22), (4, 23), (4, 24), (0, 1), (0, 2), (0, 3), (0, 4), (0, 5), (0, 6), (0, 7), (4, 25), (0, 8), (4, 26), (0, 9), (0, 10), (0, 11), (0, 12), (4, 27), (0, 13), (0, 14), (0, 15), (0, 16), (4, 23), (1, 1), (0, 17), (4, 28), (4, 29), (0, 18), (0, 19)]), .inr (0, 20, 0)]
noncomputable def dT528 : List ckI := [(-1, -1), (0, 1), (0, 1), ckTop, ckTop, ckTop, ckTop, ckTop, ckTop, ckTop, ckTop, ckTop, ckTop, ckTop, (0, 30), (0, 270), (0, 30), (0, 1), ckTop, (0, 1), (318, 318)]
noncomputable def dP529 : List (Nat × ckC) := [(0, .inl (9, [(4, 10), (1, 1), (4, 11), (4, 12), (4, 13), (4, 14), (4, 15), (4, 16), (4, 17), (4, 18), (4, 19), (4, 20), (4, 21), (4, 22), (4, 23), (4, 24), (0, 1), (0, 2), (0, 3), (0, 4), (0, 5), (0, 6), (0, 7), (4, 25), (0, 8), (4, 26), (0, 9), (0, 10), (0, 11), (0, 12), (4, 27), (0, 13), (0, 22), (0, 15), (0, 16), (4, 23), (1, 1), (0, 21), (4, 28), (4, 29), (0, 18), (0, 19)]))]
-- FarMachineModel.letter
noncomputable def k297 : ckCtr := (89, ([(0, (1, 0)), (1, (0, 0))], [], dC527, dT528, dG423, [], [], [(1, 0, 0, 0, [])], 0, 0), [([], [(0, 21)], dP529, [], [], [(0, 0), (0, 30)], [], [], [(14, 22, 0), (22, 14, 0)], [(1, 0, 0, 0, [])], 0, 0)], 1, 80, 0, 0)
noncomputable def k297_a : ckAs := []
noncomputable def k297_c : List (Nat × ckCtr) := []
theorem k297_ok (l : Launch) : ckCtrOk l ckMT ckTW ckCL k297 := mt_89 (as := k297_a) (cs := k297_c) (gx := []) (f := 200000) rfl (fun _ h => absurd h List.not_mem_nil) True.intro (by decide +kernel)
