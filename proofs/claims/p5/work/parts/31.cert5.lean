/-! THE CHECKER: contracts with their certificates (printed by wip/gen2/p14gen.py) -/
noncomputable def dT414 : List ckI := [(0, 1), (0, 1), ckTop, ckTop, ckTop, ckTop, ckTop, ckTop, ckTop, ckTop, ckTop, ckTop, ckTop, (0, 29), (0, 0), (0, 30), (0, 1), ckTop, (0, 1), (30, 30)]
-- FarMachineModel.sign
noncomputable def k240 : ckCtr := (83, ([(0, (1, 0))], [], dC403, dT414, [([(30, ckTop)], [], [])], [], [], [], 0, 0), [([], [(0, 20)], [], [], [(15, (0, 29))], [(-1, -1)], [], [], [(15, 13, 0)], [], 0, 0), ([], [(0, 20)], [], [], [(15, (1, 30))], [ckTop], [], [], [(13, 15, (-1))], [], 0, 0)], 1, 80, 0, 0)
noncomputable def k240_a : ckAs := []
noncomputable def k240_c : List (Nat × ckCtr) := []
theorem k240_ok (l : Launch) : ckCtrOk l ckMT ckTW ckCL k240 := mt_83 (as := k240_a) (cs := k240_c) (gx := []) (f := 200000) rfl (fun _ h => absurd h List.not_mem_nil) True.intro (by decide +kernel)
noncomputable def dC415 : List ckC := [.inl (9, [(4, 10), (1, 1), (4, 11), (4, 12), (4, 13), (4, 14), (4, 15), (4, 16), (4, 17), (4, 18), (4, 19), (4, 20), (4, 21), (4, 22), (4, 23), (4, 24), (0, 0), (0, 1), (0, 2), (0, 3), (0, 4), (0, 5), (0, 6), (4, 25), (0, 7), (4, 26), (0, 8), (0, 9), (0, 10), (0, 11), (1, 2), (0, 12), (0, 13), (0, 14), (0, 15), (1, 2), (1, 1), (0, 16), (4, 27), (4, 28), (0, 17), (0, 18)]), .inr (0, 19, 0), .inr (0, 20, 1)]
noncomputable def dT416 : List ckI := [(0, 1), (0, 1), ckTop, ckTop, ckTop, ckTop, ckTop, ckTop, ckTop, ckTop, ckTop, ckTop, ckTop, (0, 30), (0, 0), (0, 30), (0, 1), ckTop, (0, 1), (318, 318), (30, 30)]
noncomputable def dG417 : List ckG := [([(48, ckTop), (49, (0, 47)), (55, ckTop), (56, ckTop), (58, ckTop), (59, ckTop), (76, ckTop), (77, (0, 30)), (197, ckTop), (198, (0, 60)), (318, ckTop)], [], []), ([(30, ckTop)], [], [])]
noncomputable def dP418 : List (Nat × ckC) := [(0, .inl (9, [(4, 10), (1, 1), (4, 11), (4, 12), (4, 13), (4, 14), (4, 15), (4, 16), (4, 17), (4, 18), (4, 19), (4, 20), (4, 21), (4, 22), (4, 23), (4, 24), (0, 0), (0, 1), (0, 2), (0, 3), (0, 4), (0, 5), (0, 6), (4, 25), (0, 7), (4, 26), (0, 8), (0, 9), (0, 10), (0, 11), (1, 2), (0, 12), (0, 22), (0, 14), (0, 15), (1, 2), (1, 1), (0, 23), (4, 27), (4, 28), (0, 17), (0, 18)]))]
noncomputable def dP419 : List (Nat × ckC) := [(0, .inl (9, [(4, 10), (1, 1), (4, 11), (4, 12), (4, 13), (4, 14), (4, 15), (4, 16), (4, 17), (4, 18), (4, 19), (4, 20), (4, 21), (4, 22), (4, 23), (4, 24), (0, 0), (0, 1), (0, 2), (0, 3), (0, 4), (0, 5), (0, 6), (4, 25), (0, 7), (4, 26), (0, 8), (0, 9), (0, 10), (0, 11), (1, 2), (0, 12), (0, 29), (0, 14), (0, 15), (1, 2), (1, 1), (0, 16), (4, 27), (4, 28), (0, 17), (0, 18)]))]
noncomputable def dZ420 : List ckZ := [(13, 15, (-1)), (13, 29, 0), (28, 15, 0), (28, 29, 0), (29, 15, 0), (29, 28, 29)]
noncomputable def dP421 : List (Nat × ckC) := [(0, .inl (9, [(4, 10), (1, 1), (4, 11), (4, 12), (4, 13), (4, 14), (4, 15), (4, 16), (4, 17), (4, 18), (4, 19), (4, 20), (4, 21), (4, 22), (4, 23), (4, 24), (0, 0), (0, 1), (0, 2), (0, 3), (0, 4), (0, 5), (0, 6), (4, 25), (0, 7), (4, 26), (0, 8), (0, 9), (0, 10), (0, 11), (1, 2), (0, 12), (0, 30), (0, 14), (0, 15), (1, 2), (1, 1), (0, 16), (4, 27), (4, 28), (0, 17), (0, 18)]))]
noncomputable def dZ422 : List ckZ := [(13, 15, (-1)), (13, 25, (-1)), (13, 30, (-1)), (25, 13, 1), (25, 15, 0), (25, 30, 0), (29, 15, (-1)), (29, 30, (-1)), (30, 15, 0)]
-- FarMachineModel.unit
noncomputable def k241 : ckCtr := (88, ([(0, (1, 0))], [], dC415, dT416, dG417, [], [], [(1, 0, 0, 0, [])], 0, 0), [([], [(0, 21)], dP418, [], [], [ckTop, (0, 30), (0, 1)], [], [], [(13, 22, 0), (23, 15, 0), (23, 16, 0), (23, 22, 0)], [(1, 0, 0, 0, [])], 0, 0)], 4, 143, 0, 0)
noncomputable def k241_a : ckAs := [(53, [(480548, [(1, 0, 1, ([(0, (1, 0)), (1, (0, 21)), (2, (0, 27)), (3, (0, 28))], [], dP419, [], [], [ckTop, (0, 3), (0, 30)], [], [], dZ420, [(1, 0, 0, 0, [])], 0, 0))]), (89035, [(1, 0, 1, ([(0, (1, 0)), (1, (0, 21)), (2, (0, 28)), (3, (0, 29))], [], dP421, [], [], [ckTop, (0, 3), (1, 30)], [], [], dZ422, [(1, 0, 0, 0, [])], 0, 0))])])]
noncomputable def k241_c : List (Nat × ckCtr) := [(10, k233), (21, k235), (29, k236), (29, k239), (59, k233), (62, k235), (73, k240)]
theorem k241_ok (l : Launch) : ckCtrOk l ckMT ckTW ckCL k241 := mt_88 (as := k241_a) (cs := k241_c) (gx := []) (f := 200000) rfl (ckHc (k233_ok l) (ckHc (k235_ok l) (ckHc (k236_ok l) (ckHc (k239_ok l) (ckHc (k233_ok l) (ckHc (k235_ok l) (ckHc (k240_ok l) (fun _ h => absurd h List.not_mem_nil)))))))) True.intro (by decide +kernel)
noncomputable def dT423 : List ckI := [(0, 1), (0, 1), ckTop, ckTop, ckTop, ckTop, ckTop, ckTop, ckTop, ckTop, ckTop, ckTop, ckTop, (30, 30), (0, 0), (0, 30), (0, 1), ckTop, (0, 1), (318, 318), (30, 30)]
noncomputable def dP424 : List (Nat × ckC) := [(0, .inl (9, [(4, 10), (1, 1), (4, 11), (4, 12), (4, 13), (4, 14), (4, 15), (4, 16), (4, 17), (4, 18), (4, 19), (4, 20), (4, 21), (4, 22), (4, 23), (4, 24), (0, 0), (0, 1), (0, 2), (0, 3), (0, 4), (0, 5), (0, 6), (4, 25), (0, 7), (4, 26), (0, 8), (0, 9), (0, 10), (0, 11), (1, 2), (0, 12), (0, 13), (0, 14), (0, 15), (1, 2), (1, 1), (0, 14), (4, 27), (4, 28), (0, 17), (0, 18)]))]
-- FarMachineModel.test
noncomputable def k242 : ckCtr := (86, ([(0, (1, 0))], [], dC415, dT423, dG417, [], [], [(1, 0, 0, 0, [])], 0, 0), [([], [(0, 14)], dP424, [], [], [], [], [], [], [(1, 0, 0, 0, [])], 0, 0)], 5, 166, 0, 0)
noncomputable def k242_a : ckAs := []
noncomputable def k242_c : List (Nat × ckCtr) := [(3, k234), (23, k241), (28, k233)]
theorem k242_ok (l : Launch) : ckCtrOk l ckMT ckTW ckCL k242 := mt_86 (as := k242_a) (cs := k242_c) (gx := []) (f := 200000) rfl (ckHc (k234_ok l) (ckHc (k241_ok l) (ckHc (k233_ok l) (fun _ h => absurd h List.not_mem_nil)))) True.intro (by decide +kernel)
noncomputable def dT425 : List ckI := [(0, 1), (0, 1), ckTop, ckTop, ckTop, ckTop, ckTop, ckTop, ckTop, ckTop, ckTop, ckTop, ckTop, (29, 30), (0, 0), (0, 30), (0, 1), ckTop, (0, 1), (318, 318), (30, 30)]
noncomputable def dZ426 : List ckZ := [(13, 22, 0), (21, 15, 0), (21, 16, 0), (21, 22, (-29)), (23, 15, 0), (23, 16, 0), (23, 22, (-29))]
-- FarMachineModel.test
noncomputable def k243 : ckCtr := (86, ([(0, (1, 0))], [], dC415, dT425, dG417, [], [], [(1, 0, 0, 0, [])], 0, 0), [([], [(0, 21)], dP418, [], [], [(0, 1), (29, 30), (0, 1)], [], [], dZ426, [(1, 0, 0, 0, [])], 0, 0)], 6, 189, 0, 0)
noncomputable def k243_a : ckAs := []
noncomputable def k243_c : List (Nat × ckCtr) := [(3, k234), (10, k242), (23, k241), (28, k233), (75, k241)]
theorem k243_ok (l : Launch) : ckCtrOk l ckMT ckTW ckCL k243 := mt_86 (as := k243_a) (cs := k243_c) (gx := []) (f := 200000) rfl (ckHc (k234_ok l) (ckHc (k242_ok l) (ckHc (k241_ok l) (ckHc (k233_ok l) (ckHc (k241_ok l) (fun _ h => absurd h List.not_mem_nil)))))) True.intro (by decide +kernel)
noncomputable def dT427 : List ckI := [(0, 1), (0, 1), ckTop, ckTop, ckTop, ckTop, ckTop, ckTop, ckTop, ckTop, ckTop, ckTop, ckTop, (28, 30), (0, 0), (0, 30), (0, 1), ckTop, (0, 1), (318, 318), (30, 30)]
noncomputable def dZ428 : List ckZ := [(13, 22, 0), (21, 15, 0), (21, 16, 0), (21, 22, (-28)), (23, 15, 0), (23, 16, 0), (23, 22, (-28))]
-- FarMachineModel.test
noncomputable def k244 : ckCtr := (86, ([(0, (1, 0))], [], dC415, dT427, dG417, [], [], [(1, 0, 0, 0, [])], 0, 0), [([], [(0, 21)], dP418, [], [], [(0, 1), (28, 30), (0, 1)], [], [], dZ428, [(1, 0, 0, 0, [])], 0, 0)], 7, 212, 0, 0)
noncomputable def k244_a : ckAs := []
noncomputable def k244_c : List (Nat × ckCtr) := [(3, k234), (10, k243), (23, k241), (28, k233), (75, k241)]
theorem k244_ok (l : Launch) : ckCtrOk l ckMT ckTW ckCL k244 := mt_86 (as := k244_a) (cs := k244_c) (gx := []) (f := 200000) rfl (ckHc (k234_ok l) (ckHc (k243_ok l) (ckHc (k241_ok l) (ckHc (k233_ok l) (ckHc (k241_ok l) (fun _ h => absurd h List.not_mem_nil)))))) True.intro (by decide +kernel)
noncomputable def dT429 : List ckI := [(0, 1), (0, 1), ckTop, ckTop, ckTop, ckTop, ckTop, ckTop, ckTop, ckTop, ckTop, ckTop, ckTop, (27, 30), (0, 0), (0, 30), (0, 1), ckTop, (0, 1), (318, 318), (30, 30)]
noncomputable def dZ430 : List ckZ := [(13, 22, 0), (21, 15, 0), (21, 16, 0), (21, 22, (-27)), (23, 15, 0), (23, 16, 0), (23, 22, (-27))]
-- FarMachineModel.test
noncomputable def k245 : ckCtr := (86, ([(0, (1, 0))], [], dC415, dT429, dG417, [], [], [(1, 0, 0, 0, [])], 0, 0), [([], [(0, 21)], dP418, [], [], [(0, 1), (27, 30), (0, 1)], [], [], dZ430, [(1, 0, 0, 0, [])], 0, 0)], 8, 235, 0, 0)
noncomputable def k245_a : ckAs := []
noncomputable def k245_c : List (Nat × ckCtr) := [(3, k234), (10, k244), (23, k241), (28, k233), (75, k241)]
theorem k245_ok (l : Launch) : ckCtrOk l ckMT ckTW ckCL k245 := mt_86 (as := k245_a) (cs := k245_c) (gx := []) (f := 200000) rfl (ckHc (k234_ok l) (ckHc (k244_ok l) (ckHc (k241_ok l) (ckHc (k233_ok l) (ckHc (k241_ok l) (fun _ h => absurd h List.not_mem_nil)))))) True.intro (by decide +kernel)
noncomputable def dT431 : List ckI := [(0, 1), (0, 1), ckTop, ckTop, ckTop, ckTop, ckTop, ckTop, ckTop, ckTop, ckTop, ckTop, ckTop, (26, 30), (0, 0), (0, 30), (0, 1), ckTop, (0, 1), (318, 318), (30, 30)]
noncomputable def dZ432 : List ckZ := [(13, 22, 0), (21, 15, 0), (21, 16, 0), (21, 22, (-26)), (23, 15, 0), (23, 16, 0), (23, 22, (-26))]
-- FarMachineModel.test
noncomputable def k246 : ckCtr := (86, ([(0, (1, 0))], [], dC415, dT431, dG417, [], [], [(1, 0, 0, 0, [])], 0, 0), [([], [(0, 21)], dP418, [], [], [(0, 1), (26, 30), (0, 1)], [], [], dZ432, [(1, 0, 0, 0, [])], 0, 0)], 9, 258, 0, 0)
noncomputable def k246_a : ckAs := []
noncomputable def k246_c : List (Nat × ckCtr) := [(3, k234), (10, k245), (23, k241), (28, k233), (75, k241)]
theorem k246_ok (l : Launch) : ckCtrOk l ckMT ckTW ckCL k246 := mt_86 (as := k246_a) (cs := k246_c) (gx := []) (f := 200000) rfl (ckHc (k234_ok l) (ckHc (k245_ok l) (ckHc (k241_ok l) (ckHc (k233_ok l) (ckHc (k241_ok l) (fun _ h => absurd h List.not_mem_nil)))))) True.intro (by decide +kernel)
noncomputable def dT433 : List ckI := [(0, 1), (0, 1), ckTop, ckTop, ckTop, ckTop, ckTop, ckTop, ckTop, ckTop, ckTop, ckTop, ckTop, (25, 30), (0, 0), (0, 30), (0, 1), ckTop, (0, 1), (318, 318), (30, 30)]
noncomputable def dZ434 : List ckZ := [(13, 22, 0), (21, 15, 0), (21, 16, 0), (21, 22, (-25)), (23, 15, 0), (23, 16, 0), (23, 22, (-25))]
-- FarMachineModel.test
noncomputable def k247 : ckCtr := (86, ([(0, (1, 0))], [], dC415, dT433, dG417, [], [], [(1, 0, 0, 0, [])], 0, 0), [([], [(0, 21)], dP418, [], [], [(0, 1), (25, 30), (0, 1)], [], [], dZ434, [(1, 0, 0, 0, [])], 0, 0)], 10, 281, 0, 0)
noncomputable def k247_a : ckAs := []
noncomputable def k247_c : List (Nat × ckCtr) := [(3, k234), (10, k246), (23, k241), (28, k233), (75, k241)]
theorem k247_ok (l : Launch) : ckCtrOk l ckMT ckTW ckCL k247 := mt_86 (as := k247_a) (cs := k247_c) (gx := []) (f := 200000) rfl (ckHc (k234_ok l) (ckHc (k246_ok l) (ckHc (k241_ok l) (ckHc (k233_ok l) (ckHc (k241_ok l) (fun _ h => absurd h List.not_mem_nil)))))) True.intro (by decide +kernel)
noncomputable def dT435 : List ckI := [(0, 1), (0, 1), ckTop, ckTop, ckTop, ckTop, ckTop, ckTop, ckTop, ckTop, ckTop, ckTop, ckTop, (24, 30), (0, 0), (0, 30), (0, 1), ckTop, (0, 1), (318, 318), (30, 30)]
noncomputable def dZ436 : List ckZ := [(13, 22, 0), (21, 15, 0), (21, 16, 0), (21, 22, (-24)), (23, 15, 0), (23, 16, 0), (23, 22, (-24))]
-- FarMachineModel.test
noncomputable def k248 : ckCtr := (86, ([(0, (1, 0))], [], dC415, dT435, dG417, [], [], [(1, 0, 0, 0, [])], 0, 0), [([], [(0, 21)], dP418, [], [], [(0, 1), (24, 30), (0, 1)], [], [], dZ436, [(1, 0, 0, 0, [])], 0, 0)], 11, 304, 0, 0)
noncomputable def k248_a : ckAs := []
noncomputable def k248_c : List (Nat × ckCtr) := [(3, k234), (10, k247), (23, k241), (28, k233), (75, k241)]
theorem k248_ok (l : Launch) : ckCtrOk l ckMT ckTW ckCL k248 := mt_86 (as := k248_a) (cs := k248_c) (gx := []) (f := 200000) rfl (ckHc (k234_ok l) (ckHc (k247_ok l) (ckHc (k241_ok l) (ckHc (k233_ok l) (ckHc (k241_ok l) (fun _ h => absurd h List.not_mem_nil)))))) True.intro (by decide +kernel)
noncomputable def dT437 : List ckI := [(0, 1), (0, 1), ckTop, ckTop, ckTop, ckTop, ckTop, ckTop, ckTop, ckTop, ckTop, ckTop, ckTop, (23, 30), (0, 0), (0, 30), (0, 1), ckTop, (0, 1), (318, 318), (30, 30)]
noncomputable def dZ438 : List ckZ := [(13, 22, 0), (21, 15, 0), (21, 16, 0), (21, 22, (-23)), (23, 15, 0), (23, 16, 0), (23, 22, (-23))]
-- FarMachineModel.test
noncomputable def k249 : ckCtr := (86, ([(0, (1, 0))], [], dC415, dT437, dG417, [], [], [(1, 0, 0, 0, [])], 0, 0), [([], [(0, 21)], dP418, [], [], [(0, 1), (23, 30), (0, 1)], [], [], dZ438, [(1, 0, 0, 0, [])], 0, 0)], 12, 327, 0, 0)
noncomputable def k249_a : ckAs := []
noncomputable def k249_c : List (Nat × ckCtr) := [(3, k234), (10, k248), (23, k241), (28, k233), (75, k241)]
theorem k249_ok (l : Launch) : ckCtrOk l ckMT ckTW ckCL k249 := mt_86 (as := k249_a) (cs := k249_c) (gx := []) (f := 200000) rfl (ckHc (k234_ok l) (ckHc (k248_ok l) (ckHc (k241_ok l) (ckHc (k233_ok l) (ckHc (k241_ok l) (fun _ h => absurd h List.not_mem_nil)))))) True.intro (by decide +kernel)
noncomputable def dT439 : List ckI := [(0, 1), (0, 1), ckTop, ckTop, ckTop, ckTop, ckTop, ckTop, ckTop, ckTop, ckTop, ckTop, ckTop, (22, 30), (0, 0), (0, 30), (0, 1), ckTop, (0, 1), (318, 318), (30, 30)]
noncomputable def dZ440 : List ckZ := [(13, 22, 0), (21, 15, 0), (21, 16, 0), (21, 22, (-22)), (23, 15, 0), (23, 16, 0), (23, 22, (-22))]
-- FarMachineModel.test
noncomputable def k250 : ckCtr := (86, ([(0, (1, 0))], [], dC415, dT439, dG417, [], [], [(1, 0, 0, 0, [])], 0, 0), [([], [(0, 21)], dP418, [], [], [(0, 1), (22, 30), (0, 1)], [], [], dZ440, [(1, 0, 0, 0, [])], 0, 0)], 13, 350, 0, 0)
noncomputable def k250_a : ckAs := []
noncomputable def k250_c : List (Nat × ckCtr) := [(3, k234), (10, k249), (23, k241), (28, k233), (75, k241)]
theorem k250_ok (l : Launch) : ckCtrOk l ckMT ckTW ckCL k250 := mt_86 (as := k250_a) (cs := k250_c) (gx := []) (f := 200000) rfl (ckHc (k234_ok l) (ckHc (k249_ok l) (ckHc (k241_ok l) (ckHc (k233_ok l) (ckHc (k241_ok l) (fun _ h => absurd h List.not_mem_nil)))))) True.intro (by decide +kernel)
noncomputable def dT441 : List ckI := [(0, 1), (0, 1), ckTop, ckTop, ckTop, ckTop, ckTop, ckTop, ckTop, ckTop, ckTop, ckTop, ckTop, (21, 30), (0, 0), (0, 30), (0, 1), ckTop, (0, 1), (318, 318), (30, 30)]
noncomputable def dZ442 : List ckZ := [(13, 22, 0), (21, 15, 0), (21, 16, 0), (21, 22, (-21)), (23, 15, 0), (23, 16, 0), (23, 22, (-21))]
-- FarMachineModel.test
noncomputable def k251 : ckCtr := (86, ([(0, (1, 0))], [], dC415, dT441, dG417, [], [], [(1, 0, 0, 0, [])], 0, 0), [([], [(0, 21)], dP418, [], [], [(0, 1), (21, 30), (0, 1)], [], [], dZ442, [(1, 0, 0, 0, [])], 0, 0)], 14, 373, 0, 0)
noncomputable def k251_a : ckAs := []
noncomputable def k251_c : List (Nat × ckCtr) := [(3, k234), (10, k250), (23, k241), (28, k233), (75, k241)]
theorem k251_ok (l : Launch) : ckCtrOk l ckMT ckTW ckCL k251 := mt_86 (as := k251_a) (cs := k251_c) (gx := []) (f := 200000) rfl (ckHc (k234_ok l) (ckHc (k250_ok l) (ckHc (k241_ok l) (ckHc (k233_ok l) (ckHc (k241_ok l) (fun _ h => absurd h List.not_mem_nil)))))) True.intro (by decide +kernel)
noncomputable def dT443 : List ckI := [(0, 1), (0, 1), ckTop, ckTop, ckTop, ckTop, ckTop, ckTop, ckTop, ckTop, ckTop, ckTop, ckTop, (20, 30), (0, 0), (0, 30), (0, 1), ckTop, (0, 1), (318, 318), (30, 30)]
noncomputable def dZ444 : List ckZ := [(13, 22, 0), (21, 15, 0), (21, 16, 0), (21, 22, (-20)), (23, 15, 0), (23, 16, 0), (23, 22, (-20))]
-- FarMachineModel.test
noncomputable def k252 : ckCtr := (86, ([(0, (1, 0))], [], dC415, dT443, dG417, [], [], [(1, 0, 0, 0, [])], 0, 0), [([], [(0, 21)], dP418, [], [], [(0, 1), (20, 30), (0, 1)], [], [], dZ444, [(1, 0, 0, 0, [])], 0, 0)], 15, 396, 0, 0)
noncomputable def k252_a : ckAs := []
noncomputable def k252_c : List (Nat × ckCtr) := [(3, k234), (10, k251), (23, k241), (28, k233), (75, k241)]
theorem k252_ok (l : Launch) : ckCtrOk l ckMT ckTW ckCL k252 := mt_86 (as := k252_a) (cs := k252_c) (gx := []) (f := 200000) rfl (ckHc (k234_ok l) (ckHc (k251_ok l) (ckHc (k241_ok l) (ckHc (k233_ok l) (ckHc (k241_ok l) (fun _ h => absurd h List.not_mem_nil)))))) True.intro (by decide +kernel)
noncomputable def dT445 : List ckI := [(0, 1), (0, 1), ckTop, ckTop, ckTop, ckTop, ckTop, ckTop, ckTop, ckTop, ckTop, ckTop, ckTop, (19, 30), (0, 0), (0, 30), (0, 1), ckTop, (0, 1), (318, 318), (30, 30)]
noncomputable def dZ446 : List ckZ := [(13, 22, 0), (21, 15, 0), (21, 16, 0), (21, 22, (-19)), (23, 15, 0), (23, 16, 0), (23, 22, (-19))]
-- FarMachineModel.test
noncomputable def k253 : ckCtr := (86, ([(0, (1, 0))], [], dC415, dT445, dG417, [], [], [(1, 0, 0, 0, [])], 0, 0), [([], [(0, 21)], dP418, [], [], [(0, 1), (19, 30), (0, 1)], [], [], dZ446, [(1, 0, 0, 0, [])], 0, 0)], 16, 419, 0, 0)
noncomputable def k253_a : ckAs := []
noncomputable def k253_c : List (Nat × ckCtr) := [(3, k234), (10, k252), (23, k241), (28, k233), (75, k241)]
theorem k253_ok (l : Launch) : ckCtrOk l ckMT ckTW ckCL k253 := mt_86 (as := k253_a) (cs := k253_c) (gx := []) (f := 200000) rfl (ckHc (k234_ok l) (ckHc (k252_ok l) (ckHc (k241_ok l) (ckHc (k233_ok l) (ckHc (k241_ok l) (fun _ h => absurd h List.not_mem_nil)))))) True.intro (by decide +kernel)
noncomputable def dT447 : List ckI := [(0, 1), (0, 1), ckTop, ckTop, ckTop, ckTop, ckTop, ckTop, ckTop, ckTop, ckTop, ckTop, ckTop, (18, 30), (0, 0), (0, 30), (0, 1), ckTop, (0, 1), (318, 318), (30, 30)]
noncomputable def dZ448 : List ckZ := [(13, 22, 0), (21, 15, 0), (21, 16, 0), (21, 22, (-18)), (23, 15, 0), (23, 16, 0), (23, 22, (-18))]
-- FarMachineModel.test
noncomputable def k254 : ckCtr := (86, ([(0, (1, 0))], [], dC415, dT447, dG417, [], [], [(1, 0, 0, 0, [])], 0, 0), [([], [(0, 21)], dP418, [], [], [(0, 1), (18, 30), (0, 1)], [], [], dZ448, [(1, 0, 0, 0, [])], 0, 0)], 17, 442, 0, 0)
noncomputable def k254_a : ckAs := []
noncomputable def k254_c : List (Nat × ckCtr) := [(3, k234), (10, k253), (23, k241), (28, k233), (75, k241)]
theorem k254_ok (l : Launch) : ckCtrOk l ckMT ckTW ckCL k254 := mt_86 (as := k254_a) (cs := k254_c) (gx := []) (f := 200000) rfl (ckHc (k234_ok l) (ckHc (k253_ok l) (ckHc (k241_ok l) (ckHc (k233_ok l) (ckHc (k241_ok l) (fun _ h => absurd h List.not_mem_nil)))))) True.intro (by decide +kernel)
noncomputable def dT449 : List ckI := [(0, 1), (0, 1), ckTop, ckTop, ckTop, ckTop, ckTop, ckTop, ckTop, ckTop, ckTop, ckTop, ckTop, (17, 30), (0, 0), (0, 30), (0, 1), ckTop, (0, 1), (318, 318), (30, 30)]
noncomputable def dZ450 : List ckZ := [(13, 22, 0), (21, 15, 0), (21, 16, 0), (21, 22, (-17)), (23, 15, 0), (23, 16, 0), (23, 22, (-17))]
-- FarMachineModel.test
noncomputable def k255 : ckCtr := (86, ([(0, (1, 0))], [], dC415, dT449, dG417, [], [], [(1, 0, 0, 0, [])], 0, 0), [([], [(0, 21)], dP418, [], [], [(0, 1), (17, 30), (0, 1)], [], [], dZ450, [(1, 0, 0, 0, [])], 0, 0)], 18, 465, 0, 0)
noncomputable def k255_a : ckAs := []
noncomputable def k255_c : List (Nat × ckCtr) := [(3, k234), (10, k254), (23, k241), (28, k233), (75, k241)]
theorem k255_ok (l : Launch) : ckCtrOk l ckMT ckTW ckCL k255 := mt_86 (as := k255_a) (cs := k255_c) (gx := []) (f := 200000) rfl (ckHc (k234_ok l) (ckHc (k254_ok l) (ckHc (k241_ok l) (ckHc (k233_ok l) (ckHc (k241_ok l) (fun _ h => absurd h List.not_mem_nil)))))) True.intro (by decide +kernel)
noncomputable def dT451 : List ckI := [(0, 1), (0, 1), ckTop, ckTop, ckTop, ckTop, ckTop, ckTop, ckTop, ckTop, ckTop, ckTop, ckTop, (16, 30), (0, 0), (0, 30), (0, 1), ckTop, (0, 1), (318, 318), (30, 30)]
noncomputable def dZ452 : List ckZ := [(13, 22, 0), (21, 15, 0), (21, 16, 0), (21, 22, (-16)), (23, 15, 0), (23, 16, 0), (23, 22, (-16))]
-- FarMachineModel.test
noncomputable def k256 : ckCtr := (86, ([(0, (1, 0))], [], dC415, dT451, dG417, [], [], [(1, 0, 0, 0, [])], 0, 0), [([], [(0, 21)], dP418, [], [], [(0, 1), (16, 30), (0, 1)], [], [], dZ452, [(1, 0, 0, 0, [])], 0, 0)], 19, 488, 0, 0)
noncomputable def k256_a : ckAs := []
noncomputable def k256_c : List (Nat × ckCtr) := [(3, k234), (10, k255), (23, k241), (28, k233), (75, k241)]
theorem k256_ok (l : Launch) : ckCtrOk l ckMT ckTW ckCL k256 := mt_86 (as := k256_a) (cs := k256_c) (gx := []) (f := 200000) rfl (ckHc (k234_ok l) (ckHc (k255_ok l) (ckHc (k241_ok l) (ckHc (k233_ok l) (ckHc (k241_ok l) (fun _ h => absurd h List.not_mem_nil)))))) True.intro (by decide +kernel)
noncomputable def dT453 : List ckI := [(0, 1), (0, 1), ckTop, ckTop, ckTop, ckTop, ckTop, ckTop, ckTop, ckTop, ckTop, ckTop, ckTop, (15, 30), (0, 0), (0, 30), (0, 1), ckTop, (0, 1), (318, 318), (30, 30)]
noncomputable def dZ454 : List ckZ := [(13, 22, 0), (21, 15, 0), (21, 16, 0), (21, 22, (-15)), (23, 15, 0), (23, 16, 0), (23, 22, (-15))]
-- FarMachineModel.test
noncomputable def k257 : ckCtr := (86, ([(0, (1, 0))], [], dC415, dT453, dG417, [], [], [(1, 0, 0, 0, [])], 0, 0), [([], [(0, 21)], dP418, [], [], [(0, 1), (15, 30), (0, 1)], [], [], dZ454, [(1, 0, 0, 0, [])], 0, 0)], 20, 511, 0, 0)
noncomputable def k257_a : ckAs := []
noncomputable def k257_c : List (Nat × ckCtr) := [(3, k234), (10, k256), (23, k241), (28, k233), (75, k241)]
theorem k257_ok (l : Launch) : ckCtrOk l ckMT ckTW ckCL k257 := mt_86 (as := k257_a) (cs := k257_c) (gx := []) (f := 200000) rfl (ckHc (k234_ok l) (ckHc (k256_ok l) (ckHc (k241_ok l) (ckHc (k233_ok l) (ckHc (k241_ok l) (fun _ h => absurd h List.not_mem_nil)))))) True.intro (by decide +kernel)
noncomputable def dT455 : List ckI := [(0, 1), (0, 1), ckTop, ckTop, ckTop, ckTop, ckTop, ckTop, ckTop, ckTop, ckTop, ckTop, ckTop, (14, 30), (0, 0), (0, 30), (0, 1), ckTop, (0, 1), (318, 318), (30, 30)]
noncomputable def dZ456 : List ckZ := [(13, 22, 0), (21, 15, 0), (21, 16, 0), (21, 22, (-14)), (23, 15, 0), (23, 16, 0), (23, 22, (-14))]
-- FarMachineModel.test
noncomputable def k258 : ckCtr := (86, ([(0, (1, 0))], [], dC415, dT455, dG417, [], [], [(1, 0, 0, 0, [])], 0, 0), [([], [(0, 21)], dP418, [], [], [(0, 1), (14, 30), (0, 1)], [], [], dZ456, [(1, 0, 0, 0, [])], 0, 0)], 21, 534, 0, 0)
noncomputable def k258_a : ckAs := []
noncomputable def k258_c : List (Nat × ckCtr) := [(3, k234), (10, k257), (23, k241), (28, k233), (75, k241)]
theorem k258_ok (l : Launch) : ckCtrOk l ckMT ckTW ckCL k258 := mt_86 (as := k258_a) (cs := k258_c) (gx := []) (f := 200000) rfl (ckHc (k234_ok l) (ckHc (k257_ok l) (ckHc (k241_ok l) (ckHc (k233_ok l) (ckHc (k241_ok l) (fun _ h => absurd h List.not_mem_nil)))))) True.intro (by decide +kernel)
noncomputable def dT457 : List ckI := [(0, 1), (0, 1), ckTop, ckTop, ckTop, ckTop, ckTop, ckTop, ckTop, ckTop, ckTop, ckTop, ckTop, (13, 30), (0, 0), (0, 30), (0, 1), ckTop, (0, 1), (318, 318), (30, 30)]
noncomputable def dZ458 : List ckZ := [(13, 22, 0), (21, 15, 0), (21, 16, 0), (21, 22, (-13)), (23, 15, 0), (23, 16, 0), (23, 22, (-13))]
-- FarMachineModel.test
noncomputable def k259 : ckCtr := (86, ([(0, (1, 0))], [], dC415, dT457, dG417, [], [], [(1, 0, 0, 0, [])], 0, 0), [([], [(0, 21)], dP418, [], [], [(0, 1), (13, 30), (0, 1)], [], [], dZ458, [(1, 0, 0, 0, [])], 0, 0)], 22, 557, 0, 0)
noncomputable def k259_a : ckAs := []
noncomputable def k259_c : List (Nat × ckCtr) := [(3, k234), (10, k258), (23, k241), (28, k233), (75, k241)]
theorem k259_ok (l : Launch) : ckCtrOk l ckMT ckTW ckCL k259 := mt_86 (as := k259_a) (cs := k259_c) (gx := []) (f := 200000) rfl (ckHc (k234_ok l) (ckHc (k258_ok l) (ckHc (k241_ok l) (ckHc (k233_ok l) (ckHc (k241_ok l) (fun _ h => absurd h List.not_mem_nil)))))) True.intro (by decide +kernel)
noncomputable def dT459 : List ckI := [(0, 1), (0, 1), ckTop, ckTop, ckTop, ckTop, ckTop, ckTop, ckTop, ckTop, ckTop, ckTop, ckTop, (12, 30), (0, 0), (0, 30), (0, 1), ckTop, (0, 1), (318, 318), (30, 30)]
noncomputable def dZ460 : List ckZ := [(13, 22, 0), (21, 15, 0), (21, 16, 0), (21, 22, (-12)), (23, 15, 0), (23, 16, 0), (23, 22, (-12))]
-- FarMachineModel.test
noncomputable def k260 : ckCtr := (86, ([(0, (1, 0))], [], dC415, dT459, dG417, [], [], [(1, 0, 0, 0, [])], 0, 0), [([], [(0, 21)], dP418, [], [], [(0, 1), (12, 30), (0, 1)], [], [], dZ460, [(1, 0, 0, 0, [])], 0, 0)], 23, 580, 0, 0)
noncomputable def k260_a : ckAs := []
noncomputable def k260_c : List (Nat × ckCtr) := [(3, k234), (10, k259), (23, k241), (28, k233), (75, k241)]
theorem k260_ok (l : Launch) : ckCtrOk l ckMT ckTW ckCL k260 := mt_86 (as := k260_a) (cs := k260_c) (gx := []) (f := 200000) rfl (ckHc (k234_ok l) (ckHc (k259_ok l) (ckHc (k241_ok l) (ckHc (k233_ok l) (ckHc (k241_ok l) (fun _ h => absurd h List.not_mem_nil)))))) True.intro (by decide +kernel)
noncomputable def dT461 : List ckI := [(0, 1), (0, 1), ckTop, ckTop, ckTop, ckTop, ckTop, ckTop, ckTop, ckTop, ckTop, ckTop, ckTop, (11, 30), (0, 0), (0, 30), (0, 1), ckTop, (0, 1), (318, 318), (30, 30)]
noncomputable def dZ462 : List ckZ := [(13, 22, 0), (21, 15, 0), (21, 16, 0), (21, 22, (-11)), (23, 15, 0), (23, 16, 0), (23, 22, (-11))]
-- FarMachineModel.test
noncomputable def k261 : ckCtr := (86, ([(0, (1, 0))], [], dC415, dT461, dG417, [], [], [(1, 0, 0, 0, [])], 0, 0), [([], [(0, 21)], dP418, [], [], [(0, 1), (11, 30), (0, 1)], [], [], dZ462, [(1, 0, 0, 0, [])], 0, 0)], 24, 603, 0, 0)
noncomputable def k261_a : ckAs := []
noncomputable def k261_c : List (Nat × ckCtr) := [(3, k234), (10, k260), (23, k241), (28, k233), (75, k241)]
theorem k261_ok (l : Launch) : ckCtrOk l ckMT ckTW ckCL k261 := mt_86 (as := k261_a) (cs := k261_c) (gx := []) (f := 200000) rfl (ckHc (k234_ok l) (ckHc (k260_ok l) (ckHc (k241_ok l) (ckHc (k233_ok l) (ckHc (k241_ok l) (fun _ h => absurd h List.not_mem_nil)))))) True.intro (by decide +kernel)
noncomputable def dT463 : List ckI := [(0, 1), (0, 1), ckTop, ckTop, ckTop, ckTop, ckTop, ckTop, ckTop, ckTop, ckTop, ckTop, ckTop, (10, 30), (0, 0), (0, 30), (0, 1), ckTop, (0, 1), (318, 318), (30, 30)]
noncomputable def dZ464 : List ckZ := [(13, 22, 0), (21, 15, 0), (21, 16, 0), (21, 22, (-10)), (23, 15, 0), (23, 16, 0), (23, 22, (-10))]
-- FarMachineModel.test
noncomputable def k262 : ckCtr := (86, ([(0, (1, 0))], [], dC415, dT463, dG417, [], [], [(1, 0, 0, 0, [])], 0, 0), [([], [(0, 21)], dP418, [], [], [(0, 1), (10, 30), (0, 1)], [], [], dZ464, [(1, 0, 0, 0, [])], 0, 0)], 25, 626, 0, 0)
noncomputable def k262_a : ckAs := []
noncomputable def k262_c : List (Nat × ckCtr) := [(3, k234), (10, k261), (23, k241), (28, k233), (75, k241)]
theorem k262_ok (l : Launch) : ckCtrOk l ckMT ckTW ckCL k262 := mt_86 (as := k262_a) (cs := k262_c) (gx := []) (f := 200000) rfl (ckHc (k234_ok l) (ckHc (k261_ok l) (ckHc (k241_ok l) (ckHc (k233_ok l) (ckHc (k241_ok l) (fun _ h => absurd h List.not_mem_nil)))))) True.intro (by decide +kernel)
noncomputable def dT465 : List ckI := [(0, 1), (0, 1), ckTop, ckTop, ckTop, ckTop, ckTop, ckTop, ckTop, ckTop, ckTop, ckTop, ckTop, (9, 30), (0, 0), (0, 30), (0, 1), ckTop, (0, 1), (318, 318), (30, 30)]
noncomputable def dZ466 : List ckZ := [(13, 22, 0), (21, 15, 0), (21, 16, 0), (21, 22, (-9)), (23, 15, 0), (23, 16, 0), (23, 22, (-9))]
-- FarMachineModel.test
noncomputable def k263 : ckCtr := (86, ([(0, (1, 0))], [], dC415, dT465, dG417, [], [], [(1, 0, 0, 0, [])], 0, 0), [([], [(0, 21)], dP418, [], [], [(0, 1), (9, 30), (0, 1)], [], [], dZ466, [(1, 0, 0, 0, [])], 0, 0)], 26, 649, 0, 0)
noncomputable def k263_a : ckAs := []
noncomputable def k263_c : List (Nat × ckCtr) := [(3, k234), (10, k262), (23, k241), (28, k233), (75, k241)]
theorem k263_ok (l : Launch) : ckCtrOk l ckMT ckTW ckCL k263 := mt_86 (as := k263_a) (cs := k263_c) (gx := []) (f := 200000) rfl (ckHc (k234_ok l) (ckHc (k262_ok l) (ckHc (k241_ok l) (ckHc (k233_ok l) (ckHc (k241_ok l) (fun _ h => absurd h List.not_mem_nil)))))) True.intro (by decide +kernel)
noncomputable def dT467 : List ckI := [(0, 1), (0, 1), ckTop, ckTop, ckTop, ckTop, ckTop, ckTop, ckTop, ckTop, ckTop, ckTop, ckTop, (8, 30), (0, 0), (0, 30), (0, 1), ckTop, (0, 1), (318, 318), (30, 30)]
noncomputable def dZ468 : List ckZ := [(13, 22, 0), (21, 15, 0), (21, 16, 0), (21, 22, (-8)), (23, 15, 0), (23, 16, 0), (23, 22, (-8))]
-- FarMachineModel.test
noncomputable def k264 : ckCtr := (86, ([(0, (1, 0))], [], dC415, dT467, dG417, [], [], [(1, 0, 0, 0, [])], 0, 0), [([], [(0, 21)], dP418, [], [], [(0, 1), (8, 30), (0, 1)], [], [], dZ468, [(1, 0, 0, 0, [])], 0, 0)], 27, 672, 0, 0)
noncomputable def k264_a : ckAs := []
noncomputable def k264_c : List (Nat × ckCtr) := [(3, k234), (10, k263), (23, k241), (28, k233), (75, k241)]
theorem k264_ok (l : Launch) : ckCtrOk l ckMT ckTW ckCL k264 := mt_86 (as := k264_a) (cs := k264_c) (gx := []) (f := 200000) rfl (ckHc (k234_ok l) (ckHc (k263_ok l) (ckHc (k241_ok l) (ckHc (k233_ok l) (ckHc (k241_ok l) (fun _ h => absurd h List.not_mem_nil)))))) True.intro (by decide +kernel)
noncomputable def dT469 : List ckI := [(0, 1), (0, 1), ckTop, ckTop, ckTop, ckTop, ckTop, ckTop, ckTop, ckTop, ckTop, ckTop, ckTop, (7, 30), (0, 0), (0, 30), (0, 1), ckTop, (0, 1), (318, 318), (30, 30)]
noncomputable def dZ470 : List ckZ := [(13, 22, 0), (21, 15, 0), (21, 16, 0), (21, 22, (-7)), (23, 15, 0), (23, 16, 0), (23, 22, (-7))]
-- FarMachineModel.test
noncomputable def k265 : ckCtr := (86, ([(0, (1, 0))], [], dC415, dT469, dG417, [], [], [(1, 0, 0, 0, [])], 0, 0), [([], [(0, 21)], dP418, [], [], [(0, 1), (7, 30), (0, 1)], [], [], dZ470, [(1, 0, 0, 0, [])], 0, 0)], 28, 695, 0, 0)
noncomputable def k265_a : ckAs := []
noncomputable def k265_c : List (Nat × ckCtr) := [(3, k234), (10, k264), (23, k241), (28, k233), (75, k241)]
theorem k265_ok (l : Launch) : ckCtrOk l ckMT ckTW ckCL k265 := mt_86 (as := k265_a) (cs := k265_c) (gx := []) (f := 200000) rfl (ckHc (k234_ok l) (ckHc (k264_ok l) (ckHc (k241_ok l) (ckHc (k233_ok l) (ckHc (k241_ok l) (fun _ h => absurd h List.not_mem_nil)))))) True.intro (by decide +kernel)
noncomputable def dT471 : List ckI := [(0, 1), (0, 1), ckTop, ckTop, ckTop, ckTop, ckTop, ckTop, ckTop, ckTop, ckTop, ckTop, ckTop, (6, 30), (0, 0), (0, 30), (0, 1), ckTop, (0, 1), (318, 318), (30, 30)]
noncomputable def dZ472 : List ckZ := [(13, 22, 0), (21, 15, 0), (21, 16, 0), (21, 22, (-6)), (23, 15, 0), (23, 16, 0), (23, 22, (-6))]
-- FarMachineModel.test
noncomputable def k266 : ckCtr := (86, ([(0, (1, 0))], [], dC415, dT471, dG417, [], [], [(1, 0, 0, 0, [])], 0, 0), [([], [(0, 21)], dP418, [], [], [(0, 1), (6, 30), (0, 1)], [], [], dZ472, [(1, 0, 0, 0, [])], 0, 0)], 29, 718, 0, 0)
noncomputable def k266_a : ckAs := []
noncomputable def k266_c : List (Nat × ckCtr) := [(3, k234), (10, k265), (23, k241), (28, k233), (75, k241)]
theorem k266_ok (l : Launch) : ckCtrOk l ckMT ckTW ckCL k266 := mt_86 (as := k266_a) (cs := k266_c) (gx := []) (f := 200000) rfl (ckHc (k234_ok l) (ckHc (k265_ok l) (ckHc (k241_ok l) (ckHc (k233_ok l) (ckHc (k241_ok l) (fun _ h => absurd h List.not_mem_nil)))))) True.intro (by decide +kernel)
noncomputable def dT473 : List ckI := [(0, 1), (0, 1), ckTop, ckTop, ckTop, ckTop, ckTop, ckTop, ckTop, ckTop, ckTop, ckTop, ckTop, (5, 30), (0, 0), (0, 30), (0, 1), ckTop, (0, 1), (318, 318), (30, 30)]
noncomputable def dZ474 : List ckZ := [(13, 22, 0), (21, 15, 0), (21, 16, 0), (21, 22, (-5)), (23, 15, 0), (23, 16, 0), (23, 22, (-5))]
-- FarMachineModel.test
noncomputable def k267 : ckCtr := (86, ([(0, (1, 0))], [], dC415, dT473, dG417, [], [], [(1, 0, 0, 0, [])], 0, 0), [([], [(0, 21)], dP418, [], [], [(0, 1), (5, 30), (0, 1)], [], [], dZ474, [(1, 0, 0, 0, [])], 0, 0)], 30, 741, 0, 0)
noncomputable def k267_a : ckAs := []
noncomputable def k267_c : List (Nat × ckCtr) := [(3, k234), (10, k266), (23, k241), (28, k233), (75, k241)]
theorem k267_ok (l : Launch) : ckCtrOk l ckMT ckTW ckCL k267 := mt_86 (as := k267_a) (cs := k267_c) (gx := []) (f := 200000) rfl (ckHc (k234_ok l) (ckHc (k266_ok l) (ckHc (k241_ok l) (ckHc (k233_ok l) (ckHc (k241_ok l) (fun _ h => absurd h List.not_mem_nil)))))) True.intro (by decide +kernel)
noncomputable def dT475 : List ckI := [(0, 1), (0, 1), ckTop, ckTop, ckTop, ckTop, ckTop, ckTop, ckTop, ckTop, ckTop, ckTop, ckTop, (4, 30), (0, 0), (0, 30), (0, 1), ckTop, (0, 1), (318, 318), (30, 30)]
noncomputable def dZ476 : List ckZ := [(13, 22, 0), (21, 15, 0), (21, 16, 0), (21, 22, (-4)), (23, 15, 0), (23, 16, 0), (23, 22, (-4))]
-- FarMachineModel.test
noncomputable def k268 : ckCtr := (86, ([(0, (1, 0))], [], dC415, dT475, dG417, [], [], [(1, 0, 0, 0, [])], 0, 0), [([], [(0, 21)], dP418, [], [], [(0, 1), (4, 30), (0, 1)], [], [], dZ476, [(1, 0, 0, 0, [])], 0, 0)], 31, 764, 0, 0)
noncomputable def k268_a : ckAs := []
noncomputable def k268_c : List (Nat × ckCtr) := [(3, k234), (10, k267), (23, k241), (28, k233), (75, k241)]
theorem k268_ok (l : Launch) : ckCtrOk l ckMT ckTW ckCL k268 := mt_86 (as := k268_a) (cs := k268_c) (gx := []) (f := 200000) rfl (ckHc (k234_ok l) (ckHc (k267_ok l) (ckHc (k241_ok l) (ckHc (k233_ok l) (ckHc (k241_ok l) (fun _ h => absurd h List.not_mem_nil)))))) True.intro (by decide +kernel)
noncomputable def dT477 : List ckI := [(0, 1), (0, 1), ckTop, ckTop, ckTop, ckTop, ckTop, ckTop, ckTop, ckTop, ckTop, ckTop, ckTop, (3, 30), (0, 0), (0, 30), (0, 1), ckTop, (0, 1), (318, 318), (30, 30)]
noncomputable def dZ478 : List ckZ := [(13, 22, 0), (21, 15, 0), (21, 16, 0), (21, 22, (-3)), (23, 15, 0), (23, 16, 0), (23, 22, (-3))]
-- FarMachineModel.test
noncomputable def k269 : ckCtr := (86, ([(0, (1, 0))], [], dC415, dT477, dG417, [], [], [(1, 0, 0, 0, [])], 0, 0), [([], [(0, 21)], dP418, [], [], [(0, 1), (3, 30), (0, 1)], [], [], dZ478, [(1, 0, 0, 0, [])], 0, 0)], 32, 787, 0, 0)
noncomputable def k269_a : ckAs := []
noncomputable def k269_c : List (Nat × ckCtr) := [(3, k234), (10, k268), (23, k241), (28, k233), (75, k241)]
theorem k269_ok (l : Launch) : ckCtrOk l ckMT ckTW ckCL k269 := mt_86 (as := k269_a) (cs := k269_c) (gx := []) (f := 200000) rfl (ckHc (k234_ok l) (ckHc (k268_ok l) (ckHc (k241_ok l) (ckHc (k233_ok l) (ckHc (k241_ok l) (fun _ h => absurd h List.not_mem_nil)))))) True.intro (by decide +kernel)
noncomputable def dT479 : List ckI := [(0, 1), (0, 1), ckTop, ckTop, ckTop, ckTop, ckTop, ckTop, ckTop, ckTop, ckTop, ckTop, ckTop, (2, 30), (0, 0), (0, 30), (0, 1), ckTop, (0, 1), (318, 318), (30, 30)]
noncomputable def dZ480 : List ckZ := [(13, 22, 0), (21, 15, 0), (21, 16, 0), (21, 22, (-2)), (23, 15, 0), (23, 16, 0), (23, 22, (-2))]
-- FarMachineModel.test
noncomputable def k270 : ckCtr := (86, ([(0, (1, 0))], [], dC415, dT479, dG417, [], [], [(1, 0, 0, 0, [])], 0, 0), [([], [(0, 21)], dP418, [], [], [(0, 1), (2, 30), (0, 1)], [], [], dZ480, [(1, 0, 0, 0, [])], 0, 0)], 33, 810, 0, 0)
noncomputable def k270_a : ckAs := []
noncomputable def k270_c : List (Nat × ckCtr) := [(3, k234), (10, k269), (23, k241), (28, k233), (75, k241)]
theorem k270_ok (l : Launch) : ckCtrOk l ckMT ckTW ckCL k270 := mt_86 (as := k270_a) (cs := k270_c) (gx := []) (f := 200000) rfl (ckHc (k234_ok l) (ckHc (k269_ok l) (ckHc (k241_ok l) (ckHc (k233_ok l) (ckHc (k241_ok l) (fun _ h => absurd h List.not_mem_nil)))))) True.intro (by decide +kernel)
noncomputable def dT481 : List ckI := [(0, 1), (0, 1), ckTop, ckTop, ckTop, ckTop, ckTop, ckTop, ckTop, ckTop, ckTop, ckTop, ckTop, (1, 30), (0, 0), (0, 30), (0, 1), ckTop, (0, 1), (318, 318), (30, 30)]
noncomputable def dZ482 : List ckZ := [(13, 22, 0), (21, 15, 0), (21, 16, 0), (21, 22, (-1)), (23, 15, 0), (23, 16, 0), (23, 22, (-1))]
-- FarMachineModel.test
noncomputable def k271 : ckCtr := (86, ([(0, (1, 0))], [], dC415, dT481, dG417, [], [], [(1, 0, 0, 0, [])], 0, 0), [([], [(0, 21)], dP418, [], [], [(0, 1), (1, 30), (0, 1)], [], [], dZ482, [(1, 0, 0, 0, [])], 0, 0)], 34, 833, 0, 0)
noncomputable def k271_a : ckAs := []
noncomputable def k271_c : List (Nat × ckCtr) := [(3, k234), (10, k270), (23, k241), (28, k233), (75, k241)]
theorem k271_ok (l : Launch) : ckCtrOk l ckMT ckTW ckCL k271 := mt_86 (as := k271_a) (cs := k271_c) (gx := []) (f := 200000) rfl (ckHc (k234_ok l) (ckHc (k270_ok l) (ckHc (k241_ok l) (ckHc (k233_ok l) (ckHc (k241_ok l) (fun _ h => absurd h List.not_mem_nil)))))) True.intro (by decide +kernel)
noncomputable def dZ483 : List ckZ := [(13, 22, 0), (21, 15, 0), (21, 16, 0), (21, 22, 0), (23, 15, 0), (23, 16, 0), (23, 22, 0)]
-- FarMachineModel.test
noncomputable def k272 : ckCtr := (86, ([(0, (1, 0))], [], dC415, dT416, dG417, [], [], [(1, 0, 0, 0, [])], 0, 0), [([], [(0, 21)], dP418, [], [], [(0, 1), (0, 30), (0, 1)], [], [], dZ483, [(1, 0, 0, 0, [])], 0, 0)], 35, 856, 0, 0)
noncomputable def k272_a : ckAs := []
noncomputable def k272_c : List (Nat × ckCtr) := [(3, k234), (10, k271), (23, k241), (28, k233), (75, k241)]
theorem k272_ok (l : Launch) : ckCtrOk l ckMT ckTW ckCL k272 := mt_86 (as := k272_a) (cs := k272_c) (gx := []) (f := 200000) rfl (ckHc (k234_ok l) (ckHc (k271_ok l) (ckHc (k241_ok l) (ckHc (k233_ok l) (ckHc (k241_ok l) (fun _ h => absurd h List.not_mem_nil)))))) True.intro (by decide +kernel)
noncomputable def dT484 : List ckI := [(38, 38), (0, 1), (0, 1), ckTop, ckTop, ckTop, ckTop, ckTop, ckTop, ckTop, ckTop, ckTop, ckTop, ckTop, (0, 30), (0, 0), (0, 30), (0, 1), ckTop, (0, 1), (30, 30)]
-- FarMachineModel.takes
noncomputable def k273 : ckCtr := (84, ([(0, (1, 0)), (1, (0, 0))], [], dC405, dT484, [([(30, ckTop)], [], [])], [], [], [], 0, 0), [([], [(0, 15)], [], [], [], [], [], [], [], [], 0, 0), ([], [(0, 21)], dP407, [], [(14, (0, 29)), (16, (1, 30)), (17, (1, 1))], [(1, 1), (1, 30)], [], [], [(14, 16, (-1)), (14, 22, (-1)), (22, 14, 1), (22, 16, 0)], [], 0, 0)], 2, 100, 0, 0)
noncomputable def k273_a : ckAs := []
noncomputable def k273_c : List (Nat × ckCtr) := [(8, k233)]
theorem k273_ok (l : Launch) : ckCtrOk l ckMT ckTW ckCL k273 := mt_84 (as := k273_a) (cs := k273_c) (gx := []) (f := 200000) rfl (ckHc (k233_ok l) (fun _ h => absurd h List.not_mem_nil)) True.intro (by decide +kernel)
noncomputable def dT485 : List ckI := [(0, 1), (0, 1), ckTop, ckTop, ckTop, ckTop, ckTop, ckTop, ckTop, ckTop, ckTop, ckTop, ckTop, (0, 0), (0, 0), (0, 30), (0, 1), ckTop, (0, 1), (318, 318), (30, 30)]
noncomputable def dZ486 : List ckZ := [(21, 15, 0), (21, 16, 0), (21, 22, 0), (23, 15, 0), (23, 16, 0), (23, 22, 0)]
noncomputable def dP487 : List (Nat × ckC) := [(0, .inl (9, [(4, 10), (1, 1), (4, 11), (4, 12), (4, 13), (4, 14), (4, 15), (4, 16), (4, 17), (4, 18), (4, 19), (4, 20), (4, 21), (4, 22), (4, 23), (4, 24), (0, 0), (0, 1), (0, 2), (0, 3), (0, 4), (0, 5), (0, 6), (4, 25), (0, 7), (4, 26), (0, 8), (0, 9), (0, 10), (0, 11), (1, 2), (0, 12), (0, 25), (0, 14), (0, 15), (1, 2), (1, 1), (0, 26), (4, 27), (4, 28), (0, 17), (0, 18)]))]
noncomputable def dZ488 : List ckZ := [(21, 15, 0), (21, 16, 0), (21, 22, 0), (21, 25, 0), (22, 25, 0), (23, 15, 0), (23, 16, 0), (23, 22, 0), (23, 25, 0), (24, 15, 0), (24, 16, 0), (24, 21, 0), (24, 22, 0), (24, 25, 0), (25, 22, 29), (26, 15, 0), (26, 16, 0), (26, 22, 0), (26, 23, 0), (26, 25, 0)]
-- FarMachineModel.and
noncomputable def k274 : ckCtr := (85, ([(0, (1, 0))], [], dC415, dT485, dG417, [], [], [(1, 0, 0, 0, [])], 0, 0), [([], [(0, 21)], dP418, [], [], [(0, 1), (0, 30), (0, 1)], [], [], dZ486, [(1, 0, 0, 0, [])], 0, 0)], 36, 879, 0, 0)
noncomputable def k274_a : ckAs := [(5, [(574357, [(1, 0, 1, ([(0, (1, 0)), (1, (0, 24))], [], dP487, [], [], [(0, 1), (0, 30), (0, 1)], [], [], dZ488, [(1, 0, 0, 0, [])], 0, 0))])])]
noncomputable def k274_c : List (Nat × ckCtr) := [(1, k272), (8, k273), (15, k271)]
theorem k274_ok (l : Launch) : ckCtrOk l ckMT ckTW ckCL k274 := mt_85 (as := k274_a) (cs := k274_c) (gx := []) (f := 200000) rfl (ckHc (k272_ok l) (ckHc (k273_ok l) (ckHc (k271_ok l) (fun _ h => absurd h List.not_mem_nil)))) True.intro (by decide +kernel)
noncomputable def dC489 : List ckC := [.inl (9, [(4, 10), (1, 2), (4, 11), (4, 12), (4, 13), (4, 14), (4, 15), (4, 16), (4, 17), (4, 18), (4, 19), (4, 20), (4, 21), (4, 22), (4, 23), (4, 24), (0, 2), (0, 3), (0, 4), (0, 5), (0, 6), (0, 7), (0, 8), (4, 25), (0, 9), (4, 26), (0, 10), (0, 11), (0, 12), (0, 13), (1, 1), (0, 14), (0, 15), (0, 16), (0, 17), (5, 0), (5, 0), (0, 18), (4, 27), (4, 28), (0, 19), (0, 20)]), .inr (0, 21, 0), .inr (0, 22, 1)]
noncomputable def dT490 : List ckI := [(0, 0), (0, 30), (0, 1), (0, 1), ckTop, ckTop, ckTop, ckTop, ckTop, ckTop, ckTop, ckTop, ckTop, ckTop, ckTop, ckTop, ckTop, ckTop, (0, 1), ckTop, (0, 1), (30, 30), (318, 318)]
noncomputable def dG491 : List ckG := [([(30, ckTop)], [], []), ([(48, ckTop), (49, (0, 47)), (55, ckTop), (56, ckTop), (58, ckTop), (59, ckTop), (76, ckTop), (77, (0, 30)), (197, ckTop), (198, (0, 60)), (318, ckTop)], [], [])]
noncomputable def dP492 : List (Nat × ckC) := [(0, .inl (9, [(4, 10), (1, 2), (4, 11), (4, 12), (4, 13), (4, 14), (4, 15), (4, 16), (4, 17), (4, 18), (4, 19), (4, 20), (4, 21), (4, 22), (4, 23), (4, 24), (0, 2), (0, 3), (0, 4), (0, 5), (0, 6), (0, 7), (0, 8), (4, 25), (0, 9), (4, 26), (0, 10), (0, 11), (0, 12), (0, 13), (1, 1), (0, 14), (0, 24), (0, 0), (0, 1), (1, 1), (1, 2), (0, 25), (4, 27), (4, 28), (0, 19), (0, 20)]))]
-- FarMachineModel.goesThrough
noncomputable def k275 : ckCtr := (90, ([(0, (1, 0)), (1, (1, 1)), (2, (0, 0)), (3, (0, 1)), (4, (1, 2))], [], dC489, dT490, dG491, [], [], [(1, 1, 0, 0, [])], 0, 0), [([], [(0, 23)], dP492, [], [], [(0, 1), (0, 30), (0, 1)], [], [], [(23, 1, 0), (23, 24, 0), (25, 1, 0), (25, 24, 0)], [(1, 1, 0, 0, [])], 0, 0)], 37, 901, 0, 0)
noncomputable def k275_a : ckAs := []
noncomputable def k275_c : List (Nat × ckCtr) := [(32, k274)]
theorem k275_ok (l : Launch) : ckCtrOk l ckMT ckTW ckCL k275 := mt_90 (as := k275_a) (cs := k275_c) (gx := []) (f := 200000) rfl (ckHc (k274_ok l) (fun _ h => absurd h List.not_mem_nil)) True.intro (by decide +kernel)
noncomputable def dC493 : List ckC := [.inl (9, [(1, 1), (1, 2), (4, 10), (4, 11), (4, 12), (4, 13), (4, 14), (4, 15), (4, 16), (4, 17), (4, 18), (4, 19), (4, 20), (4, 21), (1, 3), (1, 4), (0, 0), (0, 1), (0, 2), (0, 3), (0, 4), (0, 5), (0, 6), (4, 22), (0, 7), (4, 23), (0, 8), (0, 9), (0, 10), (0, 11), (1, 5), (0, 12), (0, 13), (0, 14), (0, 15), (5, 0), (5, 0), (0, 16), (4, 24), (4, 25), (0, 17), (0, 18)]), .inr (0, 19, 0), .inr (0, 20, 1), .inr (0, 21, 2), .inr (0, 22, 3), .inr (0, 23, 4)]
noncomputable def dT494 : List ckI := [(0, 1), (0, 1), (0, 8), (0, 40), (0, 6), (0, 8), (0, 10), (0, 126000), ckTop, ckTop, ckTop, ckTop, (0, 30), ckTop, ckTop, ckTop, (0, 1), ckTop, (0, 1), (7, 7), (318, 318), (300, 300), (10, 10), (30, 30), (1, 99), (0, 126000)]
noncomputable def dG495 : List ckG := [([(7, ckTop)], [], []), ([(48, ckTop), (49, (0, 47)), (50, ckTop), (51, ckTop), (52, ckTop), (54, ckTop), (55, ckTop), (56, ckTop), (57, ckTop), (58, ckTop), (59, ckTop), (76, ckTop), (77, (0, 30)), (197, ckTop), (198, (0, 60)), (318, ckTop)], [(55, 24), (58, 25)], []), ([(300, ckTop)], [], []), ([(10, (0, 30))], [], []), ([(30, ckTop)], [], [])]
noncomputable def dP496 : List (Nat × ckC) := [(0, .inl (9, [(1, 1), (1, 2), (4, 10), (4, 11), (4, 12), (4, 13), (4, 14), (4, 15), (4, 16), (4, 17), (4, 18), (4, 19), (4, 20), (4, 21), (1, 3), (1, 4), (0, 0), (0, 1), (0, 2), (0, 3), (0, 4), (0, 5), (0, 27), (4, 22), (0, 7), (4, 23), (0, 8), (0, 9), (0, 10), (0, 11), (1, 5), (0, 28), (0, 29), (0, 30), (0, 31), (5, 0), (5, 0), (0, 32), (4, 24), (4, 25), (0, 17), (0, 18)])), (1, .inr (0, 19, 5)), (3, .inr (0, 21, 6)), (4, .inr (0, 22, 7))]
noncomputable def dG497 : List ckG := [([(6, ckTop), (7, ckTop)], [], []), ([(300, ckTop)], [], []), ([(10, (0, 30))], [], [])]
noncomputable def dZ498 : List ckZ := [(6, 26, 59), (6, 27, 0), (26, 6, 0), (26, 12, 8), (26, 27, (-1)), (26, 32, 8), (27, 6, 1), (27, 26, 59), (28, 6, 20), (28, 12, 0), (28, 26, 50), (28, 27, 20)]
-- FarMachineModel.rule
noncomputable def k276 : ckCtr := (91, ([(0, (1, 0))], [], dC493, dT494, dG495, [], [], [(1, 1, 0, 0, [])], 0, 0), [([], [(0, 26)], dP496, [], [], [(-50, 9), (0, 10), (0, 30), ckTop, ckTop, ckTop, (0, 1)], dG497, [], dZ498, [(1, 1, 0, 0, [])], 0, 0)], 38, 925, 0, 0)
noncomputable def k276_a : ckAs := [(83, [(153422, [(1, 0, 0, ([(0, (1, 0)), (1, (0, 28)), (2, (0, 31)), (3, (0, 12)), (4, (0, 34))], [], [(3, .inr (0, 21, 5))], [], [], [(0, 30)], [([(300, ckTop)], [], [])], [], [(12, 29, 0), (29, 12, 0), (34, 12, 0), (34, 29, 0)], [(1, 1, 0, 0, [])], 0, 0))])])]
noncomputable def k276_c : List (Nat × ckCtr) := [(12, k23), (30, k275)]
theorem k276_ok (l : Launch) : ckCtrOk l ckMT ckTW ckCL k276 := mt_91 (as := k276_a) (cs := k276_c) (gx := []) (f := 200000) rfl (ckHc (k23_ok l) (ckHc (k275_ok l) (fun _ h => absurd h List.not_mem_nil))) True.intro (by decide +kernel)
noncomputable def dC499 : List ckC := [.inl (2, [(4, 10), (1, 2), (4, 11), (0, 0), (0, 1), (0, 2), (0, 3), (0, 4), (0, 5), (0, 6), (0, 7), (0, 8), (0, 9), (0, 10), (0, 11), (0, 12)]), .inr (0, 13, 0), .inr (0, 13, 1)]
noncomputable def dG500 : List ckG := [([(1, ckTop), (2, ckTop), (3, ckTop), (4, ckTop), (5, ckTop), (6, ckTop), (7, ckTop), (8, (0, 63))], [(0, 3), (1, 4), (2, 5), (3, 2), (4, 1), (5, 16), (6, 15), (7, 14)], [])]
-- FarMachine$Machine.readInto
noncomputable def k277 : ckCtr := (147, ([(0, (1, 0)), (1, (1, 1))], [], dC499, dT124, [([(8, ckTop)], [], []), ([(8, ckTop)], [], [])], [], [], [], 0, 0), [([], [], [(1, .inr (0, 13, 2))], [], [], [(0, 63), ckTop, ckTop], dG500, [], [], [], 0, 0)], 3, 126, 0, 0)
noncomputable def k277_a : ckAs := []
noncomputable def k277_c : List (Nat × ckCtr) := [(59, k79), (70, k91)]
theorem k277_ok (l : Launch) : ckCtrOk l ckMT ckTW ckCL k277 := mt_147 (as := k277_a) (cs := k277_c) (gx := []) (f := 200000) rfl (ckHc (k79_ok l) (ckHc (k91_ok l) (fun _ h => absurd h List.not_mem_nil))) True.intro (by decide +kernel)
-- FarMachine$Rules.sizeOf
noncomputable def k278 : ckCtr := (168, ([(0, (1, 0)), (1, (0, 0))], [], dC384, [ckTop, (0, 10), (10, 10)], [([(10, ckTop)], [], [])], [], [], [], 0, 0), [([], [(0, 3)], [], [], [(0, (0, 9))], [ckTop], [], [], [], [], 0, 0), ([], [(0, 3)], [], [], [], [(0, 0)], [], [], [], [], 0, 0)], 1, 80, 0, 0)
noncomputable def k278_a : ckAs := []
noncomputable def k278_c : List (Nat × ckCtr) := []
theorem k278_ok (l : Launch) : ckCtrOk l ckMT ckTW ckCL k278 := mt_168 (as := k278_a) (cs := k278_c) (gx := []) (f := 200000) rfl (fun _ h => absurd h List.not_mem_nil) True.intro (by decide +kernel)
-- FarMachine$Rules.valueOf
noncomputable def k279 : ckCtr := (175, ([(0, (0, 0)), (1, (1, 0))], [], [.inr (0, 1, 0)], [ckTop, (8, 8)], [([(8, ckTop)], [], [])], [], [], [], 0, 0), [([], [(0, 2)], [], [], [], [ckTop], [], [], [], [], 0, 0), ([], [(0, 0)], [], [], [], [], [], [], [], [], 0, 0)], 1, 80, 0, 0)
noncomputable def k279_a : ckAs := []
noncomputable def k279_c : List (Nat × ckCtr) := []
theorem k279_ok (l : Launch) : ckCtrOk l ckMT ckTW ckCL k279 := mt_175 (as := k279_a) (cs := k279_c) (gx := []) (f := 200000) rfl (fun _ h => absurd h List.not_mem_nil) True.intro (by decide +kernel)
noncomputable def dC501 : List ckC := [.inl (5, [(1, 2), (1, 3), (1, 4), (1, 5), (4, 10), (0, 1)]), .inr (0, 2, 0), .inr (0, 3, 1), .inr (0, 3, 2), .inr (0, 3, 3), .inr (0, 3, 4)]
noncomputable def dG502 : List ckG := [([(8, ckTop)], [], []), ([(70, ckTop)], [], []), ([(70, ckTop)], [], []), ([(70, ckTop)], [], []), ([(70, ckTop)], [], [])]
-- FarMachine$Rules.isTestTrue
noncomputable def k280 : ckCtr := (174, ([(0, (1, 0)), (1, (0, 0)), (2, (1, 1))], [], dC501, [ckTop, (0, 10), (8, 8), (70, 70)], dG502, [], [], [], 0, 0), [([], [(0, 4)], [], [], [], [(0, 0)], [], [], [], [], 0, 0), ([], [(0, 4)], [], [], [(0, (0, 69))], [(1, 1)], [], [], [], [], 0, 0)], 2, 102, 0, 0)
noncomputable def k280_a : ckAs := []
noncomputable def k280_c : List (Nat × ckCtr) := [(22, k279), (33, k279)]
theorem k280_ok (l : Launch) : ckCtrOk l ckMT ckTW ckCL k280 := mt_174 (as := k280_a) (cs := k280_c) (gx := []) (f := 200000) rfl (ckHc (k279_ok l) (ckHc (k279_ok l) (fun _ h => absurd h List.not_mem_nil))) True.intro (by decide +kernel)
noncomputable def dC503 : List ckC := [.inl (5, [(1, 2), (1, 3), (1, 4), (1, 5), (1, 6), (0, 1)]), .inr (0, 2, 0), .inr (0, 3, 1), .inr (0, 3, 2), .inr (0, 3, 3), .inr (0, 3, 4), .inr (0, 4, 5)]
noncomputable def dG504 : List ckG := [([(8, ckTop)], [], []), ([(70, ckTop)], [], []), ([(70, ckTop)], [], []), ([(70, ckTop)], [], []), ([(70, ckTop)], [], []), ([(10, ckTop)], [], [])]
-- FarMachine$Rules.isTrue
noncomputable def k281 : ckCtr := (172, ([(0, (1, 0)), (1, (0, 0)), (2, (1, 1))], [], dC503, [ckTop, (0, 10), (8, 8), (70, 70), (10, 10)], dG504, [], [], [], 0, 0), [([], [(0, 5)], [], [], [], [(1, 1)], [], [], [], [], 0, 0), ([], [(0, 5)], [], [], [(0, (0, 9))], [(0, 0)], [], [], [], [], 0, 0)], 3, 127, 0, 0)
noncomputable def k281_a : ckAs := [(9, [(97688, [(1, 0, 0, ([(0, (1, 0)), (1, (0, 0)), (2, (1, 1)), (3, (0, 5)), (4, (0, 7))], [], [], [], [], [(0, 2147483647)], [], [], [], [], 0, 0))])])]
noncomputable def k281_c : List (Nat × ckCtr) := [(2, k278), (24, k280)]
theorem k281_ok (l : Launch) : ckCtrOk l ckMT ckTW ckCL k281 := mt_172 (as := k281_a) (cs := k281_c) (gx := []) (f := 200000) rfl (ckHc (k278_ok l) (ckHc (k280_ok l) (fun _ h => absurd h List.not_mem_nil))) True.intro (by decide +kernel)
noncomputable def dC505 : List ckC := [.inl (8, [(1, 1), (4, 10), (0, 1), (4, 11), (4, 12), (4, 13), (1, 2), (1, 3)]), .inl (7, [(1, 4), (4, 14), (0, 2), (4, 15), (4, 16), (4, 17), (4, 18), (1, 5), (4, 19), (4, 20)]), .inr (0, 3, 0), .inr (0, 4, 1), .inl (2, [(4, 21), (1, 6), (4, 22), (0, 5), (0, 6), (0, 7), (0, 8), (0, 9), (0, 10), (0, 11), (0, 12), (0, 13), (0, 14), (0, 15), (0, 16), (0, 17)]), .inl (5, [(1, 7), (1, 8), (1, 9), (1, 10), (1, 11), (0, 18)]), .inr (0, 3, 2), .inr (0, 19, 3), .inr (0, 19, 4), .inr (0, 19, 5), .inr (0, 19, 6), .inr (0, 20, 7)]
noncomputable def dT506 : List ckI := [ckTop, (0, 1), (0, 1), (8, 8), (7, 7), ckTop, ckTop, ckTop, ckTop, ckTop, ckTop, ckTop, ckTop, ckTop, ckTop, ckTop, ckTop, ckTop, (0, 10), (70, 70), (10, 10)]
noncomputable def dG507 : List ckG := [([(8, ckTop)], [], []), ([(7, ckTop)], [], []), ([(8, ckTop)], [], []), ([(70, ckTop)], [], []), ([(70, ckTop)], [], []), ([(70, ckTop)], [], []), ([(70, ckTop)], [], []), ([(10, ckTop)], [], [])]
noncomputable def dG508 : List ckG := [([(1, ckTop), (2, ckTop), (3, ckTop), (4, ckTop), (5, ckTop), (6, ckTop), (7, ckTop), (8, ckTop)], [], []), ([(1, ckTop), (2, ckTop), (7, ckTop)], [], [])]
-- FarMachine.holds
noncomputable def k282 : ckCtr := (19, ([(0, (1, 0)), (1, (0, 0))], [], dC505, dT506, dG507, [], [], [], 0, 0), [([], [(0, 21)], [(2, .inr (0, 3, 8)), (3, .inr (0, 4, 9))], [], [], [(-1, 1)], dG508, [], [(21, 18, 0)], [], 0, 0)], 4, 151, 0, 0)
noncomputable def k282_a : ckAs := []
noncomputable def k282_c : List (Nat × ckCtr) := [(20, k14), (35, k277), (50, k281)]
theorem k282_ok (l : Launch) : ckCtrOk l ckMT ckTW ckCL k282 := mt_19 (as := k282_a) (cs := k282_c) (gx := []) (f := 200000) rfl (ckHc (k14_ok l) (ckHc (k277_ok l) (ckHc (k281_ok l) (fun _ h => absurd h List.not_mem_nil)))) True.intro (by decide +kernel)
-- FarMachineModel.isIn
noncomputable def k283 : ckCtr := (45, ([(0, (0, 0)), (1, (0, 1))], [], [], [ckTop, (0, 10)], [], [], [], [], 0, 0), [([], [(0, 2)], [], [], [(0, (0, 9)), (1, (1, 10))], [(1, 1)], [], [], [(0, 1, (-1))], [], 0, 0), ([], [(0, 2)], [], [], [(0, (0, 2147483647))], [(0, 0)], [], [], [(1, 0, 0)], [], 0, 0), ([], [(0, 2)], [], [], [(0, (-2147483648, -1))], [(0, 0)], [], [], [], [], 0, 0)], 1, 80, 0, 0)
noncomputable def k283_a : ckAs := []
noncomputable def k283_c : List (Nat × ckCtr) := []
theorem k283_ok (l : Launch) : ckCtrOk l ckMT ckTW ckCL k283 := mt_45 (as := k283_a) (cs := k283_c) (gx := []) (f := 200000) rfl (fun _ h => absurd h List.not_mem_nil) True.intro (by decide +kernel)
noncomputable def dC509 : List ckC := [.inl (9, [(4, 10), (4, 11), (4, 12), (4, 13), (4, 14), (4, 15), (4, 16), (4, 17), (4, 18), (4, 19), (4, 20), (4, 21), (4, 22), (4, 23), (1, 1), (4, 24), (0, 0), (0, 1), (0, 2), (0, 3), (0, 4), (0, 5), (0, 6), (4, 25), (0, 7), (4, 26), (0, 8), (0, 9), (0, 10), (0, 11), (4, 27), (0, 12), (0, 13), (0, 14), (0, 15), (1, 1), (4, 11), (0, 16), (4, 28), (4, 29), (0, 17), (0, 18)]), .inr (0, 19, 0)]
noncomputable def dT510 : List ckI := [(0, 1), (0, 1), ckTop, ckTop, ckTop, ckTop, ckTop, ckTop, ckTop, ckTop, ckTop, ckTop, ckTop, (0, 30), (0, 270), (0, 30), (0, 1), ckTop, (0, 1), (300, 300)]
-- FarMachineModel.sign
noncomputable def k284 : ckCtr := (83, ([(0, (1, 0))], [], dC509, dT510, [([(300, ckTop)], [], [])], [], [], [], 0, 0), [([], [(0, 20)], [], [], [], [(-1, -1)], [], [], [(15, 13, 0)], [], 0, 0), ([], [(0, 20)], [], [], [(13, (0, 29)), (15, (1, 30))], [ckTop], [], [], [(13, 15, (-1))], [], 0, 0)], 1, 80, 0, 0)
noncomputable def k284_a : ckAs := []
noncomputable def k284_c : List (Nat × ckCtr) := []
theorem k284_ok (l : Launch) : ckCtrOk l ckMT ckTW ckCL k284 := mt_83 (as := k284_a) (cs := k284_c) (gx := []) (f := 200000) rfl (fun _ h => absurd h List.not_mem_nil) True.intro (by decide +kernel)
noncomputable def dC511 : List ckC := [.inl (9, [(4, 10), (4, 11), (4, 12), (4, 13), (4, 14), (4, 15), (4, 16), (4, 17), (4, 18), (4, 19), (4, 20), (4, 21), (4, 22), (4, 23), (1, 1), (4, 24), (0, 1), (0, 2), (0, 3), (0, 4), (0, 5), (0, 6), (0, 7), (4, 25), (0, 8), (4, 26), (0, 9), (0, 10), (0, 11), (0, 12), (4, 27), (0, 13), (0, 14), (0, 15), (0, 16), (1, 1), (4, 11), (0, 17), (4, 28), (4, 29), (0, 18), (0, 19)]), .inr (0, 20, 0)]
noncomputable def dT512 : List ckI := [(33, 33), (0, 1), (0, 1), ckTop, ckTop, ckTop, ckTop, ckTop, ckTop, ckTop, ckTop, ckTop, ckTop, ckTop, (0, 30), (0, 270), (0, 30), (0, 1), ckTop, (0, 1), (300, 300)]
noncomputable def dP513 : List (Nat × ckC) := [(0, .inl (9, [(4, 10), (4, 11), (4, 12), (4, 13), (4, 14), (4, 15), (4, 16), (4, 17), (4, 18), (4, 19), (4, 20), (4, 21), (4, 22), (4, 23), (1, 1), (4, 24), (0, 1), (0, 2), (0, 3), (0, 4), (0, 5), (0, 6), (0, 7), (4, 25), (0, 8), (4, 26), (0, 9), (0, 10), (0, 11), (0, 12), (4, 27), (0, 13), (0, 22), (0, 15), (0, 16), (1, 1), (4, 11), (0, 17), (4, 28), (4, 29), (0, 18), (0, 19)]))]
-- FarMachineModel.takes
noncomputable def k285 : ckCtr := (84, ([(0, (1, 0)), (1, (0, 0))], [], dC511, dT512, [([(300, ckTop)], [], [])], [], [], [], 0, 0), [([], [(0, 21)], [], [], [], [(0, 0)], [], [], [], [], 0, 0), ([], [(0, 21)], dP513, [], [(14, (0, 29)), (16, (1, 30)), (17, (1, 1))], [(1, 1), (1, 30)], [], [], [(14, 16, (-1)), (14, 22, (-1)), (22, 14, 1), (22, 16, 0)], [], 0, 0)], 2, 100, 0, 0)
noncomputable def k285_a : ckAs := []
noncomputable def k285_c : List (Nat × ckCtr) := [(8, k284)]
theorem k285_ok (l : Launch) : ckCtrOk l ckMT ckTW ckCL k285 := mt_84 (as := k285_a) (cs := k285_c) (gx := []) (f := 200000) rfl (ckHc (k284_ok l) (fun _ h => absurd h List.not_mem_nil)) True.intro (by decide +kernel)
noncomputable def dC514 : List ckC := [.inl (9, [(4, 10), (1, 1), (4, 11), (4, 12), (4, 13), (4, 14), (4, 15), (4, 16), (4, 17), (4, 18), (4, 19), (4, 20), (4, 21), (4, 22), (4, 23), (4, 24), (0, 1), (0, 2), (0, 3), (0, 4), (0, 5), (0, 6), (0, 7), (4, 25), (0, 8), (4, 26), (0, 9), (0, 10), (0, 11), (0, 12), (4, 27), (0, 13), (0, 14), (0, 15), (0, 16), (4, 23), (1, 1), (0, 17), (4, 28), (4, 29), (0, 18), (0, 19)]), .inr (0, 20, 0)]
noncomputable def dT515 : List ckI := [(-1, -1), (0, 1), (0, 1), ckTop, ckTop, ckTop, ckTop, ckTop, ckTop, ckTop, ckTop, ckTop, ckTop, ckTop, (0, 30), (0, 270), (0, 30), (0, 1), ckTop, (0, 1), (318, 318)]
noncomputable def dP516 : List (Nat × ckC) := [(0, .inl (9, [(4, 10), (1, 1), (4, 11), (4, 12), (4, 13), (4, 14), (4, 15), (4, 16), (4, 17), (4, 18), (4, 19), (4, 20), (4, 21), (4, 22), (4, 23), (4, 24), (0, 1), (0, 2), (0, 3), (0, 4), (0, 5), (0, 6), (0, 7), (4, 25), (0, 8), (4, 26), (0, 9), (0, 10), (0, 11), (0, 12), (4, 27), (0, 13), (0, 22), (0, 15), (0, 16), (4, 23), (1, 1), (0, 21), (4, 28), (4, 29), (0, 18), (0, 19)]))]
-- FarMachineModel.letter
noncomputable def k286 : ckCtr := (89, ([(0, (1, 0)), (1, (0, 0))], [], dC514, dT515, dG410, [], [], [(1, 0, 0, 0, [])], 0, 0), [([], [(0, 21)], dP516, [], [], [(0, 0), (0, 30)], [], [], [(14, 22, 0), (22, 14, 0)], [(1, 0, 0, 0, [])], 0, 0)], 1, 80, 0, 0)
noncomputable def k286_a : ckAs := []
noncomputable def k286_c : List (Nat × ckCtr) := []
theorem k286_ok (l : Launch) : ckCtrOk l ckMT ckTW ckCL k286 := mt_89 (as := k286_a) (cs := k286_c) (gx := []) (f := 200000) rfl (fun _ h => absurd h List.not_mem_nil) True.intro (by decide +kernel)
noncomputable def dT517 : List ckI := [ckTop, (0, 1), (0, 1), ckTop, ckTop, ckTop, ckTop, ckTop, ckTop, ckTop, ckTop, ckTop, ckTop, ckTop, (0, 29), (0, 270), (0, 30), (0, 1), ckTop, (0, 1), (318, 318)]
noncomputable def dP518 : List (Nat × ckC) := [(0, .inl (9, [(4, 10), (1, 1), (4, 11), (4, 12), (4, 13), (4, 14), (4, 15), (4, 16), (4, 17), (4, 18), (4, 19), (4, 20), (4, 21), (4, 22), (4, 23), (4, 24), (0, 1), (0, 2), (0, 3), (0, 4), (0, 5), (0, 6), (0, 7), (4, 25), (0, 8), (4, 26), (0, 9), (0, 10), (0, 11), (0, 12), (4, 27), (0, 13), (0, 22), (0, 15), (0, 16), (4, 23), (1, 1), (0, 23), (4, 28), (4, 29), (0, 18), (0, 19)]))]
-- FarMachineModel.letter
noncomputable def k287 : ckCtr := (89, ([(0, (1, 0)), (1, (0, 0))], [], dC514, dT517, dG410, [], [], [(1, 0, 0, 0, [])], 0, 0), [([], [(0, 21)], dP518, [], [], [ckTop, (0, 30), (0, 1)], [], [], [(14, 22, 0), (22, 14, 1), (23, 17, 0), (23, 22, 0)], [(1, 0, 0, 0, [])], 0, 0)], 3, 122, 0, 0)
noncomputable def k287_a : ckAs := []
noncomputable def k287_c : List (Nat × ckCtr) := [(171, k237), (179, k238), (182, k95)]
theorem k287_ok (l : Launch) : ckCtrOk l ckMT ckTW ckCL k287 := mt_89 (as := k287_a) (cs := k287_c) (gx := []) (f := 200000) rfl (ckHc (k237_ok l) (ckHc (k238_ok l) (ckHc (k95_ok l) (fun _ h => absurd h List.not_mem_nil)))) True.intro (by decide +kernel)
noncomputable def dT519 : List ckI := [(0, 1), (0, 1), ckTop, ckTop, ckTop, ckTop, ckTop, ckTop, ckTop, ckTop, ckTop, ckTop, ckTop, (0, 29), (0, 270), (0, 30), (0, 1), ckTop, (0, 1), (300, 300)]
-- FarMachineModel.sign
noncomputable def k288 : ckCtr := (83, ([(0, (1, 0))], [], dC509, dT519, [([(300, ckTop)], [], [])], [], [], [], 0, 0), [([], [(0, 20)], [], [], [(15, (0, 29))], [(-1, -1)], [], [], [(15, 13, 0)], [], 0, 0), ([], [(0, 20)], [], [], [(15, (1, 30))], [ckTop], [], [], [(13, 15, (-1))], [], 0, 0)], 1, 80, 0, 0)
noncomputable def k288_a : ckAs := []
noncomputable def k288_c : List (Nat × ckCtr) := []
theorem k288_ok (l : Launch) : ckCtrOk l ckMT ckTW ckCL k288 := mt_83 (as := k288_a) (cs := k288_c) (gx := []) (f := 200000) rfl (fun _ h => absurd h List.not_mem_nil) True.intro (by decide +kernel)
noncomputable def dC520 : List ckC := [.inl (9, [(4, 10), (1, 1), (4, 11), (4, 12), (4, 13), (4, 14), (4, 15), (4, 16), (4, 17), (4, 18), (4, 19), (4, 20), (4, 21), (4, 22), (1, 2), (4, 23), (0, 0), (0, 1), (0, 2), (0, 3), (0, 4), (0, 5), (0, 6), (4, 24), (0, 7), (4, 25), (0, 8), (0, 9), (0, 10), (0, 11), (4, 26), (0, 12), (0, 13), (0, 14), (0, 15), (1, 2), (1, 1), (0, 16), (4, 27), (4, 28), (0, 17), (0, 18)]), .inr (0, 19, 0), .inr (0, 20, 1)]
noncomputable def dT521 : List ckI := [(0, 1), (0, 1), ckTop, ckTop, ckTop, ckTop, ckTop, ckTop, ckTop, ckTop, ckTop, ckTop, ckTop, (0, 30), (0, 270), (0, 30), (0, 1), ckTop, (0, 1), (318, 318), (300, 300)]
noncomputable def dG522 : List ckG := [([(48, ckTop), (49, (0, 47)), (55, ckTop), (56, ckTop), (58, ckTop), (59, ckTop), (76, ckTop), (77, (0, 30)), (197, ckTop), (198, (0, 60)), (318, ckTop)], [], []), ([(300, ckTop)], [], [])]
noncomputable def dP523 : List (Nat × ckC) := [(0, .inl (9, [(4, 10), (1, 1), (4, 11), (4, 12), (4, 13), (4, 14), (4, 15), (4, 16), (4, 17), (4, 18), (4, 19), (4, 20), (4, 21), (4, 22), (1, 2), (4, 23), (0, 0), (0, 1), (0, 2), (0, 3), (0, 4), (0, 5), (0, 6), (4, 24), (0, 7), (4, 25), (0, 8), (0, 9), (0, 10), (0, 11), (4, 26), (0, 12), (0, 22), (0, 14), (0, 15), (1, 2), (1, 1), (0, 23), (4, 27), (4, 28), (0, 17), (0, 18)]))]
noncomputable def dP524 : List (Nat × ckC) := [(0, .inl (9, [(4, 10), (1, 1), (4, 11), (4, 12), (4, 13), (4, 14), (4, 15), (4, 16), (4, 17), (4, 18), (4, 19), (4, 20), (4, 21), (4, 22), (1, 2), (4, 23), (0, 0), (0, 1), (0, 2), (0, 3), (0, 4), (0, 5), (0, 6), (4, 24), (0, 7), (4, 25), (0, 8), (0, 9), (0, 10), (0, 11), (4, 26), (0, 12), (0, 29), (0, 14), (0, 15), (1, 2), (1, 1), (0, 16), (4, 27), (4, 28), (0, 17), (0, 18)]))]
noncomputable def dP525 : List (Nat × ckC) := [(0, .inl (9, [(4, 10), (1, 1), (4, 11), (4, 12), (4, 13), (4, 14), (4, 15), (4, 16), (4, 17), (4, 18), (4, 19), (4, 20), (4, 21), (4, 22), (1, 2), (4, 23), (0, 0), (0, 1), (0, 2), (0, 3), (0, 4), (0, 5), (0, 6), (4, 24), (0, 7), (4, 25), (0, 8), (0, 9), (0, 10), (0, 11), (4, 26), (0, 12), (0, 30), (0, 14), (0, 15), (1, 2), (1, 1), (0, 16), (4, 27), (4, 28), (0, 17), (0, 18)]))]
-- FarMachineModel.unit
noncomputable def k289 : ckCtr := (88, ([(0, (1, 0))], [], dC520, dT521, dG522, [], [], [(1, 0, 0, 0, [])], 0, 0), [([], [(0, 21)], dP523, [], [], [ckTop, (0, 30), (0, 1)], [], [], [(13, 22, 0), (23, 15, 0), (23, 16, 0), (23, 22, 0)], [(1, 0, 0, 0, [])], 0, 0)], 4, 143, 0, 0)
noncomputable def k289_a : ckAs := [(53, [(262068, [(1, 0, 1, ([(0, (1, 0)), (1, (0, 21)), (2, (0, 27)), (3, (0, 28))], [], dP524, [], [], [ckTop, (0, 3), (0, 30)], [], [], dZ420, [(1, 0, 0, 0, [])], 0, 0))]), (316176, [(1, 0, 1, ([(0, (1, 0)), (1, (0, 21)), (2, (0, 28)), (3, (0, 29))], [], dP525, [], [], [ckTop, (0, 3), (1, 30)], [], [], dZ422, [(1, 0, 0, 0, [])], 0, 0))])])]
noncomputable def k289_c : List (Nat × ckCtr) := [(10, k284), (21, k235), (29, k286), (29, k287), (59, k284), (62, k235), (73, k288)]
theorem k289_ok (l : Launch) : ckCtrOk l ckMT ckTW ckCL k289 := mt_88 (as := k289_a) (cs := k289_c) (gx := []) (f := 200000) rfl (ckHc (k284_ok l) (ckHc (k235_ok l) (ckHc (k286_ok l) (ckHc (k287_ok l) (ckHc (k284_ok l) (ckHc (k235_ok l) (ckHc (k288_ok l) (fun _ h => absurd h List.not_mem_nil)))))))) True.intro (by decide +kernel)
