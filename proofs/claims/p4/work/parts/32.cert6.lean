/-! THE CHECKER: contracts with their certificates (printed by wip/gen2/p16gen.py) -/
noncomputable def dT490 : List ckI := [ckTop, (0, 1), (0, 1), ckTop, ckTop, ckTop, ckTop, ckTop, ckTop, ckTop, ckTop, ckTop, ckTop, ckTop, (0, 29), (0, 0), (0, 30), (0, 1), ckTop, (0, 1), (318, 318)]
noncomputable def dP491 : List (Nat × ckC) := [(0, .inl (9, [(4, 10), (1, 1), (4, 11), (4, 12), (4, 13), (4, 14), (4, 15), (4, 16), (4, 17), (4, 18), (4, 19), (4, 20), (4, 21), (4, 22), (4, 23), (4, 24), (0, 1), (0, 2), (0, 3), (0, 4), (0, 5), (0, 6), (0, 7), (4, 25), (0, 8), (4, 26), (0, 9), (0, 10), (0, 11), (0, 12), (4, 27), (0, 13), (0, 22), (0, 15), (0, 16), (4, 27), (1, 1), (0, 23), (4, 28), (4, 29), (0, 18), (0, 19)]))]
-- FarMachineModel.letter
noncomputable def k276 : ckCtr := (89, ([(0, (1, 0)), (1, (0, 0))], [], dC486, dT490, dG488, [], [], [(1, 0, 0, 0, [])], 0, 0), [([], [(0, 21)], dP491, [], [], [ckTop, (0, 30), (0, 1)], [], [], [(14, 22, 0), (22, 14, 1), (23, 17, 0), (23, 22, 0)], [(1, 0, 0, 0, [])], 0, 0)], 3, 122, 0, 0)
noncomputable def k276_a : ckAs := []
noncomputable def k276_c : List (Nat × ckCtr) := [(171, k274), (179, k275), (182, k132)]
theorem k276_ok (l : Launch) : ckCtrOk l ckMT ckTW ckCL k276 := mt_89 (as := k276_a) (cs := k276_c) (gx := []) (f := 200000) rfl (ckHc (k274_ok l) (ckHc (k275_ok l) (ckHc (k132_ok l) (fun _ h => absurd h List.not_mem_nil)))) True.intro (by decide +kernel)
noncomputable def dT492 : List ckI := [(0, 1), (0, 1), ckTop, ckTop, ckTop, ckTop, ckTop, ckTop, ckTop, ckTop, ckTop, ckTop, ckTop, (0, 29), (0, 0), (0, 30), (0, 1), ckTop, (0, 1), (30, 30)]
-- FarMachineModel.sign
noncomputable def k277 : ckCtr := (83, ([(0, (1, 0))], [], dC481, dT492, [([(30, ckTop)], [], [])], [], [], [], 0, 0), [([], [(0, 20)], [], [], [(15, (0, 29))], [(-1, -1)], [], [], [(15, 13, 0)], [], 0, 0), ([], [(0, 20)], [], [], [(15, (1, 30))], [ckTop], [], [], [(13, 15, (-1))], [], 0, 0)], 1, 80, 0, 0)
noncomputable def k277_a : ckAs := []
noncomputable def k277_c : List (Nat × ckCtr) := []
theorem k277_ok (l : Launch) : ckCtrOk l ckMT ckTW ckCL k277 := mt_83 (as := k277_a) (cs := k277_c) (gx := []) (f := 200000) rfl (fun _ h => absurd h List.not_mem_nil) True.intro (by decide +kernel)
noncomputable def dC493 : List ckC := [.inl (9, [(4, 10), (1, 1), (4, 11), (4, 12), (4, 13), (4, 14), (4, 15), (4, 16), (4, 17), (4, 18), (4, 19), (4, 20), (4, 21), (4, 22), (4, 23), (4, 24), (0, 0), (0, 1), (0, 2), (0, 3), (0, 4), (0, 5), (0, 6), (4, 25), (0, 7), (4, 26), (0, 8), (0, 9), (0, 10), (0, 11), (1, 2), (0, 12), (0, 13), (0, 14), (0, 15), (1, 2), (1, 1), (0, 16), (4, 27), (4, 28), (0, 17), (0, 18)]), .inr (0, 19, 0), .inr (0, 20, 1)]
noncomputable def dT494 : List ckI := [(0, 1), (0, 1), ckTop, ckTop, ckTop, ckTop, ckTop, ckTop, ckTop, ckTop, ckTop, ckTop, ckTop, (0, 30), (0, 0), (0, 30), (0, 1), ckTop, (0, 1), (318, 318), (30, 30)]
noncomputable def dG495 : List ckG := [([(48, ckTop), (49, (0, 47)), (55, ckTop), (56, ckTop), (58, ckTop), (59, ckTop), (60, ckTop), (61, ckTop), (62, ckTop), (63, ckTop), (64, ckTop), (65, ckTop), (66, ckTop), (67, ckTop), (68, ckTop), (76, ckTop), (77, (0, 30)), (197, ckTop), (198, (0, 60)), (318, ckTop)], [], []), ([(30, ckTop)], [], [])]
noncomputable def dP496 : List (Nat × ckC) := [(0, .inl (9, [(4, 10), (1, 1), (4, 11), (4, 12), (4, 13), (4, 14), (4, 15), (4, 16), (4, 17), (4, 18), (4, 19), (4, 20), (4, 21), (4, 22), (4, 23), (4, 24), (0, 0), (0, 1), (0, 2), (0, 3), (0, 4), (0, 5), (0, 6), (4, 25), (0, 7), (4, 26), (0, 8), (0, 9), (0, 10), (0, 11), (1, 2), (0, 12), (0, 22), (0, 14), (0, 15), (1, 2), (1, 1), (0, 23), (4, 27), (4, 28), (0, 17), (0, 18)]))]
noncomputable def dP497 : List (Nat × ckC) := [(0, .inl (9, [(4, 10), (1, 1), (4, 11), (4, 12), (4, 13), (4, 14), (4, 15), (4, 16), (4, 17), (4, 18), (4, 19), (4, 20), (4, 21), (4, 22), (4, 23), (4, 24), (0, 0), (0, 1), (0, 2), (0, 3), (0, 4), (0, 5), (0, 6), (4, 25), (0, 7), (4, 26), (0, 8), (0, 9), (0, 10), (0, 11), (1, 2), (0, 12), (0, 29), (0, 14), (0, 15), (1, 2), (1, 1), (0, 16), (4, 27), (4, 28), (0, 17), (0, 18)]))]
noncomputable def dZ498 : List ckZ := [(13, 15, (-1)), (13, 29, 0), (28, 15, 0), (28, 29, 0), (29, 15, 0), (29, 28, 29)]
noncomputable def dP499 : List (Nat × ckC) := [(0, .inl (9, [(4, 10), (1, 1), (4, 11), (4, 12), (4, 13), (4, 14), (4, 15), (4, 16), (4, 17), (4, 18), (4, 19), (4, 20), (4, 21), (4, 22), (4, 23), (4, 24), (0, 0), (0, 1), (0, 2), (0, 3), (0, 4), (0, 5), (0, 6), (4, 25), (0, 7), (4, 26), (0, 8), (0, 9), (0, 10), (0, 11), (1, 2), (0, 12), (0, 30), (0, 14), (0, 15), (1, 2), (1, 1), (0, 16), (4, 27), (4, 28), (0, 17), (0, 18)]))]
noncomputable def dZ500 : List ckZ := [(13, 15, (-1)), (13, 25, (-1)), (13, 30, (-1)), (25, 13, 1), (25, 15, 0), (25, 30, 0), (29, 15, (-1)), (29, 30, (-1)), (30, 15, 0)]
-- FarMachineModel.unit
noncomputable def k278 : ckCtr := (88, ([(0, (1, 0))], [], dC493, dT494, dG495, [], [], [(1, 0, 0, 0, [])], 0, 0), [([], [(0, 21)], dP496, [], [], [ckTop, (0, 30), (0, 1)], [], [], [(13, 22, 0), (23, 15, 0), (23, 16, 0), (23, 22, 0)], [(1, 0, 0, 0, [])], 0, 0)], 4, 143, 0, 0)
noncomputable def k278_a : ckAs := [(53, [(480548, [(1, 0, 1, ([(0, (1, 0)), (1, (0, 21)), (2, (0, 27)), (3, (0, 28))], [], dP497, [], [], [ckTop, (0, 3), (0, 30)], [], [], dZ498, [(1, 0, 0, 0, [])], 0, 0))]), (89035, [(1, 0, 1, ([(0, (1, 0)), (1, (0, 21)), (2, (0, 28)), (3, (0, 29))], [], dP499, [], [], [ckTop, (0, 3), (1, 30)], [], [], dZ500, [(1, 0, 0, 0, [])], 0, 0))])])]
noncomputable def k278_c : List (Nat × ckCtr) := [(10, k270), (21, k272), (29, k273), (29, k276), (59, k270), (62, k272), (73, k277)]
theorem k278_ok (l : Launch) : ckCtrOk l ckMT ckTW ckCL k278 := mt_88 (as := k278_a) (cs := k278_c) (gx := []) (f := 200000) rfl (ckHc (k270_ok l) (ckHc (k272_ok l) (ckHc (k273_ok l) (ckHc (k276_ok l) (ckHc (k270_ok l) (ckHc (k272_ok l) (ckHc (k277_ok l) (fun _ h => absurd h List.not_mem_nil)))))))) True.intro (by decide +kernel)
noncomputable def dT501 : List ckI := [(0, 1), (0, 1), ckTop, ckTop, ckTop, ckTop, ckTop, ckTop, ckTop, ckTop, ckTop, ckTop, ckTop, (30, 30), (0, 0), (0, 30), (0, 1), ckTop, (0, 1), (318, 318), (30, 30)]
noncomputable def dP502 : List (Nat × ckC) := [(0, .inl (9, [(4, 10), (1, 1), (4, 11), (4, 12), (4, 13), (4, 14), (4, 15), (4, 16), (4, 17), (4, 18), (4, 19), (4, 20), (4, 21), (4, 22), (4, 23), (4, 24), (0, 0), (0, 1), (0, 2), (0, 3), (0, 4), (0, 5), (0, 6), (4, 25), (0, 7), (4, 26), (0, 8), (0, 9), (0, 10), (0, 11), (1, 2), (0, 12), (0, 13), (0, 14), (0, 15), (1, 2), (1, 1), (0, 14), (4, 27), (4, 28), (0, 17), (0, 18)]))]
-- FarMachineModel.test
noncomputable def k279 : ckCtr := (86, ([(0, (1, 0))], [], dC493, dT501, dG495, [], [], [(1, 0, 0, 0, [])], 0, 0), [([], [(0, 14)], dP502, [], [], [], [], [], [], [(1, 0, 0, 0, [])], 0, 0)], 5, 166, 0, 0)
noncomputable def k279_a : ckAs := []
noncomputable def k279_c : List (Nat × ckCtr) := [(3, k271), (23, k278), (28, k270)]
theorem k279_ok (l : Launch) : ckCtrOk l ckMT ckTW ckCL k279 := mt_86 (as := k279_a) (cs := k279_c) (gx := []) (f := 200000) rfl (ckHc (k271_ok l) (ckHc (k278_ok l) (ckHc (k270_ok l) (fun _ h => absurd h List.not_mem_nil)))) True.intro (by decide +kernel)
noncomputable def dT503 : List ckI := [(0, 1), (0, 1), ckTop, ckTop, ckTop, ckTop, ckTop, ckTop, ckTop, ckTop, ckTop, ckTop, ckTop, (29, 30), (0, 0), (0, 30), (0, 1), ckTop, (0, 1), (318, 318), (30, 30)]
noncomputable def dZ504 : List ckZ := [(13, 22, 0), (21, 15, 0), (21, 16, 0), (21, 22, (-29)), (23, 15, 0), (23, 16, 0), (23, 22, (-29))]
-- FarMachineModel.test
noncomputable def k280 : ckCtr := (86, ([(0, (1, 0))], [], dC493, dT503, dG495, [], [], [(1, 0, 0, 0, [])], 0, 0), [([], [(0, 21)], dP496, [], [], [(0, 1), (29, 30), (0, 1)], [], [], dZ504, [(1, 0, 0, 0, [])], 0, 0)], 6, 189, 0, 0)
noncomputable def k280_a : ckAs := []
noncomputable def k280_c : List (Nat × ckCtr) := [(3, k271), (10, k279), (23, k278), (28, k270), (75, k278)]
theorem k280_ok (l : Launch) : ckCtrOk l ckMT ckTW ckCL k280 := mt_86 (as := k280_a) (cs := k280_c) (gx := []) (f := 200000) rfl (ckHc (k271_ok l) (ckHc (k279_ok l) (ckHc (k278_ok l) (ckHc (k270_ok l) (ckHc (k278_ok l) (fun _ h => absurd h List.not_mem_nil)))))) True.intro (by decide +kernel)
noncomputable def dT505 : List ckI := [(0, 1), (0, 1), ckTop, ckTop, ckTop, ckTop, ckTop, ckTop, ckTop, ckTop, ckTop, ckTop, ckTop, (28, 30), (0, 0), (0, 30), (0, 1), ckTop, (0, 1), (318, 318), (30, 30)]
noncomputable def dZ506 : List ckZ := [(13, 22, 0), (21, 15, 0), (21, 16, 0), (21, 22, (-28)), (23, 15, 0), (23, 16, 0), (23, 22, (-28))]
-- FarMachineModel.test
noncomputable def k281 : ckCtr := (86, ([(0, (1, 0))], [], dC493, dT505, dG495, [], [], [(1, 0, 0, 0, [])], 0, 0), [([], [(0, 21)], dP496, [], [], [(0, 1), (28, 30), (0, 1)], [], [], dZ506, [(1, 0, 0, 0, [])], 0, 0)], 7, 212, 0, 0)
noncomputable def k281_a : ckAs := []
noncomputable def k281_c : List (Nat × ckCtr) := [(3, k271), (10, k280), (23, k278), (28, k270), (75, k278)]
theorem k281_ok (l : Launch) : ckCtrOk l ckMT ckTW ckCL k281 := mt_86 (as := k281_a) (cs := k281_c) (gx := []) (f := 200000) rfl (ckHc (k271_ok l) (ckHc (k280_ok l) (ckHc (k278_ok l) (ckHc (k270_ok l) (ckHc (k278_ok l) (fun _ h => absurd h List.not_mem_nil)))))) True.intro (by decide +kernel)
noncomputable def dT507 : List ckI := [(0, 1), (0, 1), ckTop, ckTop, ckTop, ckTop, ckTop, ckTop, ckTop, ckTop, ckTop, ckTop, ckTop, (27, 30), (0, 0), (0, 30), (0, 1), ckTop, (0, 1), (318, 318), (30, 30)]
noncomputable def dZ508 : List ckZ := [(13, 22, 0), (21, 15, 0), (21, 16, 0), (21, 22, (-27)), (23, 15, 0), (23, 16, 0), (23, 22, (-27))]
-- FarMachineModel.test
noncomputable def k282 : ckCtr := (86, ([(0, (1, 0))], [], dC493, dT507, dG495, [], [], [(1, 0, 0, 0, [])], 0, 0), [([], [(0, 21)], dP496, [], [], [(0, 1), (27, 30), (0, 1)], [], [], dZ508, [(1, 0, 0, 0, [])], 0, 0)], 8, 235, 0, 0)
noncomputable def k282_a : ckAs := []
noncomputable def k282_c : List (Nat × ckCtr) := [(3, k271), (10, k281), (23, k278), (28, k270), (75, k278)]
theorem k282_ok (l : Launch) : ckCtrOk l ckMT ckTW ckCL k282 := mt_86 (as := k282_a) (cs := k282_c) (gx := []) (f := 200000) rfl (ckHc (k271_ok l) (ckHc (k281_ok l) (ckHc (k278_ok l) (ckHc (k270_ok l) (ckHc (k278_ok l) (fun _ h => absurd h List.not_mem_nil)))))) True.intro (by decide +kernel)
noncomputable def dT509 : List ckI := [(0, 1), (0, 1), ckTop, ckTop, ckTop, ckTop, ckTop, ckTop, ckTop, ckTop, ckTop, ckTop, ckTop, (26, 30), (0, 0), (0, 30), (0, 1), ckTop, (0, 1), (318, 318), (30, 30)]
noncomputable def dZ510 : List ckZ := [(13, 22, 0), (21, 15, 0), (21, 16, 0), (21, 22, (-26)), (23, 15, 0), (23, 16, 0), (23, 22, (-26))]
-- FarMachineModel.test
noncomputable def k283 : ckCtr := (86, ([(0, (1, 0))], [], dC493, dT509, dG495, [], [], [(1, 0, 0, 0, [])], 0, 0), [([], [(0, 21)], dP496, [], [], [(0, 1), (26, 30), (0, 1)], [], [], dZ510, [(1, 0, 0, 0, [])], 0, 0)], 9, 258, 0, 0)
noncomputable def k283_a : ckAs := []
noncomputable def k283_c : List (Nat × ckCtr) := [(3, k271), (10, k282), (23, k278), (28, k270), (75, k278)]
theorem k283_ok (l : Launch) : ckCtrOk l ckMT ckTW ckCL k283 := mt_86 (as := k283_a) (cs := k283_c) (gx := []) (f := 200000) rfl (ckHc (k271_ok l) (ckHc (k282_ok l) (ckHc (k278_ok l) (ckHc (k270_ok l) (ckHc (k278_ok l) (fun _ h => absurd h List.not_mem_nil)))))) True.intro (by decide +kernel)
noncomputable def dT511 : List ckI := [(0, 1), (0, 1), ckTop, ckTop, ckTop, ckTop, ckTop, ckTop, ckTop, ckTop, ckTop, ckTop, ckTop, (25, 30), (0, 0), (0, 30), (0, 1), ckTop, (0, 1), (318, 318), (30, 30)]
noncomputable def dZ512 : List ckZ := [(13, 22, 0), (21, 15, 0), (21, 16, 0), (21, 22, (-25)), (23, 15, 0), (23, 16, 0), (23, 22, (-25))]
-- FarMachineModel.test
noncomputable def k284 : ckCtr := (86, ([(0, (1, 0))], [], dC493, dT511, dG495, [], [], [(1, 0, 0, 0, [])], 0, 0), [([], [(0, 21)], dP496, [], [], [(0, 1), (25, 30), (0, 1)], [], [], dZ512, [(1, 0, 0, 0, [])], 0, 0)], 10, 281, 0, 0)
noncomputable def k284_a : ckAs := []
noncomputable def k284_c : List (Nat × ckCtr) := [(3, k271), (10, k283), (23, k278), (28, k270), (75, k278)]
theorem k284_ok (l : Launch) : ckCtrOk l ckMT ckTW ckCL k284 := mt_86 (as := k284_a) (cs := k284_c) (gx := []) (f := 200000) rfl (ckHc (k271_ok l) (ckHc (k283_ok l) (ckHc (k278_ok l) (ckHc (k270_ok l) (ckHc (k278_ok l) (fun _ h => absurd h List.not_mem_nil)))))) True.intro (by decide +kernel)
noncomputable def dT513 : List ckI := [(0, 1), (0, 1), ckTop, ckTop, ckTop, ckTop, ckTop, ckTop, ckTop, ckTop, ckTop, ckTop, ckTop, (24, 30), (0, 0), (0, 30), (0, 1), ckTop, (0, 1), (318, 318), (30, 30)]
noncomputable def dZ514 : List ckZ := [(13, 22, 0), (21, 15, 0), (21, 16, 0), (21, 22, (-24)), (23, 15, 0), (23, 16, 0), (23, 22, (-24))]
-- FarMachineModel.test
noncomputable def k285 : ckCtr := (86, ([(0, (1, 0))], [], dC493, dT513, dG495, [], [], [(1, 0, 0, 0, [])], 0, 0), [([], [(0, 21)], dP496, [], [], [(0, 1), (24, 30), (0, 1)], [], [], dZ514, [(1, 0, 0, 0, [])], 0, 0)], 11, 304, 0, 0)
noncomputable def k285_a : ckAs := []
noncomputable def k285_c : List (Nat × ckCtr) := [(3, k271), (10, k284), (23, k278), (28, k270), (75, k278)]
theorem k285_ok (l : Launch) : ckCtrOk l ckMT ckTW ckCL k285 := mt_86 (as := k285_a) (cs := k285_c) (gx := []) (f := 200000) rfl (ckHc (k271_ok l) (ckHc (k284_ok l) (ckHc (k278_ok l) (ckHc (k270_ok l) (ckHc (k278_ok l) (fun _ h => absurd h List.not_mem_nil)))))) True.intro (by decide +kernel)
noncomputable def dT515 : List ckI := [(0, 1), (0, 1), ckTop, ckTop, ckTop, ckTop, ckTop, ckTop, ckTop, ckTop, ckTop, ckTop, ckTop, (23, 30), (0, 0), (0, 30), (0, 1), ckTop, (0, 1), (318, 318), (30, 30)]
noncomputable def dZ516 : List ckZ := [(13, 22, 0), (21, 15, 0), (21, 16, 0), (21, 22, (-23)), (23, 15, 0), (23, 16, 0), (23, 22, (-23))]
-- FarMachineModel.test
noncomputable def k286 : ckCtr := (86, ([(0, (1, 0))], [], dC493, dT515, dG495, [], [], [(1, 0, 0, 0, [])], 0, 0), [([], [(0, 21)], dP496, [], [], [(0, 1), (23, 30), (0, 1)], [], [], dZ516, [(1, 0, 0, 0, [])], 0, 0)], 12, 327, 0, 0)
noncomputable def k286_a : ckAs := []
noncomputable def k286_c : List (Nat × ckCtr) := [(3, k271), (10, k285), (23, k278), (28, k270), (75, k278)]
theorem k286_ok (l : Launch) : ckCtrOk l ckMT ckTW ckCL k286 := mt_86 (as := k286_a) (cs := k286_c) (gx := []) (f := 200000) rfl (ckHc (k271_ok l) (ckHc (k285_ok l) (ckHc (k278_ok l) (ckHc (k270_ok l) (ckHc (k278_ok l) (fun _ h => absurd h List.not_mem_nil)))))) True.intro (by decide +kernel)
noncomputable def dT517 : List ckI := [(0, 1), (0, 1), ckTop, ckTop, ckTop, ckTop, ckTop, ckTop, ckTop, ckTop, ckTop, ckTop, ckTop, (22, 30), (0, 0), (0, 30), (0, 1), ckTop, (0, 1), (318, 318), (30, 30)]
noncomputable def dZ518 : List ckZ := [(13, 22, 0), (21, 15, 0), (21, 16, 0), (21, 22, (-22)), (23, 15, 0), (23, 16, 0), (23, 22, (-22))]
-- FarMachineModel.test
noncomputable def k287 : ckCtr := (86, ([(0, (1, 0))], [], dC493, dT517, dG495, [], [], [(1, 0, 0, 0, [])], 0, 0), [([], [(0, 21)], dP496, [], [], [(0, 1), (22, 30), (0, 1)], [], [], dZ518, [(1, 0, 0, 0, [])], 0, 0)], 13, 350, 0, 0)
noncomputable def k287_a : ckAs := []
noncomputable def k287_c : List (Nat × ckCtr) := [(3, k271), (10, k286), (23, k278), (28, k270), (75, k278)]
theorem k287_ok (l : Launch) : ckCtrOk l ckMT ckTW ckCL k287 := mt_86 (as := k287_a) (cs := k287_c) (gx := []) (f := 200000) rfl (ckHc (k271_ok l) (ckHc (k286_ok l) (ckHc (k278_ok l) (ckHc (k270_ok l) (ckHc (k278_ok l) (fun _ h => absurd h List.not_mem_nil)))))) True.intro (by decide +kernel)
noncomputable def dT519 : List ckI := [(0, 1), (0, 1), ckTop, ckTop, ckTop, ckTop, ckTop, ckTop, ckTop, ckTop, ckTop, ckTop, ckTop, (21, 30), (0, 0), (0, 30), (0, 1), ckTop, (0, 1), (318, 318), (30, 30)]
noncomputable def dZ520 : List ckZ := [(13, 22, 0), (21, 15, 0), (21, 16, 0), (21, 22, (-21)), (23, 15, 0), (23, 16, 0), (23, 22, (-21))]
-- FarMachineModel.test
noncomputable def k288 : ckCtr := (86, ([(0, (1, 0))], [], dC493, dT519, dG495, [], [], [(1, 0, 0, 0, [])], 0, 0), [([], [(0, 21)], dP496, [], [], [(0, 1), (21, 30), (0, 1)], [], [], dZ520, [(1, 0, 0, 0, [])], 0, 0)], 14, 373, 0, 0)
noncomputable def k288_a : ckAs := []
noncomputable def k288_c : List (Nat × ckCtr) := [(3, k271), (10, k287), (23, k278), (28, k270), (75, k278)]
theorem k288_ok (l : Launch) : ckCtrOk l ckMT ckTW ckCL k288 := mt_86 (as := k288_a) (cs := k288_c) (gx := []) (f := 200000) rfl (ckHc (k271_ok l) (ckHc (k287_ok l) (ckHc (k278_ok l) (ckHc (k270_ok l) (ckHc (k278_ok l) (fun _ h => absurd h List.not_mem_nil)))))) True.intro (by decide +kernel)
noncomputable def dT521 : List ckI := [(0, 1), (0, 1), ckTop, ckTop, ckTop, ckTop, ckTop, ckTop, ckTop, ckTop, ckTop, ckTop, ckTop, (20, 30), (0, 0), (0, 30), (0, 1), ckTop, (0, 1), (318, 318), (30, 30)]
noncomputable def dZ522 : List ckZ := [(13, 22, 0), (21, 15, 0), (21, 16, 0), (21, 22, (-20)), (23, 15, 0), (23, 16, 0), (23, 22, (-20))]
-- FarMachineModel.test
noncomputable def k289 : ckCtr := (86, ([(0, (1, 0))], [], dC493, dT521, dG495, [], [], [(1, 0, 0, 0, [])], 0, 0), [([], [(0, 21)], dP496, [], [], [(0, 1), (20, 30), (0, 1)], [], [], dZ522, [(1, 0, 0, 0, [])], 0, 0)], 15, 396, 0, 0)
noncomputable def k289_a : ckAs := []
noncomputable def k289_c : List (Nat × ckCtr) := [(3, k271), (10, k288), (23, k278), (28, k270), (75, k278)]
theorem k289_ok (l : Launch) : ckCtrOk l ckMT ckTW ckCL k289 := mt_86 (as := k289_a) (cs := k289_c) (gx := []) (f := 200000) rfl (ckHc (k271_ok l) (ckHc (k288_ok l) (ckHc (k278_ok l) (ckHc (k270_ok l) (ckHc (k278_ok l) (fun _ h => absurd h List.not_mem_nil)))))) True.intro (by decide +kernel)
noncomputable def dT523 : List ckI := [(0, 1), (0, 1), ckTop, ckTop, ckTop, ckTop, ckTop, ckTop, ckTop, ckTop, ckTop, ckTop, ckTop, (19, 30), (0, 0), (0, 30), (0, 1), ckTop, (0, 1), (318, 318), (30, 30)]
noncomputable def dZ524 : List ckZ := [(13, 22, 0), (21, 15, 0), (21, 16, 0), (21, 22, (-19)), (23, 15, 0), (23, 16, 0), (23, 22, (-19))]
-- FarMachineModel.test
noncomputable def k290 : ckCtr := (86, ([(0, (1, 0))], [], dC493, dT523, dG495, [], [], [(1, 0, 0, 0, [])], 0, 0), [([], [(0, 21)], dP496, [], [], [(0, 1), (19, 30), (0, 1)], [], [], dZ524, [(1, 0, 0, 0, [])], 0, 0)], 16, 419, 0, 0)
noncomputable def k290_a : ckAs := []
noncomputable def k290_c : List (Nat × ckCtr) := [(3, k271), (10, k289), (23, k278), (28, k270), (75, k278)]
theorem k290_ok (l : Launch) : ckCtrOk l ckMT ckTW ckCL k290 := mt_86 (as := k290_a) (cs := k290_c) (gx := []) (f := 200000) rfl (ckHc (k271_ok l) (ckHc (k289_ok l) (ckHc (k278_ok l) (ckHc (k270_ok l) (ckHc (k278_ok l) (fun _ h => absurd h List.not_mem_nil)))))) True.intro (by decide +kernel)
noncomputable def dT525 : List ckI := [(0, 1), (0, 1), ckTop, ckTop, ckTop, ckTop, ckTop, ckTop, ckTop, ckTop, ckTop, ckTop, ckTop, (18, 30), (0, 0), (0, 30), (0, 1), ckTop, (0, 1), (318, 318), (30, 30)]
noncomputable def dZ526 : List ckZ := [(13, 22, 0), (21, 15, 0), (21, 16, 0), (21, 22, (-18)), (23, 15, 0), (23, 16, 0), (23, 22, (-18))]
-- FarMachineModel.test
noncomputable def k291 : ckCtr := (86, ([(0, (1, 0))], [], dC493, dT525, dG495, [], [], [(1, 0, 0, 0, [])], 0, 0), [([], [(0, 21)], dP496, [], [], [(0, 1), (18, 30), (0, 1)], [], [], dZ526, [(1, 0, 0, 0, [])], 0, 0)], 17, 442, 0, 0)
noncomputable def k291_a : ckAs := []
noncomputable def k291_c : List (Nat × ckCtr) := [(3, k271), (10, k290), (23, k278), (28, k270), (75, k278)]
theorem k291_ok (l : Launch) : ckCtrOk l ckMT ckTW ckCL k291 := mt_86 (as := k291_a) (cs := k291_c) (gx := []) (f := 200000) rfl (ckHc (k271_ok l) (ckHc (k290_ok l) (ckHc (k278_ok l) (ckHc (k270_ok l) (ckHc (k278_ok l) (fun _ h => absurd h List.not_mem_nil)))))) True.intro (by decide +kernel)
noncomputable def dT527 : List ckI := [(0, 1), (0, 1), ckTop, ckTop, ckTop, ckTop, ckTop, ckTop, ckTop, ckTop, ckTop, ckTop, ckTop, (17, 30), (0, 0), (0, 30), (0, 1), ckTop, (0, 1), (318, 318), (30, 30)]
noncomputable def dZ528 : List ckZ := [(13, 22, 0), (21, 15, 0), (21, 16, 0), (21, 22, (-17)), (23, 15, 0), (23, 16, 0), (23, 22, (-17))]
-- FarMachineModel.test
noncomputable def k292 : ckCtr := (86, ([(0, (1, 0))], [], dC493, dT527, dG495, [], [], [(1, 0, 0, 0, [])], 0, 0), [([], [(0, 21)], dP496, [], [], [(0, 1), (17, 30), (0, 1)], [], [], dZ528, [(1, 0, 0, 0, [])], 0, 0)], 18, 465, 0, 0)
noncomputable def k292_a : ckAs := []
noncomputable def k292_c : List (Nat × ckCtr) := [(3, k271), (10, k291), (23, k278), (28, k270), (75, k278)]
theorem k292_ok (l : Launch) : ckCtrOk l ckMT ckTW ckCL k292 := mt_86 (as := k292_a) (cs := k292_c) (gx := []) (f := 200000) rfl (ckHc (k271_ok l) (ckHc (k291_ok l) (ckHc (k278_ok l) (ckHc (k270_ok l) (ckHc (k278_ok l) (fun _ h => absurd h List.not_mem_nil)))))) True.intro (by decide +kernel)
noncomputable def dT529 : List ckI := [(0, 1), (0, 1), ckTop, ckTop, ckTop, ckTop, ckTop, ckTop, ckTop, ckTop, ckTop, ckTop, ckTop, (16, 30), (0, 0), (0, 30), (0, 1), ckTop, (0, 1), (318, 318), (30, 30)]
noncomputable def dZ530 : List ckZ := [(13, 22, 0), (21, 15, 0), (21, 16, 0), (21, 22, (-16)), (23, 15, 0), (23, 16, 0), (23, 22, (-16))]
-- FarMachineModel.test
noncomputable def k293 : ckCtr := (86, ([(0, (1, 0))], [], dC493, dT529, dG495, [], [], [(1, 0, 0, 0, [])], 0, 0), [([], [(0, 21)], dP496, [], [], [(0, 1), (16, 30), (0, 1)], [], [], dZ530, [(1, 0, 0, 0, [])], 0, 0)], 19, 488, 0, 0)
noncomputable def k293_a : ckAs := []
noncomputable def k293_c : List (Nat × ckCtr) := [(3, k271), (10, k292), (23, k278), (28, k270), (75, k278)]
theorem k293_ok (l : Launch) : ckCtrOk l ckMT ckTW ckCL k293 := mt_86 (as := k293_a) (cs := k293_c) (gx := []) (f := 200000) rfl (ckHc (k271_ok l) (ckHc (k292_ok l) (ckHc (k278_ok l) (ckHc (k270_ok l) (ckHc (k278_ok l) (fun _ h => absurd h List.not_mem_nil)))))) True.intro (by decide +kernel)
noncomputable def dT531 : List ckI := [(0, 1), (0, 1), ckTop, ckTop, ckTop, ckTop, ckTop, ckTop, ckTop, ckTop, ckTop, ckTop, ckTop, (15, 30), (0, 0), (0, 30), (0, 1), ckTop, (0, 1), (318, 318), (30, 30)]
noncomputable def dZ532 : List ckZ := [(13, 22, 0), (21, 15, 0), (21, 16, 0), (21, 22, (-15)), (23, 15, 0), (23, 16, 0), (23, 22, (-15))]
-- FarMachineModel.test
noncomputable def k294 : ckCtr := (86, ([(0, (1, 0))], [], dC493, dT531, dG495, [], [], [(1, 0, 0, 0, [])], 0, 0), [([], [(0, 21)], dP496, [], [], [(0, 1), (15, 30), (0, 1)], [], [], dZ532, [(1, 0, 0, 0, [])], 0, 0)], 20, 511, 0, 0)
noncomputable def k294_a : ckAs := []
noncomputable def k294_c : List (Nat × ckCtr) := [(3, k271), (10, k293), (23, k278), (28, k270), (75, k278)]
theorem k294_ok (l : Launch) : ckCtrOk l ckMT ckTW ckCL k294 := mt_86 (as := k294_a) (cs := k294_c) (gx := []) (f := 200000) rfl (ckHc (k271_ok l) (ckHc (k293_ok l) (ckHc (k278_ok l) (ckHc (k270_ok l) (ckHc (k278_ok l) (fun _ h => absurd h List.not_mem_nil)))))) True.intro (by decide +kernel)
noncomputable def dT533 : List ckI := [(0, 1), (0, 1), ckTop, ckTop, ckTop, ckTop, ckTop, ckTop, ckTop, ckTop, ckTop, ckTop, ckTop, (14, 30), (0, 0), (0, 30), (0, 1), ckTop, (0, 1), (318, 318), (30, 30)]
noncomputable def dZ534 : List ckZ := [(13, 22, 0), (21, 15, 0), (21, 16, 0), (21, 22, (-14)), (23, 15, 0), (23, 16, 0), (23, 22, (-14))]
-- FarMachineModel.test
noncomputable def k295 : ckCtr := (86, ([(0, (1, 0))], [], dC493, dT533, dG495, [], [], [(1, 0, 0, 0, [])], 0, 0), [([], [(0, 21)], dP496, [], [], [(0, 1), (14, 30), (0, 1)], [], [], dZ534, [(1, 0, 0, 0, [])], 0, 0)], 21, 534, 0, 0)
noncomputable def k295_a : ckAs := []
noncomputable def k295_c : List (Nat × ckCtr) := [(3, k271), (10, k294), (23, k278), (28, k270), (75, k278)]
theorem k295_ok (l : Launch) : ckCtrOk l ckMT ckTW ckCL k295 := mt_86 (as := k295_a) (cs := k295_c) (gx := []) (f := 200000) rfl (ckHc (k271_ok l) (ckHc (k294_ok l) (ckHc (k278_ok l) (ckHc (k270_ok l) (ckHc (k278_ok l) (fun _ h => absurd h List.not_mem_nil)))))) True.intro (by decide +kernel)
noncomputable def dT535 : List ckI := [(0, 1), (0, 1), ckTop, ckTop, ckTop, ckTop, ckTop, ckTop, ckTop, ckTop, ckTop, ckTop, ckTop, (13, 30), (0, 0), (0, 30), (0, 1), ckTop, (0, 1), (318, 318), (30, 30)]
noncomputable def dZ536 : List ckZ := [(13, 22, 0), (21, 15, 0), (21, 16, 0), (21, 22, (-13)), (23, 15, 0), (23, 16, 0), (23, 22, (-13))]
-- FarMachineModel.test
noncomputable def k296 : ckCtr := (86, ([(0, (1, 0))], [], dC493, dT535, dG495, [], [], [(1, 0, 0, 0, [])], 0, 0), [([], [(0, 21)], dP496, [], [], [(0, 1), (13, 30), (0, 1)], [], [], dZ536, [(1, 0, 0, 0, [])], 0, 0)], 22, 557, 0, 0)
noncomputable def k296_a : ckAs := []
noncomputable def k296_c : List (Nat × ckCtr) := [(3, k271), (10, k295), (23, k278), (28, k270), (75, k278)]
theorem k296_ok (l : Launch) : ckCtrOk l ckMT ckTW ckCL k296 := mt_86 (as := k296_a) (cs := k296_c) (gx := []) (f := 200000) rfl (ckHc (k271_ok l) (ckHc (k295_ok l) (ckHc (k278_ok l) (ckHc (k270_ok l) (ckHc (k278_ok l) (fun _ h => absurd h List.not_mem_nil)))))) True.intro (by decide +kernel)
noncomputable def dT537 : List ckI := [(0, 1), (0, 1), ckTop, ckTop, ckTop, ckTop, ckTop, ckTop, ckTop, ckTop, ckTop, ckTop, ckTop, (12, 30), (0, 0), (0, 30), (0, 1), ckTop, (0, 1), (318, 318), (30, 30)]
noncomputable def dZ538 : List ckZ := [(13, 22, 0), (21, 15, 0), (21, 16, 0), (21, 22, (-12)), (23, 15, 0), (23, 16, 0), (23, 22, (-12))]
-- FarMachineModel.test
noncomputable def k297 : ckCtr := (86, ([(0, (1, 0))], [], dC493, dT537, dG495, [], [], [(1, 0, 0, 0, [])], 0, 0), [([], [(0, 21)], dP496, [], [], [(0, 1), (12, 30), (0, 1)], [], [], dZ538, [(1, 0, 0, 0, [])], 0, 0)], 23, 580, 0, 0)
noncomputable def k297_a : ckAs := []
noncomputable def k297_c : List (Nat × ckCtr) := [(3, k271), (10, k296), (23, k278), (28, k270), (75, k278)]
theorem k297_ok (l : Launch) : ckCtrOk l ckMT ckTW ckCL k297 := mt_86 (as := k297_a) (cs := k297_c) (gx := []) (f := 200000) rfl (ckHc (k271_ok l) (ckHc (k296_ok l) (ckHc (k278_ok l) (ckHc (k270_ok l) (ckHc (k278_ok l) (fun _ h => absurd h List.not_mem_nil)))))) True.intro (by decide +kernel)
noncomputable def dT539 : List ckI := [(0, 1), (0, 1), ckTop, ckTop, ckTop, ckTop, ckTop, ckTop, ckTop, ckTop, ckTop, ckTop, ckTop, (11, 30), (0, 0), (0, 30), (0, 1), ckTop, (0, 1), (318, 318), (30, 30)]
noncomputable def dZ540 : List ckZ := [(13, 22, 0), (21, 15, 0), (21, 16, 0), (21, 22, (-11)), (23, 15, 0), (23, 16, 0), (23, 22, (-11))]
-- FarMachineModel.test
noncomputable def k298 : ckCtr := (86, ([(0, (1, 0))], [], dC493, dT539, dG495, [], [], [(1, 0, 0, 0, [])], 0, 0), [([], [(0, 21)], dP496, [], [], [(0, 1), (11, 30), (0, 1)], [], [], dZ540, [(1, 0, 0, 0, [])], 0, 0)], 24, 603, 0, 0)
noncomputable def k298_a : ckAs := []
noncomputable def k298_c : List (Nat × ckCtr) := [(3, k271), (10, k297), (23, k278), (28, k270), (75, k278)]
theorem k298_ok (l : Launch) : ckCtrOk l ckMT ckTW ckCL k298 := mt_86 (as := k298_a) (cs := k298_c) (gx := []) (f := 200000) rfl (ckHc (k271_ok l) (ckHc (k297_ok l) (ckHc (k278_ok l) (ckHc (k270_ok l) (ckHc (k278_ok l) (fun _ h => absurd h List.not_mem_nil)))))) True.intro (by decide +kernel)
noncomputable def dT541 : List ckI := [(0, 1), (0, 1), ckTop, ckTop, ckTop, ckTop, ckTop, ckTop, ckTop, ckTop, ckTop, ckTop, ckTop, (10, 30), (0, 0), (0, 30), (0, 1), ckTop, (0, 1), (318, 318), (30, 30)]
noncomputable def dZ542 : List ckZ := [(13, 22, 0), (21, 15, 0), (21, 16, 0), (21, 22, (-10)), (23, 15, 0), (23, 16, 0), (23, 22, (-10))]
-- FarMachineModel.test
noncomputable def k299 : ckCtr := (86, ([(0, (1, 0))], [], dC493, dT541, dG495, [], [], [(1, 0, 0, 0, [])], 0, 0), [([], [(0, 21)], dP496, [], [], [(0, 1), (10, 30), (0, 1)], [], [], dZ542, [(1, 0, 0, 0, [])], 0, 0)], 25, 626, 0, 0)
noncomputable def k299_a : ckAs := []
noncomputable def k299_c : List (Nat × ckCtr) := [(3, k271), (10, k298), (23, k278), (28, k270), (75, k278)]
theorem k299_ok (l : Launch) : ckCtrOk l ckMT ckTW ckCL k299 := mt_86 (as := k299_a) (cs := k299_c) (gx := []) (f := 200000) rfl (ckHc (k271_ok l) (ckHc (k298_ok l) (ckHc (k278_ok l) (ckHc (k270_ok l) (ckHc (k278_ok l) (fun _ h => absurd h List.not_mem_nil)))))) True.intro (by decide +kernel)
noncomputable def dT543 : List ckI := [(0, 1), (0, 1), ckTop, ckTop, ckTop, ckTop, ckTop, ckTop, ckTop, ckTop, ckTop, ckTop, ckTop, (9, 30), (0, 0), (0, 30), (0, 1), ckTop, (0, 1), (318, 318), (30, 30)]
noncomputable def dZ544 : List ckZ := [(13, 22, 0), (21, 15, 0), (21, 16, 0), (21, 22, (-9)), (23, 15, 0), (23, 16, 0), (23, 22, (-9))]
-- FarMachineModel.test
noncomputable def k300 : ckCtr := (86, ([(0, (1, 0))], [], dC493, dT543, dG495, [], [], [(1, 0, 0, 0, [])], 0, 0), [([], [(0, 21)], dP496, [], [], [(0, 1), (9, 30), (0, 1)], [], [], dZ544, [(1, 0, 0, 0, [])], 0, 0)], 26, 649, 0, 0)
noncomputable def k300_a : ckAs := []
noncomputable def k300_c : List (Nat × ckCtr) := [(3, k271), (10, k299), (23, k278), (28, k270), (75, k278)]
theorem k300_ok (l : Launch) : ckCtrOk l ckMT ckTW ckCL k300 := mt_86 (as := k300_a) (cs := k300_c) (gx := []) (f := 200000) rfl (ckHc (k271_ok l) (ckHc (k299_ok l) (ckHc (k278_ok l) (ckHc (k270_ok l) (ckHc (k278_ok l) (fun _ h => absurd h List.not_mem_nil)))))) True.intro (by decide +kernel)
noncomputable def dT545 : List ckI := [(0, 1), (0, 1), ckTop, ckTop, ckTop, ckTop, ckTop, ckTop, ckTop, ckTop, ckTop, ckTop, ckTop, (8, 30), (0, 0), (0, 30), (0, 1), ckTop, (0, 1), (318, 318), (30, 30)]
noncomputable def dZ546 : List ckZ := [(13, 22, 0), (21, 15, 0), (21, 16, 0), (21, 22, (-8)), (23, 15, 0), (23, 16, 0), (23, 22, (-8))]
-- FarMachineModel.test
noncomputable def k301 : ckCtr := (86, ([(0, (1, 0))], [], dC493, dT545, dG495, [], [], [(1, 0, 0, 0, [])], 0, 0), [([], [(0, 21)], dP496, [], [], [(0, 1), (8, 30), (0, 1)], [], [], dZ546, [(1, 0, 0, 0, [])], 0, 0)], 27, 672, 0, 0)
noncomputable def k301_a : ckAs := []
noncomputable def k301_c : List (Nat × ckCtr) := [(3, k271), (10, k300), (23, k278), (28, k270), (75, k278)]
theorem k301_ok (l : Launch) : ckCtrOk l ckMT ckTW ckCL k301 := mt_86 (as := k301_a) (cs := k301_c) (gx := []) (f := 200000) rfl (ckHc (k271_ok l) (ckHc (k300_ok l) (ckHc (k278_ok l) (ckHc (k270_ok l) (ckHc (k278_ok l) (fun _ h => absurd h List.not_mem_nil)))))) True.intro (by decide +kernel)
noncomputable def dT547 : List ckI := [(0, 1), (0, 1), ckTop, ckTop, ckTop, ckTop, ckTop, ckTop, ckTop, ckTop, ckTop, ckTop, ckTop, (7, 30), (0, 0), (0, 30), (0, 1), ckTop, (0, 1), (318, 318), (30, 30)]
noncomputable def dZ548 : List ckZ := [(13, 22, 0), (21, 15, 0), (21, 16, 0), (21, 22, (-7)), (23, 15, 0), (23, 16, 0), (23, 22, (-7))]
-- FarMachineModel.test
noncomputable def k302 : ckCtr := (86, ([(0, (1, 0))], [], dC493, dT547, dG495, [], [], [(1, 0, 0, 0, [])], 0, 0), [([], [(0, 21)], dP496, [], [], [(0, 1), (7, 30), (0, 1)], [], [], dZ548, [(1, 0, 0, 0, [])], 0, 0)], 28, 695, 0, 0)
noncomputable def k302_a : ckAs := []
noncomputable def k302_c : List (Nat × ckCtr) := [(3, k271), (10, k301), (23, k278), (28, k270), (75, k278)]
theorem k302_ok (l : Launch) : ckCtrOk l ckMT ckTW ckCL k302 := mt_86 (as := k302_a) (cs := k302_c) (gx := []) (f := 200000) rfl (ckHc (k271_ok l) (ckHc (k301_ok l) (ckHc (k278_ok l) (ckHc (k270_ok l) (ckHc (k278_ok l) (fun _ h => absurd h List.not_mem_nil)))))) True.intro (by decide +kernel)
noncomputable def dT549 : List ckI := [(0, 1), (0, 1), ckTop, ckTop, ckTop, ckTop, ckTop, ckTop, ckTop, ckTop, ckTop, ckTop, ckTop, (6, 30), (0, 0), (0, 30), (0, 1), ckTop, (0, 1), (318, 318), (30, 30)]
noncomputable def dZ550 : List ckZ := [(13, 22, 0), (21, 15, 0), (21, 16, 0), (21, 22, (-6)), (23, 15, 0), (23, 16, 0), (23, 22, (-6))]
-- FarMachineModel.test
noncomputable def k303 : ckCtr := (86, ([(0, (1, 0))], [], dC493, dT549, dG495, [], [], [(1, 0, 0, 0, [])], 0, 0), [([], [(0, 21)], dP496, [], [], [(0, 1), (6, 30), (0, 1)], [], [], dZ550, [(1, 0, 0, 0, [])], 0, 0)], 29, 718, 0, 0)
noncomputable def k303_a : ckAs := []
noncomputable def k303_c : List (Nat × ckCtr) := [(3, k271), (10, k302), (23, k278), (28, k270), (75, k278)]
theorem k303_ok (l : Launch) : ckCtrOk l ckMT ckTW ckCL k303 := mt_86 (as := k303_a) (cs := k303_c) (gx := []) (f := 200000) rfl (ckHc (k271_ok l) (ckHc (k302_ok l) (ckHc (k278_ok l) (ckHc (k270_ok l) (ckHc (k278_ok l) (fun _ h => absurd h List.not_mem_nil)))))) True.intro (by decide +kernel)
noncomputable def dT551 : List ckI := [(0, 1), (0, 1), ckTop, ckTop, ckTop, ckTop, ckTop, ckTop, ckTop, ckTop, ckTop, ckTop, ckTop, (5, 30), (0, 0), (0, 30), (0, 1), ckTop, (0, 1), (318, 318), (30, 30)]
noncomputable def dZ552 : List ckZ := [(13, 22, 0), (21, 15, 0), (21, 16, 0), (21, 22, (-5)), (23, 15, 0), (23, 16, 0), (23, 22, (-5))]
-- FarMachineModel.test
noncomputable def k304 : ckCtr := (86, ([(0, (1, 0))], [], dC493, dT551, dG495, [], [], [(1, 0, 0, 0, [])], 0, 0), [([], [(0, 21)], dP496, [], [], [(0, 1), (5, 30), (0, 1)], [], [], dZ552, [(1, 0, 0, 0, [])], 0, 0)], 30, 741, 0, 0)
noncomputable def k304_a : ckAs := []
noncomputable def k304_c : List (Nat × ckCtr) := [(3, k271), (10, k303), (23, k278), (28, k270), (75, k278)]
theorem k304_ok (l : Launch) : ckCtrOk l ckMT ckTW ckCL k304 := mt_86 (as := k304_a) (cs := k304_c) (gx := []) (f := 200000) rfl (ckHc (k271_ok l) (ckHc (k303_ok l) (ckHc (k278_ok l) (ckHc (k270_ok l) (ckHc (k278_ok l) (fun _ h => absurd h List.not_mem_nil)))))) True.intro (by decide +kernel)
noncomputable def dT553 : List ckI := [(0, 1), (0, 1), ckTop, ckTop, ckTop, ckTop, ckTop, ckTop, ckTop, ckTop, ckTop, ckTop, ckTop, (4, 30), (0, 0), (0, 30), (0, 1), ckTop, (0, 1), (318, 318), (30, 30)]
noncomputable def dZ554 : List ckZ := [(13, 22, 0), (21, 15, 0), (21, 16, 0), (21, 22, (-4)), (23, 15, 0), (23, 16, 0), (23, 22, (-4))]
-- FarMachineModel.test
noncomputable def k305 : ckCtr := (86, ([(0, (1, 0))], [], dC493, dT553, dG495, [], [], [(1, 0, 0, 0, [])], 0, 0), [([], [(0, 21)], dP496, [], [], [(0, 1), (4, 30), (0, 1)], [], [], dZ554, [(1, 0, 0, 0, [])], 0, 0)], 31, 764, 0, 0)
noncomputable def k305_a : ckAs := []
noncomputable def k305_c : List (Nat × ckCtr) := [(3, k271), (10, k304), (23, k278), (28, k270), (75, k278)]
theorem k305_ok (l : Launch) : ckCtrOk l ckMT ckTW ckCL k305 := mt_86 (as := k305_a) (cs := k305_c) (gx := []) (f := 200000) rfl (ckHc (k271_ok l) (ckHc (k304_ok l) (ckHc (k278_ok l) (ckHc (k270_ok l) (ckHc (k278_ok l) (fun _ h => absurd h List.not_mem_nil)))))) True.intro (by decide +kernel)
noncomputable def dT555 : List ckI := [(0, 1), (0, 1), ckTop, ckTop, ckTop, ckTop, ckTop, ckTop, ckTop, ckTop, ckTop, ckTop, ckTop, (3, 30), (0, 0), (0, 30), (0, 1), ckTop, (0, 1), (318, 318), (30, 30)]
noncomputable def dZ556 : List ckZ := [(13, 22, 0), (21, 15, 0), (21, 16, 0), (21, 22, (-3)), (23, 15, 0), (23, 16, 0), (23, 22, (-3))]
-- FarMachineModel.test
noncomputable def k306 : ckCtr := (86, ([(0, (1, 0))], [], dC493, dT555, dG495, [], [], [(1, 0, 0, 0, [])], 0, 0), [([], [(0, 21)], dP496, [], [], [(0, 1), (3, 30), (0, 1)], [], [], dZ556, [(1, 0, 0, 0, [])], 0, 0)], 32, 787, 0, 0)
noncomputable def k306_a : ckAs := []
noncomputable def k306_c : List (Nat × ckCtr) := [(3, k271), (10, k305), (23, k278), (28, k270), (75, k278)]
theorem k306_ok (l : Launch) : ckCtrOk l ckMT ckTW ckCL k306 := mt_86 (as := k306_a) (cs := k306_c) (gx := []) (f := 200000) rfl (ckHc (k271_ok l) (ckHc (k305_ok l) (ckHc (k278_ok l) (ckHc (k270_ok l) (ckHc (k278_ok l) (fun _ h => absurd h List.not_mem_nil)))))) True.intro (by decide +kernel)
noncomputable def dT557 : List ckI := [(0, 1), (0, 1), ckTop, ckTop, ckTop, ckTop, ckTop, ckTop, ckTop, ckTop, ckTop, ckTop, ckTop, (2, 30), (0, 0), (0, 30), (0, 1), ckTop, (0, 1), (318, 318), (30, 30)]
noncomputable def dZ558 : List ckZ := [(13, 22, 0), (21, 15, 0), (21, 16, 0), (21, 22, (-2)), (23, 15, 0), (23, 16, 0), (23, 22, (-2))]
-- FarMachineModel.test
noncomputable def k307 : ckCtr := (86, ([(0, (1, 0))], [], dC493, dT557, dG495, [], [], [(1, 0, 0, 0, [])], 0, 0), [([], [(0, 21)], dP496, [], [], [(0, 1), (2, 30), (0, 1)], [], [], dZ558, [(1, 0, 0, 0, [])], 0, 0)], 33, 810, 0, 0)
noncomputable def k307_a : ckAs := []
noncomputable def k307_c : List (Nat × ckCtr) := [(3, k271), (10, k306), (23, k278), (28, k270), (75, k278)]
theorem k307_ok (l : Launch) : ckCtrOk l ckMT ckTW ckCL k307 := mt_86 (as := k307_a) (cs := k307_c) (gx := []) (f := 200000) rfl (ckHc (k271_ok l) (ckHc (k306_ok l) (ckHc (k278_ok l) (ckHc (k270_ok l) (ckHc (k278_ok l) (fun _ h => absurd h List.not_mem_nil)))))) True.intro (by decide +kernel)
noncomputable def dT559 : List ckI := [(0, 1), (0, 1), ckTop, ckTop, ckTop, ckTop, ckTop, ckTop, ckTop, ckTop, ckTop, ckTop, ckTop, (1, 30), (0, 0), (0, 30), (0, 1), ckTop, (0, 1), (318, 318), (30, 30)]
noncomputable def dZ560 : List ckZ := [(13, 22, 0), (21, 15, 0), (21, 16, 0), (21, 22, (-1)), (23, 15, 0), (23, 16, 0), (23, 22, (-1))]
-- FarMachineModel.test
noncomputable def k308 : ckCtr := (86, ([(0, (1, 0))], [], dC493, dT559, dG495, [], [], [(1, 0, 0, 0, [])], 0, 0), [([], [(0, 21)], dP496, [], [], [(0, 1), (1, 30), (0, 1)], [], [], dZ560, [(1, 0, 0, 0, [])], 0, 0)], 34, 833, 0, 0)
noncomputable def k308_a : ckAs := []
noncomputable def k308_c : List (Nat × ckCtr) := [(3, k271), (10, k307), (23, k278), (28, k270), (75, k278)]
theorem k308_ok (l : Launch) : ckCtrOk l ckMT ckTW ckCL k308 := mt_86 (as := k308_a) (cs := k308_c) (gx := []) (f := 200000) rfl (ckHc (k271_ok l) (ckHc (k307_ok l) (ckHc (k278_ok l) (ckHc (k270_ok l) (ckHc (k278_ok l) (fun _ h => absurd h List.not_mem_nil)))))) True.intro (by decide +kernel)
noncomputable def dZ561 : List ckZ := [(13, 22, 0), (21, 15, 0), (21, 16, 0), (21, 22, 0), (23, 15, 0), (23, 16, 0), (23, 22, 0)]
-- FarMachineModel.test
noncomputable def k309 : ckCtr := (86, ([(0, (1, 0))], [], dC493, dT494, dG495, [], [], [(1, 0, 0, 0, [])], 0, 0), [([], [(0, 21)], dP496, [], [], [(0, 1), (0, 30), (0, 1)], [], [], dZ561, [(1, 0, 0, 0, [])], 0, 0)], 35, 856, 0, 0)
noncomputable def k309_a : ckAs := []
noncomputable def k309_c : List (Nat × ckCtr) := [(3, k271), (10, k308), (23, k278), (28, k270), (75, k278)]
theorem k309_ok (l : Launch) : ckCtrOk l ckMT ckTW ckCL k309 := mt_86 (as := k309_a) (cs := k309_c) (gx := []) (f := 200000) rfl (ckHc (k271_ok l) (ckHc (k308_ok l) (ckHc (k278_ok l) (ckHc (k270_ok l) (ckHc (k278_ok l) (fun _ h => absurd h List.not_mem_nil)))))) True.intro (by decide +kernel)
noncomputable def dT562 : List ckI := [(38, 38), (0, 1), (0, 1), ckTop, ckTop, ckTop, ckTop, ckTop, ckTop, ckTop, ckTop, ckTop, ckTop, ckTop, (0, 30), (0, 0), (0, 30), (0, 1), ckTop, (0, 1), (30, 30)]
-- FarMachineModel.takes
noncomputable def k310 : ckCtr := (84, ([(0, (1, 0)), (1, (0, 0))], [], dC483, dT562, [([(30, ckTop)], [], [])], [], [], [], 0, 0), [([], [(0, 15)], [], [], [], [], [], [], [], [], 0, 0), ([], [(0, 21)], dP485, [], [(14, (0, 29)), (16, (1, 30)), (17, (1, 1))], [(1, 1), (1, 30)], [], [], [(14, 16, (-1)), (14, 22, (-1)), (22, 14, 1), (22, 16, 0)], [], 0, 0)], 2, 100, 0, 0)
noncomputable def k310_a : ckAs := []
noncomputable def k310_c : List (Nat × ckCtr) := [(8, k270)]
theorem k310_ok (l : Launch) : ckCtrOk l ckMT ckTW ckCL k310 := mt_84 (as := k310_a) (cs := k310_c) (gx := []) (f := 200000) rfl (ckHc (k270_ok l) (fun _ h => absurd h List.not_mem_nil)) True.intro (by decide +kernel)
noncomputable def dT563 : List ckI := [(0, 1), (0, 1), ckTop, ckTop, ckTop, ckTop, ckTop, ckTop, ckTop, ckTop, ckTop, ckTop, ckTop, (0, 0), (0, 0), (0, 30), (0, 1), ckTop, (0, 1), (318, 318), (30, 30)]
noncomputable def dZ564 : List ckZ := [(21, 15, 0), (21, 16, 0), (21, 22, 0), (23, 15, 0), (23, 16, 0), (23, 22, 0)]
noncomputable def dP565 : List (Nat × ckC) := [(0, .inl (9, [(4, 10), (1, 1), (4, 11), (4, 12), (4, 13), (4, 14), (4, 15), (4, 16), (4, 17), (4, 18), (4, 19), (4, 20), (4, 21), (4, 22), (4, 23), (4, 24), (0, 0), (0, 1), (0, 2), (0, 3), (0, 4), (0, 5), (0, 6), (4, 25), (0, 7), (4, 26), (0, 8), (0, 9), (0, 10), (0, 11), (1, 2), (0, 12), (0, 25), (0, 14), (0, 15), (1, 2), (1, 1), (0, 26), (4, 27), (4, 28), (0, 17), (0, 18)]))]
noncomputable def dZ566 : List ckZ := [(21, 15, 0), (21, 16, 0), (21, 22, 0), (21, 25, 0), (22, 25, 0), (23, 15, 0), (23, 16, 0), (23, 22, 0), (23, 25, 0), (24, 15, 0), (24, 16, 0), (24, 21, 0), (24, 22, 0), (24, 25, 0), (25, 22, 29), (26, 15, 0), (26, 16, 0), (26, 22, 0), (26, 23, 0), (26, 25, 0)]
-- FarMachineModel.and
noncomputable def k311 : ckCtr := (85, ([(0, (1, 0))], [], dC493, dT563, dG495, [], [], [(1, 0, 0, 0, [])], 0, 0), [([], [(0, 21)], dP496, [], [], [(0, 1), (0, 30), (0, 1)], [], [], dZ564, [(1, 0, 0, 0, [])], 0, 0)], 36, 879, 0, 0)
noncomputable def k311_a : ckAs := [(5, [(574357, [(1, 0, 1, ([(0, (1, 0)), (1, (0, 24))], [], dP565, [], [], [(0, 1), (0, 30), (0, 1)], [], [], dZ566, [(1, 0, 0, 0, [])], 0, 0))])])]
noncomputable def k311_c : List (Nat × ckCtr) := [(1, k309), (8, k310), (15, k308)]
theorem k311_ok (l : Launch) : ckCtrOk l ckMT ckTW ckCL k311 := mt_85 (as := k311_a) (cs := k311_c) (gx := []) (f := 200000) rfl (ckHc (k309_ok l) (ckHc (k310_ok l) (ckHc (k308_ok l) (fun _ h => absurd h List.not_mem_nil)))) True.intro (by decide +kernel)
noncomputable def dC567 : List ckC := [.inl (9, [(4, 10), (1, 2), (4, 11), (4, 12), (4, 13), (4, 14), (4, 15), (4, 16), (4, 17), (4, 18), (4, 19), (4, 20), (4, 21), (4, 22), (4, 23), (4, 24), (0, 2), (0, 3), (0, 4), (0, 5), (0, 6), (0, 7), (0, 8), (4, 25), (0, 9), (4, 26), (0, 10), (0, 11), (0, 12), (0, 13), (1, 1), (0, 14), (0, 15), (0, 16), (0, 17), (5, 0), (5, 0), (0, 18), (4, 27), (4, 28), (0, 19), (0, 20)]), .inr (0, 21, 0), .inr (0, 22, 1)]
noncomputable def dT568 : List ckI := [(0, 0), (0, 30), (0, 1), (0, 1), ckTop, ckTop, ckTop, ckTop, ckTop, ckTop, ckTop, ckTop, ckTop, ckTop, ckTop, ckTop, ckTop, ckTop, (0, 1), ckTop, (0, 1), (30, 30), (318, 318)]
noncomputable def dG569 : List ckG := [([(30, ckTop)], [], []), ([(48, ckTop), (49, (0, 47)), (55, ckTop), (56, ckTop), (58, ckTop), (59, ckTop), (60, ckTop), (61, ckTop), (62, ckTop), (63, ckTop), (64, ckTop), (65, ckTop), (66, ckTop), (67, ckTop), (68, ckTop), (76, ckTop), (77, (0, 30)), (197, ckTop), (198, (0, 60)), (318, ckTop)], [], [])]
noncomputable def dP570 : List (Nat × ckC) := [(0, .inl (9, [(4, 10), (1, 2), (4, 11), (4, 12), (4, 13), (4, 14), (4, 15), (4, 16), (4, 17), (4, 18), (4, 19), (4, 20), (4, 21), (4, 22), (4, 23), (4, 24), (0, 2), (0, 3), (0, 4), (0, 5), (0, 6), (0, 7), (0, 8), (4, 25), (0, 9), (4, 26), (0, 10), (0, 11), (0, 12), (0, 13), (1, 1), (0, 14), (0, 24), (0, 0), (0, 1), (1, 1), (1, 2), (0, 25), (4, 27), (4, 28), (0, 19), (0, 20)]))]
-- FarMachineModel.goesThrough
noncomputable def k312 : ckCtr := (90, ([(0, (1, 0)), (1, (1, 1)), (2, (0, 0)), (3, (0, 1)), (4, (1, 2))], [], dC567, dT568, dG569, [], [], [(1, 1, 0, 0, [])], 0, 0), [([], [(0, 23)], dP570, [], [], [(0, 1), (0, 30), (0, 1)], [], [], [(23, 1, 0), (23, 24, 0), (25, 1, 0), (25, 24, 0)], [(1, 1, 0, 0, [])], 0, 0)], 37, 901, 0, 0)
noncomputable def k312_a : ckAs := []
noncomputable def k312_c : List (Nat × ckCtr) := [(32, k311)]
theorem k312_ok (l : Launch) : ckCtrOk l ckMT ckTW ckCL k312 := mt_90 (as := k312_a) (cs := k312_c) (gx := []) (f := 200000) rfl (ckHc (k311_ok l) (fun _ h => absurd h List.not_mem_nil)) True.intro (by decide +kernel)
noncomputable def dC571 : List ckC := [.inl (9, [(1, 1), (1, 2), (4, 10), (4, 11), (4, 12), (4, 13), (4, 14), (4, 15), (4, 16), (4, 17), (4, 18), (4, 19), (4, 20), (4, 21), (1, 3), (1, 4), (0, 0), (0, 1), (0, 2), (0, 3), (0, 4), (0, 5), (0, 6), (4, 22), (0, 7), (4, 23), (0, 8), (0, 9), (0, 10), (0, 11), (1, 5), (0, 12), (0, 13), (0, 14), (0, 15), (5, 0), (5, 0), (0, 16), (4, 24), (4, 25), (0, 17), (0, 18)]), .inr (0, 19, 0), .inr (0, 20, 1), .inr (0, 21, 2), .inr (0, 22, 3), .inr (0, 23, 4)]
noncomputable def dT572 : List ckI := [(0, 1), (0, 1), (0, 8), (0, 40), (0, 6), (0, 8), (0, 10), (0, 126000), ckTop, ckTop, ckTop, ckTop, (0, 30), ckTop, ckTop, ckTop, (0, 1), ckTop, (0, 1), (7, 7), (318, 318), (300, 300), (10, 10), (30, 30), (1, 99), (0, 126000), ckTop, ckTop, ckTop, ckTop, ckTop, ckTop, ckTop, ckTop]
noncomputable def dG573 : List ckG := [([(7, ckTop)], [], []), ([(48, ckTop), (49, (0, 47)), (50, ckTop), (51, ckTop), (52, ckTop), (54, ckTop), (55, ckTop), (56, ckTop), (57, ckTop), (58, ckTop), (59, ckTop), (60, ckTop), (61, ckTop), (62, ckTop), (63, ckTop), (64, ckTop), (65, ckTop), (66, ckTop), (67, ckTop), (68, ckTop), (76, ckTop), (77, (0, 30)), (197, ckTop), (198, (0, 60)), (318, ckTop)], [(55, 24), (58, 25), (60, 26), (61, 27), (62, 28), (63, 29), (64, 30), (65, 31), (66, 32), (67, 33)], []), ([(300, ckTop)], [], []), ([(10, (0, 30))], [], []), ([(30, ckTop)], [], [])]
noncomputable def dP574 : List (Nat × ckC) := [(0, .inl (9, [(1, 1), (1, 2), (4, 10), (4, 11), (4, 12), (4, 13), (4, 14), (4, 15), (4, 16), (4, 17), (4, 18), (4, 19), (4, 20), (4, 21), (1, 3), (1, 4), (0, 0), (0, 1), (0, 2), (0, 3), (0, 4), (0, 5), (0, 35), (4, 22), (0, 7), (4, 23), (0, 8), (0, 9), (0, 10), (0, 11), (1, 5), (0, 36), (0, 37), (0, 38), (0, 39), (5, 0), (5, 0), (0, 40), (4, 24), (4, 25), (0, 17), (0, 18)])), (1, .inr (0, 19, 5)), (3, .inr (0, 21, 6)), (4, .inr (0, 22, 7))]
noncomputable def dG575 : List ckG := [([(6, ckTop), (7, ckTop)], [], []), ([(300, ckTop)], [], []), ([(10, (0, 30))], [], [])]
noncomputable def dZ576 : List ckZ := [(6, 34, 59), (6, 35, 0), (34, 6, 0), (34, 12, 8), (34, 35, (-1)), (34, 40, 8), (35, 6, 1), (35, 34, 59), (36, 6, 20), (36, 12, 0), (36, 34, 50), (36, 35, 20)]
-- FarMachineModel.rule
noncomputable def k313 : ckCtr := (91, ([(0, (1, 0))], [], dC571, dT572, dG573, [], [], [(1, 1, 0, 0, [])], 0, 0), [([], [(0, 34)], dP574, [], [], [(-50, 9), (0, 10), (0, 30), ckTop, ckTop, ckTop, (0, 1)], dG575, [], dZ576, [(1, 1, 0, 0, [])], 0, 0)], 38, 925, 0, 0)
noncomputable def k313_a : ckAs := [(83, [(956464, [(1, 0, 0, ([(0, (1, 0)), (1, (0, 36)), (2, (0, 39)), (3, (0, 12)), (4, (0, 42))], [], [(3, .inr (0, 21, 5))], [], [], [(0, 30)], [([(300, ckTop)], [], [])], [], [(12, 37, 0), (37, 12, 0), (42, 12, 0), (42, 37, 0)], [(1, 1, 0, 0, [])], 0, 0))])])]
noncomputable def k313_c : List (Nat × ckCtr) := [(12, k23), (30, k312)]
theorem k313_ok (l : Launch) : ckCtrOk l ckMT ckTW ckCL k313 := mt_91 (as := k313_a) (cs := k313_c) (gx := []) (f := 200000) rfl (ckHc (k23_ok l) (ckHc (k312_ok l) (fun _ h => absurd h List.not_mem_nil))) True.intro (by decide +kernel)
noncomputable def dC577 : List ckC := [.inl (2, [(4, 10), (1, 2), (4, 11), (0, 0), (0, 1), (0, 2), (0, 3), (0, 4), (0, 5), (0, 6), (0, 7), (0, 8), (0, 9), (0, 10), (0, 11), (0, 12)]), .inr (0, 13, 0), .inr (0, 13, 1)]
noncomputable def dG578 : List ckG := [([(1, ckTop), (2, ckTop), (3, ckTop), (4, ckTop), (5, ckTop), (6, ckTop), (7, ckTop), (8, (0, 63))], [(0, 3), (1, 4), (2, 5), (3, 2), (4, 1), (5, 16), (6, 15), (7, 14)], [])]
-- FarMachine$Machine.readInto
noncomputable def k314 : ckCtr := (147, ([(0, (1, 0)), (1, (1, 1))], [], dC577, dT179, [([(8, ckTop)], [], []), ([(8, ckTop)], [], [])], [], [], [], 0, 0), [([], [], [(1, .inr (0, 13, 2))], [], [], [(0, 63), ckTop, ckTop], dG578, [], [], [], 0, 0)], 3, 126, 0, 0)
noncomputable def k314_a : ckAs := []
noncomputable def k314_c : List (Nat × ckCtr) := [(59, k116), (70, k128)]
theorem k314_ok (l : Launch) : ckCtrOk l ckMT ckTW ckCL k314 := mt_147 (as := k314_a) (cs := k314_c) (gx := []) (f := 200000) rfl (ckHc (k116_ok l) (ckHc (k128_ok l) (fun _ h => absurd h List.not_mem_nil))) True.intro (by decide +kernel)
-- FarMachine$Rules.sizeOf
noncomputable def k315 : ckCtr := (168, ([(0, (1, 0)), (1, (0, 0))], [], dC462, [ckTop, (0, 10), (10, 10)], [([(10, ckTop)], [], [])], [], [], [], 0, 0), [([], [(0, 3)], [], [], [(0, (0, 9))], [ckTop], [], [], [], [], 0, 0), ([], [(0, 3)], [], [], [], [(0, 0)], [], [], [], [], 0, 0)], 1, 80, 0, 0)
noncomputable def k315_a : ckAs := []
noncomputable def k315_c : List (Nat × ckCtr) := []
theorem k315_ok (l : Launch) : ckCtrOk l ckMT ckTW ckCL k315 := mt_168 (as := k315_a) (cs := k315_c) (gx := []) (f := 200000) rfl (fun _ h => absurd h List.not_mem_nil) True.intro (by decide +kernel)
-- FarMachine$Rules.valueOf
noncomputable def k316 : ckCtr := (175, ([(0, (0, 0)), (1, (1, 0))], [], [.inr (0, 1, 0)], [ckTop, (8, 8)], [([(8, ckTop)], [], [])], [], [], [], 0, 0), [([], [(0, 2)], [], [], [], [ckTop], [], [], [], [], 0, 0), ([], [(0, 0)], [], [], [], [], [], [], [], [], 0, 0)], 1, 80, 0, 0)
noncomputable def k316_a : ckAs := []
noncomputable def k316_c : List (Nat × ckCtr) := []
theorem k316_ok (l : Launch) : ckCtrOk l ckMT ckTW ckCL k316 := mt_175 (as := k316_a) (cs := k316_c) (gx := []) (f := 200000) rfl (fun _ h => absurd h List.not_mem_nil) True.intro (by decide +kernel)
noncomputable def dC579 : List ckC := [.inl (5, [(1, 2), (1, 3), (1, 4), (1, 5), (4, 10), (0, 1)]), .inr (0, 2, 0), .inr (0, 3, 1), .inr (0, 3, 2), .inr (0, 3, 3), .inr (0, 3, 4)]
noncomputable def dG580 : List ckG := [([(8, ckTop)], [], []), ([(70, ckTop)], [], []), ([(70, ckTop)], [], []), ([(70, ckTop)], [], []), ([(70, ckTop)], [], [])]
-- FarMachine$Rules.isTestTrue
noncomputable def k317 : ckCtr := (174, ([(0, (1, 0)), (1, (0, 0)), (2, (1, 1))], [], dC579, [ckTop, (0, 10), (8, 8), (70, 70)], dG580, [], [], [], 0, 0), [([], [(0, 4)], [], [], [], [(0, 0)], [], [], [], [], 0, 0), ([], [(0, 4)], [], [], [(0, (0, 69))], [(1, 1)], [], [], [], [], 0, 0)], 2, 102, 0, 0)
noncomputable def k317_a : ckAs := []
noncomputable def k317_c : List (Nat × ckCtr) := [(22, k316), (33, k316)]
theorem k317_ok (l : Launch) : ckCtrOk l ckMT ckTW ckCL k317 := mt_174 (as := k317_a) (cs := k317_c) (gx := []) (f := 200000) rfl (ckHc (k316_ok l) (ckHc (k316_ok l) (fun _ h => absurd h List.not_mem_nil))) True.intro (by decide +kernel)
noncomputable def dC581 : List ckC := [.inl (5, [(1, 2), (1, 3), (1, 4), (1, 5), (1, 6), (0, 1)]), .inr (0, 2, 0), .inr (0, 3, 1), .inr (0, 3, 2), .inr (0, 3, 3), .inr (0, 3, 4), .inr (0, 4, 5)]
noncomputable def dG582 : List ckG := [([(8, ckTop)], [], []), ([(70, ckTop)], [], []), ([(70, ckTop)], [], []), ([(70, ckTop)], [], []), ([(70, ckTop)], [], []), ([(10, ckTop)], [], [])]
-- FarMachine$Rules.isTrue
noncomputable def k318 : ckCtr := (172, ([(0, (1, 0)), (1, (0, 0)), (2, (1, 1))], [], dC581, [ckTop, (0, 10), (8, 8), (70, 70), (10, 10)], dG582, [], [], [], 0, 0), [([], [(0, 5)], [], [], [], [(1, 1)], [], [], [], [], 0, 0), ([], [(0, 5)], [], [], [(0, (0, 9))], [(0, 0)], [], [], [], [], 0, 0)], 3, 127, 0, 0)
noncomputable def k318_a : ckAs := [(9, [(97688, [(1, 0, 0, ([(0, (1, 0)), (1, (0, 0)), (2, (1, 1)), (3, (0, 5)), (4, (0, 7))], [], [], [], [], [(0, 2147483647)], [], [], [], [], 0, 0))])])]
noncomputable def k318_c : List (Nat × ckCtr) := [(2, k315), (24, k317)]
theorem k318_ok (l : Launch) : ckCtrOk l ckMT ckTW ckCL k318 := mt_172 (as := k318_a) (cs := k318_c) (gx := []) (f := 200000) rfl (ckHc (k315_ok l) (ckHc (k317_ok l) (fun _ h => absurd h List.not_mem_nil))) True.intro (by decide +kernel)
noncomputable def dC583 : List ckC := [.inl (8, [(1, 1), (4, 10), (0, 1), (4, 11), (4, 12), (4, 13), (1, 2), (1, 3)]), .inl (7, [(1, 4), (4, 14), (0, 2), (4, 15), (4, 16), (4, 17), (4, 18), (1, 5), (4, 19), (4, 20)]), .inr (0, 3, 0), .inr (0, 4, 1), .inl (2, [(4, 21), (1, 6), (4, 22), (0, 5), (0, 6), (0, 7), (0, 8), (0, 9), (0, 10), (0, 11), (0, 12), (0, 13), (0, 14), (0, 15), (0, 16), (0, 17)]), .inl (5, [(1, 7), (1, 8), (1, 9), (1, 10), (1, 11), (0, 18)]), .inr (0, 3, 2), .inr (0, 19, 3), .inr (0, 19, 4), .inr (0, 19, 5), .inr (0, 19, 6), .inr (0, 20, 7)]
noncomputable def dT584 : List ckI := [ckTop, (0, 1), (0, 1), (8, 8), (7, 7), ckTop, ckTop, ckTop, ckTop, ckTop, ckTop, ckTop, ckTop, ckTop, ckTop, ckTop, ckTop, ckTop, (0, 10), (70, 70), (10, 10), ckTop, ckTop, ckTop, ckTop, ckTop, ckTop, ckTop, ckTop]
noncomputable def dG585 : List ckG := [([(8, ckTop)], [], []), ([(7, ckTop)], [], []), ([(1, ckTop), (2, ckTop), (3, ckTop), (4, ckTop), (5, ckTop), (6, ckTop), (7, ckTop), (8, ckTop)], [(0, 21), (1, 22), (2, 23), (3, 24), (4, 25), (5, 26), (6, 27), (7, 28)], []), ([(70, ckTop)], [], []), ([(70, ckTop)], [], []), ([(70, ckTop)], [], []), ([(70, ckTop)], [], []), ([(10, ckTop)], [], [])]
noncomputable def dG586 : List ckG := [([(1, ckTop), (2, ckTop), (3, ckTop), (4, ckTop), (5, ckTop), (6, ckTop), (7, ckTop), (8, ckTop)], [], []), ([(1, ckTop), (2, ckTop), (7, ckTop)], [], [])]
-- FarMachine.holds
noncomputable def k319 : ckCtr := (19, ([(0, (1, 0)), (1, (0, 0))], [], dC583, dT584, dG585, [], [], [], 0, 0), [([], [(0, 29)], [(2, .inr (0, 3, 8)), (3, .inr (0, 4, 9))], [], [], [(-1, 1)], dG586, [], [(29, 18, 0)], [], 0, 0)], 4, 151, 0, 0)
noncomputable def k319_a : ckAs := []
noncomputable def k319_c : List (Nat × ckCtr) := [(20, k14), (35, k314), (50, k318)]
theorem k319_ok (l : Launch) : ckCtrOk l ckMT ckTW ckCL k319 := mt_19 (as := k319_a) (cs := k319_c) (gx := []) (f := 200000) rfl (ckHc (k14_ok l) (ckHc (k314_ok l) (ckHc (k318_ok l) (fun _ h => absurd h List.not_mem_nil)))) True.intro (by decide +kernel)
-- FarMachineModel.isIn
noncomputable def k320 : ckCtr := (45, ([(0, (0, 0)), (1, (0, 1))], [], [], [ckTop, (0, 10)], [], [], [], [], 0, 0), [([], [(0, 2)], [], [], [(0, (0, 9)), (1, (1, 10))], [(1, 1)], [], [], [(0, 1, (-1))], [], 0, 0), ([], [(0, 2)], [], [], [(0, (0, 2147483647))], [(0, 0)], [], [], [(1, 0, 0)], [], 0, 0), ([], [(0, 2)], [], [], [(0, (-2147483648, -1))], [(0, 0)], [], [], [], [], 0, 0)], 1, 80, 0, 0)
noncomputable def k320_a : ckAs := []
noncomputable def k320_c : List (Nat × ckCtr) := []
theorem k320_ok (l : Launch) : ckCtrOk l ckMT ckTW ckCL k320 := mt_45 (as := k320_a) (cs := k320_c) (gx := []) (f := 200000) rfl (fun _ h => absurd h List.not_mem_nil) True.intro (by decide +kernel)
noncomputable def dC587 : List ckC := [.inl (9, [(4, 10), (4, 11), (4, 12), (4, 13), (4, 14), (4, 15), (4, 16), (4, 17), (4, 18), (4, 19), (4, 20), (4, 21), (4, 22), (4, 23), (1, 1), (4, 24), (0, 0), (0, 1), (0, 2), (0, 3), (0, 4), (0, 5), (0, 6), (4, 25), (0, 7), (4, 26), (0, 8), (0, 9), (0, 10), (0, 11), (4, 27), (0, 12), (0, 13), (0, 14), (0, 15), (1, 1), (4, 11), (0, 16), (4, 28), (4, 29), (0, 17), (0, 18)]), .inr (0, 19, 0)]
noncomputable def dT588 : List ckI := [(0, 1), (0, 1), ckTop, ckTop, ckTop, ckTop, ckTop, ckTop, ckTop, ckTop, ckTop, ckTop, ckTop, (0, 30), (0, 270), (0, 30), (0, 1), ckTop, (0, 1), (300, 300)]
-- FarMachineModel.sign
noncomputable def k321 : ckCtr := (83, ([(0, (1, 0))], [], dC587, dT588, [([(300, ckTop)], [], [])], [], [], [], 0, 0), [([], [(0, 20)], [], [], [], [(-1, -1)], [], [], [(15, 13, 0)], [], 0, 0), ([], [(0, 20)], [], [], [(13, (0, 29)), (15, (1, 30))], [ckTop], [], [], [(13, 15, (-1))], [], 0, 0)], 1, 80, 0, 0)
noncomputable def k321_a : ckAs := []
noncomputable def k321_c : List (Nat × ckCtr) := []
theorem k321_ok (l : Launch) : ckCtrOk l ckMT ckTW ckCL k321 := mt_83 (as := k321_a) (cs := k321_c) (gx := []) (f := 200000) rfl (fun _ h => absurd h List.not_mem_nil) True.intro (by decide +kernel)
noncomputable def dC589 : List ckC := [.inl (9, [(4, 10), (4, 11), (4, 12), (4, 13), (4, 14), (4, 15), (4, 16), (4, 17), (4, 18), (4, 19), (4, 20), (4, 21), (4, 22), (4, 23), (1, 1), (4, 24), (0, 1), (0, 2), (0, 3), (0, 4), (0, 5), (0, 6), (0, 7), (4, 25), (0, 8), (4, 26), (0, 9), (0, 10), (0, 11), (0, 12), (4, 27), (0, 13), (0, 14), (0, 15), (0, 16), (1, 1), (4, 11), (0, 17), (4, 28), (4, 29), (0, 18), (0, 19)]), .inr (0, 20, 0)]
noncomputable def dT590 : List ckI := [(33, 33), (0, 1), (0, 1), ckTop, ckTop, ckTop, ckTop, ckTop, ckTop, ckTop, ckTop, ckTop, ckTop, ckTop, (0, 30), (0, 270), (0, 30), (0, 1), ckTop, (0, 1), (300, 300)]
noncomputable def dP591 : List (Nat × ckC) := [(0, .inl (9, [(4, 10), (4, 11), (4, 12), (4, 13), (4, 14), (4, 15), (4, 16), (4, 17), (4, 18), (4, 19), (4, 20), (4, 21), (4, 22), (4, 23), (1, 1), (4, 24), (0, 1), (0, 2), (0, 3), (0, 4), (0, 5), (0, 6), (0, 7), (4, 25), (0, 8), (4, 26), (0, 9), (0, 10), (0, 11), (0, 12), (4, 27), (0, 13), (0, 22), (0, 15), (0, 16), (1, 1), (4, 11), (0, 17), (4, 28), (4, 29), (0, 18), (0, 19)]))]
-- FarMachineModel.takes
noncomputable def k322 : ckCtr := (84, ([(0, (1, 0)), (1, (0, 0))], [], dC589, dT590, [([(300, ckTop)], [], [])], [], [], [], 0, 0), [([], [(0, 21)], [], [], [], [(0, 0)], [], [], [], [], 0, 0), ([], [(0, 21)], dP591, [], [(14, (0, 29)), (16, (1, 30)), (17, (1, 1))], [(1, 1), (1, 30)], [], [], [(14, 16, (-1)), (14, 22, (-1)), (22, 14, 1), (22, 16, 0)], [], 0, 0)], 2, 100, 0, 0)
noncomputable def k322_a : ckAs := []
noncomputable def k322_c : List (Nat × ckCtr) := [(8, k321)]
theorem k322_ok (l : Launch) : ckCtrOk l ckMT ckTW ckCL k322 := mt_84 (as := k322_a) (cs := k322_c) (gx := []) (f := 200000) rfl (ckHc (k321_ok l) (fun _ h => absurd h List.not_mem_nil)) True.intro (by decide +kernel)
noncomputable def dC592 : List ckC := [.inl (9, [(4, 10), (1, 1), (4, 11), (4, 12), (4, 13), (4, 14), (4, 15), (4, 16), (4, 17), (4, 18), (4, 19), (4, 20), (4, 21), (4, 22), (4, 23), (4, 24), (0, 1), (0, 2), (0, 3), (0, 4), (0, 5), (0, 6), (0, 7), (4, 25), (0, 8), (4, 26), (0, 9), (0, 10), (0, 11), (0, 12), (4, 27), (0, 13), (0, 14), (0, 15), (0, 16), (4, 23), (1, 1), (0, 17), (4, 28), (4, 29), (0, 18), (0, 19)]), .inr (0, 20, 0)]
noncomputable def dT593 : List ckI := [(-1, -1), (0, 1), (0, 1), ckTop, ckTop, ckTop, ckTop, ckTop, ckTop, ckTop, ckTop, ckTop, ckTop, ckTop, (0, 30), (0, 270), (0, 30), (0, 1), ckTop, (0, 1), (318, 318)]
noncomputable def dP594 : List (Nat × ckC) := [(0, .inl (9, [(4, 10), (1, 1), (4, 11), (4, 12), (4, 13), (4, 14), (4, 15), (4, 16), (4, 17), (4, 18), (4, 19), (4, 20), (4, 21), (4, 22), (4, 23), (4, 24), (0, 1), (0, 2), (0, 3), (0, 4), (0, 5), (0, 6), (0, 7), (4, 25), (0, 8), (4, 26), (0, 9), (0, 10), (0, 11), (0, 12), (4, 27), (0, 13), (0, 22), (0, 15), (0, 16), (4, 23), (1, 1), (0, 21), (4, 28), (4, 29), (0, 18), (0, 19)]))]
-- FarMachineModel.letter
noncomputable def k323 : ckCtr := (89, ([(0, (1, 0)), (1, (0, 0))], [], dC592, dT593, dG488, [], [], [(1, 0, 0, 0, [])], 0, 0), [([], [(0, 21)], dP594, [], [], [(0, 0), (0, 30)], [], [], [(14, 22, 0), (22, 14, 0)], [(1, 0, 0, 0, [])], 0, 0)], 1, 80, 0, 0)
noncomputable def k323_a : ckAs := []
noncomputable def k323_c : List (Nat × ckCtr) := []
theorem k323_ok (l : Launch) : ckCtrOk l ckMT ckTW ckCL k323 := mt_89 (as := k323_a) (cs := k323_c) (gx := []) (f := 200000) rfl (fun _ h => absurd h List.not_mem_nil) True.intro (by decide +kernel)
noncomputable def dT595 : List ckI := [ckTop, (0, 1), (0, 1), ckTop, ckTop, ckTop, ckTop, ckTop, ckTop, ckTop, ckTop, ckTop, ckTop, ckTop, (0, 29), (0, 270), (0, 30), (0, 1), ckTop, (0, 1), (318, 318)]
noncomputable def dP596 : List (Nat × ckC) := [(0, .inl (9, [(4, 10), (1, 1), (4, 11), (4, 12), (4, 13), (4, 14), (4, 15), (4, 16), (4, 17), (4, 18), (4, 19), (4, 20), (4, 21), (4, 22), (4, 23), (4, 24), (0, 1), (0, 2), (0, 3), (0, 4), (0, 5), (0, 6), (0, 7), (4, 25), (0, 8), (4, 26), (0, 9), (0, 10), (0, 11), (0, 12), (4, 27), (0, 13), (0, 22), (0, 15), (0, 16), (4, 23), (1, 1), (0, 23), (4, 28), (4, 29), (0, 18), (0, 19)]))]
-- FarMachineModel.letter
noncomputable def k324 : ckCtr := (89, ([(0, (1, 0)), (1, (0, 0))], [], dC592, dT595, dG488, [], [], [(1, 0, 0, 0, [])], 0, 0), [([], [(0, 21)], dP596, [], [], [ckTop, (0, 30), (0, 1)], [], [], [(14, 22, 0), (22, 14, 1), (23, 17, 0), (23, 22, 0)], [(1, 0, 0, 0, [])], 0, 0)], 3, 122, 0, 0)
noncomputable def k324_a : ckAs := []
noncomputable def k324_c : List (Nat × ckCtr) := [(171, k274), (179, k275), (182, k132)]
theorem k324_ok (l : Launch) : ckCtrOk l ckMT ckTW ckCL k324 := mt_89 (as := k324_a) (cs := k324_c) (gx := []) (f := 200000) rfl (ckHc (k274_ok l) (ckHc (k275_ok l) (ckHc (k132_ok l) (fun _ h => absurd h List.not_mem_nil)))) True.intro (by decide +kernel)
noncomputable def dT597 : List ckI := [(0, 1), (0, 1), ckTop, ckTop, ckTop, ckTop, ckTop, ckTop, ckTop, ckTop, ckTop, ckTop, ckTop, (0, 29), (0, 270), (0, 30), (0, 1), ckTop, (0, 1), (300, 300)]
-- FarMachineModel.sign
noncomputable def k325 : ckCtr := (83, ([(0, (1, 0))], [], dC587, dT597, [([(300, ckTop)], [], [])], [], [], [], 0, 0), [([], [(0, 20)], [], [], [(15, (0, 29))], [(-1, -1)], [], [], [(15, 13, 0)], [], 0, 0), ([], [(0, 20)], [], [], [(15, (1, 30))], [ckTop], [], [], [(13, 15, (-1))], [], 0, 0)], 1, 80, 0, 0)
noncomputable def k325_a : ckAs := []
noncomputable def k325_c : List (Nat × ckCtr) := []
theorem k325_ok (l : Launch) : ckCtrOk l ckMT ckTW ckCL k325 := mt_83 (as := k325_a) (cs := k325_c) (gx := []) (f := 200000) rfl (fun _ h => absurd h List.not_mem_nil) True.intro (by decide +kernel)
noncomputable def dC598 : List ckC := [.inl (9, [(4, 10), (1, 1), (4, 11), (4, 12), (4, 13), (4, 14), (4, 15), (4, 16), (4, 17), (4, 18), (4, 19), (4, 20), (4, 21), (4, 22), (1, 2), (4, 23), (0, 0), (0, 1), (0, 2), (0, 3), (0, 4), (0, 5), (0, 6), (4, 24), (0, 7), (4, 25), (0, 8), (0, 9), (0, 10), (0, 11), (4, 26), (0, 12), (0, 13), (0, 14), (0, 15), (1, 2), (1, 1), (0, 16), (4, 27), (4, 28), (0, 17), (0, 18)]), .inr (0, 19, 0), .inr (0, 20, 1)]
noncomputable def dT599 : List ckI := [(0, 1), (0, 1), ckTop, ckTop, ckTop, ckTop, ckTop, ckTop, ckTop, ckTop, ckTop, ckTop, ckTop, (0, 30), (0, 270), (0, 30), (0, 1), ckTop, (0, 1), (318, 318), (300, 300)]
noncomputable def dG600 : List ckG := [([(48, ckTop), (49, (0, 47)), (55, ckTop), (56, ckTop), (58, ckTop), (59, ckTop), (60, ckTop), (61, ckTop), (62, ckTop), (63, ckTop), (64, ckTop), (65, ckTop), (66, ckTop), (67, ckTop), (68, ckTop), (76, ckTop), (77, (0, 30)), (197, ckTop), (198, (0, 60)), (318, ckTop)], [], []), ([(300, ckTop)], [], [])]
noncomputable def dP601 : List (Nat × ckC) := [(0, .inl (9, [(4, 10), (1, 1), (4, 11), (4, 12), (4, 13), (4, 14), (4, 15), (4, 16), (4, 17), (4, 18), (4, 19), (4, 20), (4, 21), (4, 22), (1, 2), (4, 23), (0, 0), (0, 1), (0, 2), (0, 3), (0, 4), (0, 5), (0, 6), (4, 24), (0, 7), (4, 25), (0, 8), (0, 9), (0, 10), (0, 11), (4, 26), (0, 12), (0, 22), (0, 14), (0, 15), (1, 2), (1, 1), (0, 23), (4, 27), (4, 28), (0, 17), (0, 18)]))]
noncomputable def dP602 : List (Nat × ckC) := [(0, .inl (9, [(4, 10), (1, 1), (4, 11), (4, 12), (4, 13), (4, 14), (4, 15), (4, 16), (4, 17), (4, 18), (4, 19), (4, 20), (4, 21), (4, 22), (1, 2), (4, 23), (0, 0), (0, 1), (0, 2), (0, 3), (0, 4), (0, 5), (0, 6), (4, 24), (0, 7), (4, 25), (0, 8), (0, 9), (0, 10), (0, 11), (4, 26), (0, 12), (0, 29), (0, 14), (0, 15), (1, 2), (1, 1), (0, 16), (4, 27), (4, 28), (0, 17), (0, 18)]))]
noncomputable def dP603 : List (Nat × ckC) := [(0, .inl (9, [(4, 10), (1, 1), (4, 11), (4, 12), (4, 13), (4, 14), (4, 15), (4, 16), (4, 17), (4, 18), (4, 19), (4, 20), (4, 21), (4, 22), (1, 2), (4, 23), (0, 0), (0, 1), (0, 2), (0, 3), (0, 4), (0, 5), (0, 6), (4, 24), (0, 7), (4, 25), (0, 8), (0, 9), (0, 10), (0, 11), (4, 26), (0, 12), (0, 30), (0, 14), (0, 15), (1, 2), (1, 1), (0, 16), (4, 27), (4, 28), (0, 17), (0, 18)]))]
-- FarMachineModel.unit
noncomputable def k326 : ckCtr := (88, ([(0, (1, 0))], [], dC598, dT599, dG600, [], [], [(1, 0, 0, 0, [])], 0, 0), [([], [(0, 21)], dP601, [], [], [ckTop, (0, 30), (0, 1)], [], [], [(13, 22, 0), (23, 15, 0), (23, 16, 0), (23, 22, 0)], [(1, 0, 0, 0, [])], 0, 0)], 4, 143, 0, 0)
noncomputable def k326_a : ckAs := [(53, [(262068, [(1, 0, 1, ([(0, (1, 0)), (1, (0, 21)), (2, (0, 27)), (3, (0, 28))], [], dP602, [], [], [ckTop, (0, 3), (0, 30)], [], [], dZ498, [(1, 0, 0, 0, [])], 0, 0))]), (316176, [(1, 0, 1, ([(0, (1, 0)), (1, (0, 21)), (2, (0, 28)), (3, (0, 29))], [], dP603, [], [], [ckTop, (0, 3), (1, 30)], [], [], dZ500, [(1, 0, 0, 0, [])], 0, 0))])])]
noncomputable def k326_c : List (Nat × ckCtr) := [(10, k321), (21, k272), (29, k323), (29, k324), (59, k321), (62, k272), (73, k325)]
theorem k326_ok (l : Launch) : ckCtrOk l ckMT ckTW ckCL k326 := mt_88 (as := k326_a) (cs := k326_c) (gx := []) (f := 200000) rfl (ckHc (k321_ok l) (ckHc (k272_ok l) (ckHc (k323_ok l) (ckHc (k324_ok l) (ckHc (k321_ok l) (ckHc (k272_ok l) (ckHc (k325_ok l) (fun _ h => absurd h List.not_mem_nil)))))))) True.intro (by decide +kernel)
