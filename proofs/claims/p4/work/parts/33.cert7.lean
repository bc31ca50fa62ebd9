/-! THE CHECKER: contracts with their certificates (printed by wip/gen2/p14gen.py) -/
noncomputable def dC605 : List ckC := [.inl (9, [(4, 10), (4, 11), (4, 12), (4, 13), (4, 14), (4, 15), (4, 16), (4, 17), (4, 18), (4, 19), (4, 20), (4, 21), (4, 22), (4, 23), (1, 1), (4, 24), (0, 0), (0, 1), (0, 2), (0, 3), (0, 4), (0, 5), (0, 6), (4, 25), (0, 7), (4, 26), (0, 8), (0, 9), (0, 10), (0, 11), (4, 27), (0, 12), (0, 13), (0, 14), (0, 15), (1, 1), (4, 14), (0, 16), (4, 28), (4, 29), (0, 17), (0, 18)]), .inr (0, 19, 0)]
-- FarMachineModel.sign
noncomputable def k323 : ckCtr := (83, ([(0, (1, 0))], [], dC605, dT528, [([(300, ckTop)], [], [])], [], [], [], 0, 0), [([], [(0, 20)], [], [], [], [(-1, -1)], [], [], [(15, 13, 0)], [], 0, 0), ([], [(0, 20)], [], [], [(13, (0, 29)), (15, (1, 30))], [ckTop], [], [], [(13, 15, (-1))], [], 0, 0)], 1, 80, 0, 0)
noncomputable def k323_a : ckAs := []
noncomputable def k323_c : List (Nat × ckCtr) := []
theorem k323_ok (l : Launch) : ckCtrOk l ckMT ckTW ckCL k323 := mt_83 (as := k323_a) (cs := k323_c) (gx := []) (f := 200000) rfl (fun _ h => absurd h List.not_mem_nil) True.intro (by decide +kernel)
noncomputable def dC606 : List ckC := [.inl (9, [(4, 10), (4, 11), (4, 12), (4, 13), (4, 14), (4, 15), (4, 16), (4, 17), (4, 18), (4, 19), (4, 20), (4, 21), (4, 22), (4, 23), (1, 1), (4, 24), (0, 1), (0, 2), (0, 3), (0, 4), (0, 5), (0, 6), (0, 7), (4, 25), (0, 8), (4, 26), (0, 9), (0, 10), (0, 11), (0, 12), (4, 27), (0, 13), (0, 14), (0, 15), (0, 16), (1, 1), (4, 14), (0, 17), (4, 28), (4, 29), (0, 18), (0, 19)]), .inr (0, 20, 0)]
noncomputable def dP607 : List (Nat × ckC) := [(0, .inl (9, [(4, 10), (4, 11), (4, 12), (4, 13), (4, 14), (4, 15), (4, 16), (4, 17), (4, 18), (4, 19), (4, 20), (4, 21), (4, 22), (4, 23), (1, 1), (4, 24), (0, 1), (0, 2), (0, 3), (0, 4), (0, 5), (0, 6), (0, 7), (4, 25), (0, 8), (4, 26), (0, 9), (0, 10), (0, 11), (0, 12), (4, 27), (0, 13), (0, 22), (0, 15), (0, 16), (1, 1), (4, 14), (0, 17), (4, 28), (4, 29), (0, 18), (0, 19)]))]
-- FarMachineModel.takes
noncomputable def k324 : ckCtr := (84, ([(0, (1, 0)), (1, (0, 0))], [], dC606, dT530, [([(300, ckTop)], [], [])], [], [], [], 0, 0), [([], [(0, 21)], [], [], [], [(0, 0)], [], [], [], [], 0, 0), ([], [(0, 21)], dP607, [], [(14, (0, 29)), (16, (1, 30)), (17, (1, 1))], [(1, 1), (1, 30)], [], [], [(14, 16, (-1)), (14, 22, (-1)), (22, 14, 1), (22, 16, 0)], [], 0, 0)], 2, 100, 0, 0)
noncomputable def k324_a : ckAs := []
noncomputable def k324_c : List (Nat × ckCtr) := [(8, k323)]
theorem k324_ok (l : Launch) : ckCtrOk l ckMT ckTW ckCL k324 := mt_84 (as := k324_a) (cs := k324_c) (gx := []) (f := 200000) rfl (ckHc (k323_ok l) (fun _ h => absurd h List.not_mem_nil)) True.intro (by decide +kernel)
noncomputable def dC608 : List ckC := [.inl (9, [(4, 10), (4, 11), (4, 12), (4, 13), (1, 1), (4, 14), (4, 15), (4, 16), (4, 17), (4, 18), (4, 19), (4, 20), (4, 21), (4, 22), (4, 23), (4, 24), (0, 1), (0, 2), (0, 3), (0, 4), (0, 5), (0, 6), (0, 7), (4, 25), (0, 8), (4, 26), (0, 9), (0, 10), (0, 11), (0, 12), (4, 27), (0, 13), (0, 14), (0, 15), (0, 16), (4, 23), (1, 1), (0, 17), (4, 28), (4, 29), (0, 18), (0, 19)]), .inr (0, 20, 0)]
noncomputable def dP609 : List (Nat × ckC) := [(0, .inl (9, [(4, 10), (4, 11), (4, 12), (4, 13), (1, 1), (4, 14), (4, 15), (4, 16), (4, 17), (4, 18), (4, 19), (4, 20), (4, 21), (4, 22), (4, 23), (4, 24), (0, 1), (0, 2), (0, 3), (0, 4), (0, 5), (0, 6), (0, 7), (4, 25), (0, 8), (4, 26), (0, 9), (0, 10), (0, 11), (0, 12), (4, 27), (0, 13), (0, 22), (0, 15), (0, 16), (4, 23), (1, 1), (0, 21), (4, 28), (4, 29), (0, 18), (0, 19)]))]
-- FarMachineModel.letter
noncomputable def k325 : ckCtr := (89, ([(0, (1, 0)), (1, (0, 0))], [], dC608, dT533, dG428, [], [], [(1, 0, 0, 0, [])], 0, 0), [([], [(0, 21)], dP609, [], [], [(0, 0), (0, 30)], [], [], [(14, 22, 0), (22, 14, 0)], [(1, 0, 0, 0, [])], 0, 0)], 1, 80, 0, 0)
noncomputable def k325_a : ckAs := []
noncomputable def k325_c : List (Nat × ckCtr) := []
theorem k325_ok (l : Launch) : ckCtrOk l ckMT ckTW ckCL k325 := mt_89 (as := k325_a) (cs := k325_c) (gx := []) (f := 200000) rfl (fun _ h => absurd h List.not_mem_nil) True.intro (by decide +kernel)
noncomputable def dP610 : List (Nat × ckC) := [(0, .inl (9, [(4, 10), (4, 11), (4, 12), (4, 13), (1, 1), (4, 14), (4, 15), (4, 16), (4, 17), (4, 18), (4, 19), (4, 20), (4, 21), (4, 22), (4, 23), (4, 24), (0, 1), (0, 2), (0, 3), (0, 4), (0, 5), (0, 6), (0, 7), (4, 25), (0, 8), (4, 26), (0, 9), (0, 10), (0, 11), (0, 12), (4, 27), (0, 13), (0, 22), (0, 15), (0, 16), (4, 23), (1, 1), (0, 23), (4, 28), (4, 29), (0, 18), (0, 19)]))]
-- FarMachineModel.letter
noncomputable def k326 : ckCtr := (89, ([(0, (1, 0)), (1, (0, 0))], [], dC608, dT535, dG428, [], [], [(1, 0, 0, 0, [])], 0, 0), [([], [(0, 21)], dP610, [], [], [ckTop, (0, 30), (0, 1)], [], [], [(14, 22, 0), (22, 14, 1), (23, 17, 0), (23, 22, 0)], [(1, 0, 0, 0, [])], 0, 0)], 3, 122, 0, 0)
noncomputable def k326_a : ckAs := []
noncomputable def k326_c : List (Nat × ckCtr) := [(171, k228), (179, k229), (182, k86)]
theorem k326_ok (l : Launch) : ckCtrOk l ckMT ckTW ckCL k326 := mt_89 (as := k326_a) (cs := k326_c) (gx := []) (f := 200000) rfl (ckHc (k228_ok l) (ckHc (k229_ok l) (ckHc (k86_ok l) (fun _ h => absurd h List.not_mem_nil)))) True.intro (by decide +kernel)
-- FarMachineModel.sign
noncomputable def k327 : ckCtr := (83, ([(0, (1, 0))], [], dC605, dT537, [([(300, ckTop)], [], [])], [], [], [], 0, 0), [([], [(0, 20)], [], [], [(15, (0, 29))], [(-1, -1)], [], [], [(15, 13, 0)], [], 0, 0), ([], [(0, 20)], [], [], [(15, (1, 30))], [ckTop], [], [], [(13, 15, (-1))], [], 0, 0)], 1, 80, 0, 0)
noncomputable def k327_a : ckAs := []
noncomputable def k327_c : List (Nat × ckCtr) := []
theorem k327_ok (l : Launch) : ckCtrOk l ckMT ckTW ckCL k327 := mt_83 (as := k327_a) (cs := k327_c) (gx := []) (f := 200000) rfl (fun _ h => absurd h List.not_mem_nil) True.intro (by decide +kernel)
noncomputable def dC611 : List ckC := [.inl (9, [(4, 10), (4, 11), (4, 12), (4, 13), (1, 1), (4, 14), (4, 15), (4, 16), (4, 17), (4, 18), (4, 19), (4, 20), (4, 21), (4, 22), (1, 2), (4, 23), (0, 0), (0, 1), (0, 2), (0, 3), (0, 4), (0, 5), (0, 6), (4, 24), (0, 7), (4, 25), (0, 8), (0, 9), (0, 10), (0, 11), (4, 26), (0, 12), (0, 13), (0, 14), (0, 15), (1, 2), (1, 1), (0, 16), (4, 27), (4, 28), (0, 17), (0, 18)]), .inr (0, 19, 0), .inr (0, 20, 1)]
noncomputable def dP612 : List (Nat × ckC) := [(0, .inl (9, [(4, 10), (4, 11), (4, 12), (4, 13), (1, 1), (4, 14), (4, 15), (4, 16), (4, 17), (4, 18), (4, 19), (4, 20), (4, 21), (4, 22), (1, 2), (4, 23), (0, 0), (0, 1), (0, 2), (0, 3), (0, 4), (0, 5), (0, 6), (4, 24), (0, 7), (4, 25), (0, 8), (0, 9), (0, 10), (0, 11), (4, 26), (0, 12), (0, 22), (0, 14), (0, 15), (1, 2), (1, 1), (0, 23), (4, 27), (4, 28), (0, 17), (0, 18)]))]
noncomputable def dP613 : List (Nat × ckC) := [(0, .inl (9, [(4, 10), (4, 11), (4, 12), (4, 13), (1, 1), (4, 14), (4, 15), (4, 16), (4, 17), (4, 18), (4, 19), (4, 20), (4, 21), (4, 22), (1, 2), (4, 23), (0, 0), (0, 1), (0, 2), (0, 3), (0, 4), (0, 5), (0, 6), (4, 24), (0, 7), (4, 25), (0, 8), (0, 9), (0, 10), (0, 11), (4, 26), (0, 12), (0, 29), (0, 14), (0, 15), (1, 2), (1, 1), (0, 16), (4, 27), (4, 28), (0, 17), (0, 18)]))]
noncomputable def dP614 : List (Nat × ckC) := [(0, .inl (9, [(4, 10), (4, 11), (4, 12), (4, 13), (1, 1), (4, 14), (4, 15), (4, 16), (4, 17), (4, 18), (4, 19), (4, 20), (4, 21), (4, 22), (1, 2), (4, 23), (0, 0), (0, 1), (0, 2), (0, 3), (0, 4), (0, 5), (0, 6), (4, 24), (0, 7), (4, 25), (0, 8), (0, 9), (0, 10), (0, 11), (4, 26), (0, 12), (0, 30), (0, 14), (0, 15), (1, 2), (1, 1), (0, 16), (4, 27), (4, 28), (0, 17), (0, 18)]))]
-- FarMachineModel.unit
noncomputable def k328 : ckCtr := (88, ([(0, (1, 0))], [], dC611, dT539, dG540, [], [], [(1, 0, 0, 0, [])], 0, 0), [([], [(0, 21)], dP612, [], [], [ckTop, (0, 30), (0, 1)], [], [], [(13, 22, 0), (23, 15, 0), (23, 16, 0), (23, 22, 0)], [(1, 0, 0, 0, [])], 0, 0)], 4, 143, 0, 0)
noncomputable def k328_a : ckAs := [(53, [(262068, [(1, 0, 1, ([(0, (1, 0)), (1, (0, 21)), (2, (0, 27)), (3, (0, 28))], [], dP613, [], [], [ckTop, (0, 3), (0, 30)], [], [], dZ438, [(1, 0, 0, 0, [])], 0, 0))]), (316176, [(1, 0, 1, ([(0, (1, 0)), (1, (0, 21)), (2, (0, 28)), (3, (0, 29))], [], dP614, [], [], [ckTop, (0, 3), (1, 30)], [], [], dZ440, [(1, 0, 0, 0, [])], 0, 0))])])]
noncomputable def k328_c : List (Nat × ckCtr) := [(10, k323), (21, k226), (29, k325), (29, k326), (59, k323), (62, k226), (73, k327)]
theorem k328_ok (l : Launch) : ckCtrOk l ckMT ckTW ckCL k328 := mt_88 (as := k328_a) (cs := k328_c) (gx := []) (f := 200000) rfl (ckHc (k323_ok l) (ckHc (k226_ok l) (ckHc (k325_ok l) (ckHc (k326_ok l) (ckHc (k323_ok l) (ckHc (k226_ok l) (ckHc (k327_ok l) (fun _ h => absurd h List.not_mem_nil)))))))) True.intro (by decide +kernel)
noncomputable def dP615 : List (Nat × ckC) := [(0, .inl (9, [(4, 10), (4, 11), (4, 12), (4, 13), (1, 1), (4, 14), (4, 15), (4, 16), (4, 17), (4, 18), (4, 19), (4, 20), (4, 21), (4, 22), (1, 2), (4, 23), (0, 0), (0, 1), (0, 2), (0, 3), (0, 4), (0, 5), (0, 6), (4, 24), (0, 7), (4, 25), (0, 8), (0, 9), (0, 10), (0, 11), (4, 26), (0, 12), (0, 13), (0, 14), (0, 15), (1, 2), (1, 1), (0, 21), (4, 27), (4, 28), (0, 17), (0, 18)]))]
-- FarMachineModel.test
noncomputable def k329 : ckCtr := (86, ([(0, (1, 0))], [], dC611, dT544, dG540, [], [], [(1, 0, 0, 0, [])], 0, 0), [([], [(0, 21)], dP615, [], [], [(0, 0)], [], [], [], [(1, 0, 0, 0, [])], 0, 0)], 5, 166, 0, 0)
noncomputable def k329_a : ckAs := []
noncomputable def k329_c : List (Nat × ckCtr) := [(3, k324), (23, k328), (28, k323)]
theorem k329_ok (l : Launch) : ckCtrOk l ckMT ckTW ckCL k329 := mt_86 (as := k329_a) (cs := k329_c) (gx := []) (f := 200000) rfl (ckHc (k324_ok l) (ckHc (k328_ok l) (ckHc (k323_ok l) (fun _ h => absurd h List.not_mem_nil)))) True.intro (by decide +kernel)
-- FarMachineModel.test
noncomputable def k330 : ckCtr := (86, ([(0, (1, 0))], [], dC611, dT546, dG540, [], [], [(1, 0, 0, 0, [])], 0, 0), [([], [(0, 21)], dP612, [], [], [(0, 1), (29, 30), (0, 1)], [], [], dZ444, [(1, 0, 0, 0, [])], 0, 0)], 6, 189, 0, 0)
noncomputable def k330_a : ckAs := []
noncomputable def k330_c : List (Nat × ckCtr) := [(3, k324), (10, k329), (23, k328), (28, k323), (75, k328)]
theorem k330_ok (l : Launch) : ckCtrOk l ckMT ckTW ckCL k330 := mt_86 (as := k330_a) (cs := k330_c) (gx := []) (f := 200000) rfl (ckHc (k324_ok l) (ckHc (k329_ok l) (ckHc (k328_ok l) (ckHc (k323_ok l) (ckHc (k328_ok l) (fun _ h => absurd h List.not_mem_nil)))))) True.intro (by decide +kernel)
-- FarMachineModel.test
noncomputable def k331 : ckCtr := (86, ([(0, (1, 0))], [], dC611, dT547, dG540, [], [], [(1, 0, 0, 0, [])], 0, 0), [([], [(0, 21)], dP612, [], [], [(0, 1), (28, 30), (0, 1)], [], [], dZ446, [(1, 0, 0, 0, [])], 0, 0)], 7, 212, 0, 0)
noncomputable def k331_a : ckAs := []
noncomputable def k331_c : List (Nat × ckCtr) := [(3, k324), (10, k330), (23, k328), (28, k323), (75, k328)]
theorem k331_ok (l : Launch) : ckCtrOk l ckMT ckTW ckCL k331 := mt_86 (as := k331_a) (cs := k331_c) (gx := []) (f := 200000) rfl (ckHc (k324_ok l) (ckHc (k330_ok l) (ckHc (k328_ok l) (ckHc (k323_ok l) (ckHc (k328_ok l) (fun _ h => absurd h List.not_mem_nil)))))) True.intro (by decide +kernel)
-- FarMachineModel.test
noncomputable def k332 : ckCtr := (86, ([(0, (1, 0))], [], dC611, dT548, dG540, [], [], [(1, 0, 0, 0, [])], 0, 0), [([], [(0, 21)], dP612, [], [], [(0, 1), (27, 30), (0, 1)], [], [], dZ448, [(1, 0, 0, 0, [])], 0, 0)], 8, 235, 0, 0)
noncomputable def k332_a : ckAs := []
noncomputable def k332_c : List (Nat × ckCtr) := [(3, k324), (10, k331), (23, k328), (28, k323), (75, k328)]
theorem k332_ok (l : Launch) : ckCtrOk l ckMT ckTW ckCL k332 := mt_86 (as := k332_a) (cs := k332_c) (gx := []) (f := 200000) rfl (ckHc (k324_ok l) (ckHc (k331_ok l) (ckHc (k328_ok l) (ckHc (k323_ok l) (ckHc (k328_ok l) (fun _ h => absurd h List.not_mem_nil)))))) True.intro (by decide +kernel)
-- FarMachineModel.test
noncomputable def k333 : ckCtr := (86, ([(0, (1, 0))], [], dC611, dT549, dG540, [], [], [(1, 0, 0, 0, [])], 0, 0), [([], [(0, 21)], dP612, [], [], [(0, 1), (26, 30), (0, 1)], [], [], dZ450, [(1, 0, 0, 0, [])], 0, 0)], 9, 258, 0, 0)
noncomputable def k333_a : ckAs := []
noncomputable def k333_c : List (Nat × ckCtr) := [(3, k324), (10, k332), (23, k328), (28, k323), (75, k328)]
theorem k333_ok (l : Launch) : ckCtrOk l ckMT ckTW ckCL k333 := mt_86 (as := k333_a) (cs := k333_c) (gx := []) (f := 200000) rfl (ckHc (k324_ok l) (ckHc (k332_ok l) (ckHc (k328_ok l) (ckHc (k323_ok l) (ckHc (k328_ok l) (fun _ h => absurd h List.not_mem_nil)))))) True.intro (by decide +kernel)
-- FarMachineModel.test
noncomputable def k334 : ckCtr := (86, ([(0, (1, 0))], [], dC611, dT550, dG540, [], [], [(1, 0, 0, 0, [])], 0, 0), [([], [(0, 21)], dP612, [], [], [(0, 1), (25, 30), (0, 1)], [], [], dZ452, [(1, 0, 0, 0, [])], 0, 0)], 10, 281, 0, 0)
noncomputable def k334_a : ckAs := []
noncomputable def k334_c : List (Nat × ckCtr) := [(3, k324), (10, k333), (23, k328), (28, k323), (75, k328)]
theorem k334_ok (l : Launch) : ckCtrOk l ckMT ckTW ckCL k334 := mt_86 (as := k334_a) (cs := k334_c) (gx := []) (f := 200000) rfl (ckHc (k324_ok l) (ckHc (k333_ok l) (ckHc (k328_ok l) (ckHc (k323_ok l) (ckHc (k328_ok l) (fun _ h => absurd h List.not_mem_nil)))))) True.intro (by decide +kernel)
-- FarMachineModel.test
noncomputable def k335 : ckCtr := (86, ([(0, (1, 0))], [], dC611, dT551, dG540, [], [], [(1, 0, 0, 0, [])], 0, 0), [([], [(0, 21)], dP612, [], [], [(0, 1), (24, 30), (0, 1)], [], [], dZ454, [(1, 0, 0, 0, [])], 0, 0)], 11, 304, 0, 0)
noncomputable def k335_a : ckAs := []
noncomputable def k335_c : List (Nat × ckCtr) := [(3, k324), (10, k334), (23, k328), (28, k323), (75, k328)]
theorem k335_ok (l : Launch) : ckCtrOk l ckMT ckTW ckCL k335 := mt_86 (as := k335_a) (cs := k335_c) (gx := []) (f := 200000) rfl (ckHc (k324_ok l) (ckHc (k334_ok l) (ckHc (k328_ok l) (ckHc (k323_ok l) (ckHc (k328_ok l) (fun _ h => absurd h List.not_mem_nil)))))) True.intro (by decide +kernel)
-- FarMachineModel.test
noncomputable def k336 : ckCtr := (86, ([(0, (1, 0))], [], dC611, dT552, dG540, [], [], [(1, 0, 0, 0, [])], 0, 0), [([], [(0, 21)], dP612, [], [], [(0, 1), (23, 30), (0, 1)], [], [], dZ456, [(1, 0, 0, 0, [])], 0, 0)], 12, 327, 0, 0)
noncomputable def k336_a : ckAs := []
noncomputable def k336_c : List (Nat × ckCtr) := [(3, k324), (10, k335), (23, k328), (28, k323), (75, k328)]
theorem k336_ok (l : Launch) : ckCtrOk l ckMT ckTW ckCL k336 := mt_86 (as := k336_a) (cs := k336_c) (gx := []) (f := 200000) rfl (ckHc (k324_ok l) (ckHc (k335_ok l) (ckHc (k328_ok l) (ckHc (k323_ok l) (ckHc (k328_ok l) (fun _ h => absurd h List.not_mem_nil)))))) True.intro (by decide +kernel)
-- FarMachineModel.test
noncomputable def k337 : ckCtr := (86, ([(0, (1, 0))], [], dC611, dT553, dG540, [], [], [(1, 0, 0, 0, [])], 0, 0), [([], [(0, 21)], dP612, [], [], [(0, 1), (22, 30), (0, 1)], [], [], dZ458, [(1, 0, 0, 0, [])], 0, 0)], 13, 350, 0, 0)
noncomputable def k337_a : ckAs := []
noncomputable def k337_c : List (Nat × ckCtr) := [(3, k324), (10, k336), (23, k328), (28, k323), (75, k328)]
theorem k337_ok (l : Launch) : ckCtrOk l ckMT ckTW ckCL k337 := mt_86 (as := k337_a) (cs := k337_c) (gx := []) (f := 200000) rfl (ckHc (k324_ok l) (ckHc (k336_ok l) (ckHc (k328_ok l) (ckHc (k323_ok l) (ckHc (k328_ok l) (fun _ h => absurd h List.not_mem_nil)))))) True.intro (by decide +kernel)
-- FarMachineModel.test
noncomputable def k338 : ckCtr := (86, ([(0, (1, 0))], [], dC611, dT554, dG540, [], [], [(1, 0, 0, 0, [])], 0, 0), [([], [(0, 21)], dP612, [], [], [(0, 1), (21, 30), (0, 1)], [], [], dZ460, [(1, 0, 0, 0, [])], 0, 0)], 14, 373, 0, 0)
noncomputable def k338_a : ckAs := []
noncomputable def k338_c : List (Nat × ckCtr) := [(3, k324), (10, k337), (23, k328), (28, k323), (75, k328)]
theorem k338_ok (l : Launch) : ckCtrOk l ckMT ckTW ckCL k338 := mt_86 (as := k338_a) (cs := k338_c) (gx := []) (f := 200000) rfl (ckHc (k324_ok l) (ckHc (k337_ok l) (ckHc (k328_ok l) (ckHc (k323_ok l) (ckHc (k328_ok l) (fun _ h => absurd h List.not_mem_nil)))))) True.intro (by decide +kernel)
-- FarMachineModel.test
noncomputable def k339 : ckCtr := (86, ([(0, (1, 0))], [], dC611, dT555, dG540, [], [], [(1, 0, 0, 0, [])], 0, 0), [([], [(0, 21)], dP612, [], [], [(0, 1), (20, 30), (0, 1)], [], [], dZ462, [(1, 0, 0, 0, [])], 0, 0)], 15, 396, 0, 0)
noncomputable def k339_a : ckAs := []
noncomputable def k339_c : List (Nat × ckCtr) := [(3, k324), (10, k338), (23, k328), (28, k323), (75, k328)]
theorem k339_ok (l : Launch) : ckCtrOk l ckMT ckTW ckCL k339 := mt_86 (as := k339_a) (cs := k339_c) (gx := []) (f := 200000) rfl (ckHc (k324_ok l) (ckHc (k338_ok l) (ckHc (k328_ok l) (ckHc (k323_ok l) (ckHc (k328_ok l) (fun _ h => absurd h List.not_mem_nil)))))) True.intro (by decide +kernel)
-- FarMachineModel.test
noncomputable def k340 : ckCtr := (86, ([(0, (1, 0))], [], dC611, dT556, dG540, [], [], [(1, 0, 0, 0, [])], 0, 0), [([], [(0, 21)], dP612, [], [], [(0, 1), (19, 30), (0, 1)], [], [], dZ464, [(1, 0, 0, 0, [])], 0, 0)], 16, 419, 0, 0)
noncomputable def k340_a : ckAs := []
noncomputable def k340_c : List (Nat × ckCtr) := [(3, k324), (10, k339), (23, k328), (28, k323), (75, k328)]
theorem k340_ok (l : Launch) : ckCtrOk l ckMT ckTW ckCL k340 := mt_86 (as := k340_a) (cs := k340_c) (gx := []) (f := 200000) rfl (ckHc (k324_ok l) (ckHc (k339_ok l) (ckHc (k328_ok l) (ckHc (k323_ok l) (ckHc (k328_ok l) (fun _ h => absurd h List.not_mem_nil)))))) True.intro (by decide +kernel)
-- FarMachineModel.test
noncomputable def k341 : ckCtr := (86, ([(0, (1, 0))], [], dC611, dT557, dG540, [], [], [(1, 0, 0, 0, [])], 0, 0), [([], [(0, 21)], dP612, [], [], [(0, 1), (18, 30), (0, 1)], [], [], dZ466, [(1, 0, 0, 0, [])], 0, 0)], 17, 442, 0, 0)
noncomputable def k341_a : ckAs := []
noncomputable def k341_c : List (Nat × ckCtr) := [(3, k324), (10, k340), (23, k328), (28, k323), (75, k328)]
theorem k341_ok (l : Launch) : ckCtrOk l ckMT ckTW ckCL k341 := mt_86 (as := k341_a) (cs := k341_c) (gx := []) (f := 200000) rfl (ckHc (k324_ok l) (ckHc (k340_ok l) (ckHc (k328_ok l) (ckHc (k323_ok l) (ckHc (k328_ok l) (fun _ h => absurd h List.not_mem_nil)))))) True.intro (by decide +kernel)
-- FarMachineModel.test
noncomputable def k342 : ckCtr := (86, ([(0, (1, 0))], [], dC611, dT558, dG540, [], [], [(1, 0, 0, 0, [])], 0, 0), [([], [(0, 21)], dP612, [], [], [(0, 1), (17, 30), (0, 1)], [], [], dZ468, [(1, 0, 0, 0, [])], 0, 0)], 18, 465, 0, 0)
noncomputable def k342_a : ckAs := []
noncomputable def k342_c : List (Nat × ckCtr) := [(3, k324), (10, k341), (23, k328), (28, k323), (75, k328)]
theorem k342_ok (l : Launch) : ckCtrOk l ckMT ckTW ckCL k342 := mt_86 (as := k342_a) (cs := k342_c) (gx := []) (f := 200000) rfl (ckHc (k324_ok l) (ckHc (k341_ok l) (ckHc (k328_ok l) (ckHc (k323_ok l) (ckHc (k328_ok l) (fun _ h => absurd h List.not_mem_nil)))))) True.intro (by decide +kernel)
-- FarMachineModel.test
noncomputable def k343 : ckCtr := (86, ([(0, (1, 0))], [], dC611, dT559, dG540, [], [], [(1, 0, 0, 0, [])], 0, 0), [([], [(0, 21)], dP612, [], [], [(0, 1), (16, 30), (0, 1)], [], [], dZ470, [(1, 0, 0, 0, [])], 0, 0)], 19, 488, 0, 0)
noncomputable def k343_a : ckAs := []
noncomputable def k343_c : List (Nat × ckCtr) := [(3, k324), (10, k342), (23, k328), (28, k323), (75, k328)]
theorem k343_ok (l : Launch) : ckCtrOk l ckMT ckTW ckCL k343 := mt_86 (as := k343_a) (cs := k343_c) (gx := []) (f := 200000) rfl (ckHc (k324_ok l) (ckHc (k342_ok l) (ckHc (k328_ok l) (ckHc (k323_ok l) (ckHc (k328_ok l) (fun _ h => absurd h List.not_mem_nil)))))) True.intro (by decide +kernel)
-- FarMachineModel.test
noncomputable def k344 : ckCtr := (86, ([(0, (1, 0))], [], dC611, dT560, dG540, [], [], [(1, 0, 0, 0, [])], 0, 0), [([], [(0, 21)], dP612, [], [], [(0, 1), (15, 30), (0, 1)], [], [], dZ472, [(1, 0, 0, 0, [])], 0, 0)], 20, 511, 0, 0)
noncomputable def k344_a : ckAs := []
noncomputable def k344_c : List (Nat × ckCtr) := [(3, k324), (10, k343), (23, k328), (28, k323), (75, k328)]
theorem k344_ok (l : Launch) : ckCtrOk l ckMT ckTW ckCL k344 := mt_86 (as := k344_a) (cs := k344_c) (gx := []) (f := 200000) rfl (ckHc (k324_ok l) (ckHc (k343_ok l) (ckHc (k328_ok l) (ckHc (k323_ok l) (ckHc (k328_ok l) (fun _ h => absurd h List.not_mem_nil)))))) True.intro (by decide +kernel)
-- FarMachineModel.test
noncomputable def k345 : ckCtr := (86, ([(0, (1, 0))], [], dC611, dT561, dG540, [], [], [(1, 0, 0, 0, [])], 0, 0), [([], [(0, 21)], dP612, [], [], [(0, 1), (14, 30), (0, 1)], [], [], dZ474, [(1, 0, 0, 0, [])], 0, 0)], 21, 534, 0, 0)
noncomputable def k345_a : ckAs := []
noncomputable def k345_c : List (Nat × ckCtr) := [(3, k324), (10, k344), (23, k328), (28, k323), (75, k328)]
theorem k345_ok (l : Launch) : ckCtrOk l ckMT ckTW ckCL k345 := mt_86 (as := k345_a) (cs := k345_c) (gx := []) (f := 200000) rfl (ckHc (k324_ok l) (ckHc (k344_ok l) (ckHc (k328_ok l) (ckHc (k323_ok l) (ckHc (k328_ok l) (fun _ h => absurd h List.not_mem_nil)))))) True.intro (by decide +kernel)
-- FarMachineModel.test
noncomputable def k346 : ckCtr := (86, ([(0, (1, 0))], [], dC611, dT562, dG540, [], [], [(1, 0, 0, 0, [])], 0, 0), [([], [(0, 21)], dP612, [], [], [(0, 1), (13, 30), (0, 1)], [], [], dZ476, [(1, 0, 0, 0, [])], 0, 0)], 22, 557, 0, 0)
noncomputable def k346_a : ckAs := []
noncomputable def k346_c : List (Nat × ckCtr) := [(3, k324), (10, k345), (23, k328), (28, k323), (75, k328)]
theorem k346_ok (l : Launch) : ckCtrOk l ckMT ckTW ckCL k346 := mt_86 (as := k346_a) (cs := k346_c) (gx := []) (f := 200000) rfl (ckHc (k324_ok l) (ckHc (k345_ok l) (ckHc (k328_ok l) (ckHc (k323_ok l) (ckHc (k328_ok l) (fun _ h => absurd h List.not_mem_nil)))))) True.intro (by decide +kernel)
-- FarMachineModel.test
noncomputable def k347 : ckCtr := (86, ([(0, (1, 0))], [], dC611, dT563, dG540, [], [], [(1, 0, 0, 0, [])], 0, 0), [([], [(0, 21)], dP612, [], [], [(0, 1), (12, 30), (0, 1)], [], [], dZ478, [(1, 0, 0, 0, [])], 0, 0)], 23, 580, 0, 0)
noncomputable def k347_a : ckAs := []
noncomputable def k347_c : List (Nat × ckCtr) := [(3, k324), (10, k346), (23, k328), (28, k323), (75, k328)]
theorem k347_ok (l : Launch) : ckCtrOk l ckMT ckTW ckCL k347 := mt_86 (as := k347_a) (cs := k347_c) (gx := []) (f := 200000) rfl (ckHc (k324_ok l) (ckHc (k346_ok l) (ckHc (k328_ok l) (ckHc (k323_ok l) (ckHc (k328_ok l) (fun _ h => absurd h List.not_mem_nil)))))) True.intro (by decide +kernel)
-- FarMachineModel.test
noncomputable def k348 : ckCtr := (86, ([(0, (1, 0))], [], dC611, dT564, dG540, [], [], [(1, 0, 0, 0, [])], 0, 0), [([], [(0, 21)], dP612, [], [], [(0, 1), (11, 30), (0, 1)], [], [], dZ480, [(1, 0, 0, 0, [])], 0, 0)], 24, 603, 0, 0)
noncomputable def k348_a : ckAs := []
noncomputable def k348_c : List (Nat × ckCtr) := [(3, k324), (10, k347), (23, k328), (28, k323), (75, k328)]
theorem k348_ok (l : Launch) : ckCtrOk l ckMT ckTW ckCL k348 := mt_86 (as := k348_a) (cs := k348_c) (gx := []) (f := 200000) rfl (ckHc (k324_ok l) (ckHc (k347_ok l) (ckHc (k328_ok l) (ckHc (k323_ok l) (ckHc (k328_ok l) (fun _ h => absurd h List.not_mem_nil)))))) True.intro (by decide +kernel)
-- FarMachineModel.test
noncomputable def k349 : ckCtr := (86, ([(0, (1, 0))], [], dC611, dT565, dG540, [], [], [(1, 0, 0, 0, [])], 0, 0), [([], [(0, 21)], dP612, [], [], [(0, 1), (10, 30), (0, 1)], [], [], dZ482, [(1, 0, 0, 0, [])], 0, 0)], 25, 626, 0, 0)
noncomputable def k349_a : ckAs := []
noncomputable def k349_c : List (Nat × ckCtr) := [(3, k324), (10, k348), (23, k328), (28, k323), (75, k328)]
theorem k349_ok (l : Launch) : ckCtrOk l ckMT ckTW ckCL k349 := mt_86 (as := k349_a) (cs := k349_c) (gx := []) (f := 200000) rfl (ckHc (k324_ok l) (ckHc (k348_ok l) (ckHc (k328_ok l) (ckHc (k323_ok l) (ckHc (k328_ok l) (fun _ h => absurd h List.not_mem_nil)))))) True.intro (by decide +kernel)
-- FarMachineModel.test
noncomputable def k350 : ckCtr := (86, ([(0, (1, 0))], [], dC611, dT566, dG540, [], [], [(1, 0, 0, 0, [])], 0, 0), [([], [(0, 21)], dP612, [], [], [(0, 1), (9, 30), (0, 1)], [], [], dZ484, [(1, 0, 0, 0, [])], 0, 0)], 26, 649, 0, 0)
noncomputable def k350_a : ckAs := []
noncomputable def k350_c : List (Nat × ckCtr) := [(3, k324), (10, k349), (23, k328), (28, k323), (75, k328)]
theorem k350_ok (l : Launch) : ckCtrOk l ckMT ckTW ckCL k350 := mt_86 (as := k350_a) (cs := k350_c) (gx := []) (f := 200000) rfl (ckHc (k324_ok l) (ckHc (k349_ok l) (ckHc (k328_ok l) (ckHc (k323_ok l) (ckHc (k328_ok l) (fun _ h => absurd h List.not_mem_nil)))))) True.intro (by decide +kernel)
-- FarMachineModel.test
noncomputable def k351 : ckCtr := (86, ([(0, (1, 0))], [], dC611, dT567, dG540, [], [], [(1, 0, 0, 0, [])], 0, 0), [([], [(0, 21)], dP612, [], [], [(0, 1), (8, 30), (0, 1)], [], [], dZ486, [(1, 0, 0, 0, [])], 0, 0)], 27, 672, 0, 0)
noncomputable def k351_a : ckAs := []
noncomputable def k351_c : List (Nat × ckCtr) := [(3, k324), (10, k350), (23, k328), (28, k323), (75, k328)]
theorem k351_ok (l : Launch) : ckCtrOk l ckMT ckTW ckCL k351 := mt_86 (as := k351_a) (cs := k351_c) (gx := []) (f := 200000) rfl (ckHc (k324_ok l) (ckHc (k350_ok l) (ckHc (k328_ok l) (ckHc (k323_ok l) (ckHc (k328_ok l) (fun _ h => absurd h List.not_mem_nil)))))) True.intro (by decide +kernel)
-- FarMachineModel.test
noncomputable def k352 : ckCtr := (86, ([(0, (1, 0))], [], dC611, dT568, dG540, [], [], [(1, 0, 0, 0, [])], 0, 0), [([], [(0, 21)], dP612, [], [], [(0, 1), (7, 30), (0, 1)], [], [], dZ488, [(1, 0, 0, 0, [])], 0, 0)], 28, 695, 0, 0)
noncomputable def k352_a : ckAs := []
noncomputable def k352_c : List (Nat × ckCtr) := [(3, k324), (10, k351), (23, k328), (28, k323), (75, k328)]
theorem k352_ok (l : Launch) : ckCtrOk l ckMT ckTW ckCL k352 := mt_86 (as := k352_a) (cs := k352_c) (gx := []) (f := 200000) rfl (ckHc (k324_ok l) (ckHc (k351_ok l) (ckHc (k328_ok l) (ckHc (k323_ok l) (ckHc (k328_ok l) (fun _ h => absurd h List.not_mem_nil)))))) True.intro (by decide +kernel)
-- FarMachineModel.test
noncomputable def k353 : ckCtr := (86, ([(0, (1, 0))], [], dC611, dT569, dG540, [], [], [(1, 0, 0, 0, [])], 0, 0), [([], [(0, 21)], dP612, [], [], [(0, 1), (6, 30), (0, 1)], [], [], dZ490, [(1, 0, 0, 0, [])], 0, 0)], 29, 718, 0, 0)
noncomputable def k353_a : ckAs := []
noncomputable def k353_c : List (Nat × ckCtr) := [(3, k324), (10, k352), (23, k328), (28, k323), (75, k328)]
theorem k353_ok (l : Launch) : ckCtrOk l ckMT ckTW ckCL k353 := mt_86 (as := k353_a) (cs := k353_c) (gx := []) (f := 200000) rfl (ckHc (k324_ok l) (ckHc (k352_ok l) (ckHc (k328_ok l) (ckHc (k323_ok l) (ckHc (k328_ok l) (fun _ h => absurd h List.not_mem_nil)))))) True.intro (by decide +kernel)
-- FarMachineModel.test
noncomputable def k354 : ckCtr := (86, ([(0, (1, 0))], [], dC611, dT570, dG540, [], [], [(1, 0, 0, 0, [])], 0, 0), [([], [(0, 21)], dP612, [], [], [(0, 1), (5, 30), (0, 1)], [], [], dZ492, [(1, 0, 0, 0, [])], 0, 0)], 30, 741, 0, 0)
noncomputable def k354_a : ckAs := []
noncomputable def k354_c : List (Nat × ckCtr) := [(3, k324), (10, k353), (23, k328), (28, k323), (75, k328)]
theorem k354_ok (l : Launch) : ckCtrOk l ckMT ckTW ckCL k354 := mt_86 (as := k354_a) (cs := k354_c) (gx := []) (f := 200000) rfl (ckHc (k324_ok l) (ckHc (k353_ok l) (ckHc (k328_ok l) (ckHc (k323_ok l) (ckHc (k328_ok l) (fun _ h => absurd h List.not_mem_nil)))))) True.intro (by decide +kernel)
-- FarMachineModel.test
noncomputable def k355 : ckCtr := (86, ([(0, (1, 0))], [], dC611, dT571, dG540, [], [], [(1, 0, 0, 0, [])], 0, 0), [([], [(0, 21)], dP612, [], [], [(0, 1), (4, 30), (0, 1)], [], [], dZ494, [(1, 0, 0, 0, [])], 0, 0)], 31, 764, 0, 0)
noncomputable def k355_a : ckAs := []
noncomputable def k355_c : List (Nat × ckCtr) := [(3, k324), (10, k354), (23, k328), (28, k323), (75, k328)]
theorem k355_ok (l : Launch) : ckCtrOk l ckMT ckTW ckCL k355 := mt_86 (as := k355_a) (cs := k355_c) (gx := []) (f := 200000) rfl (ckHc (k324_ok l) (ckHc (k354_ok l) (ckHc (k328_ok l) (ckHc (k323_ok l) (ckHc (k328_ok l) (fun _ h => absurd h List.not_mem_nil)))))) True.intro (by decide +kernel)
-- FarMachineModel.test
noncomputable def k356 : ckCtr := (86, ([(0, (1, 0))], [], dC611, dT572, dG540, [], [], [(1, 0, 0, 0, [])], 0, 0), [([], [(0, 21)], dP612, [], [], [(0, 1), (3, 30), (0, 1)], [], [], dZ496, [(1, 0, 0, 0, [])], 0, 0)], 32, 787, 0, 0)
noncomputable def k356_a : ckAs := []
noncomputable def k356_c : List (Nat × ckCtr) := [(3, k324), (10, k355), (23, k328), (28, k323), (75, k328)]
theorem k356_ok (l : Launch) : ckCtrOk l ckMT ckTW ckCL k356 := mt_86 (as := k356_a) (cs := k356_c) (gx := []) (f := 200000) rfl (ckHc (k324_ok l) (ckHc (k355_ok l) (ckHc (k328_ok l) (ckHc (k323_ok l) (ckHc (k328_ok l) (fun _ h => absurd h List.not_mem_nil)))))) True.intro (by decide +kernel)
-- FarMachineModel.test
noncomputable def k357 : ckCtr := (86, ([(0, (1, 0))], [], dC611, dT573, dG540, [], [], [(1, 0, 0, 0, [])], 0, 0), [([], [(0, 21)], dP612, [], [], [(0, 1), (2, 30), (0, 1)], [], [], dZ498, [(1, 0, 0, 0, [])], 0, 0)], 33, 810, 0, 0)
noncomputable def k357_a : ckAs := []
noncomputable def k357_c : List (Nat × ckCtr) := [(3, k324), (10, k356), (23, k328), (28, k323), (75, k328)]
theorem k357_ok (l : Launch) : ckCtrOk l ckMT ckTW ckCL k357 := mt_86 (as := k357_a) (cs := k357_c) (gx := []) (f := 200000) rfl (ckHc (k324_ok l) (ckHc (k356_ok l) (ckHc (k328_ok l) (ckHc (k323_ok l) (ckHc (k328_ok l) (fun _ h => absurd h List.not_mem_nil)))))) True.intro (by decide +kernel)
-- FarMachineModel.test
noncomputable def k358 : ckCtr := (86, ([(0, (1, 0))], [], dC611, dT574, dG540, [], [], [(1, 0, 0, 0, [])], 0, 0), [([], [(0, 21)], dP612, [], [], [(0, 1), (1, 30), (0, 1)], [], [], dZ500, [(1, 0, 0, 0, [])], 0, 0)], 34, 833, 0, 0)
noncomputable def k358_a : ckAs := []
noncomputable def k358_c : List (Nat × ckCtr) := [(3, k324), (10, k357), (23, k328), (28, k323), (75, k328)]
theorem k358_ok (l : Launch) : ckCtrOk l ckMT ckTW ckCL k358 := mt_86 (as := k358_a) (cs := k358_c) (gx := []) (f := 200000) rfl (ckHc (k324_ok l) (ckHc (k357_ok l) (ckHc (k328_ok l) (ckHc (k323_ok l) (ckHc (k328_ok l) (fun _ h => absurd h List.not_mem_nil)))))) True.intro (by decide +kernel)
-- FarMachineModel.test
noncomputable def k359 : ckCtr := (86, ([(0, (1, 0))], [], dC611, dT539, dG540, [], [], [(1, 0, 0, 0, [])], 0, 0), [([], [(0, 21)], dP612, [], [], [(0, 1), (0, 30), (0, 1)], [], [], dZ501, [(1, 0, 0, 0, [])], 0, 0)], 35, 856, 0, 0)
noncomputable def k359_a : ckAs := []
noncomputable def k359_c : List (Nat × ckCtr) := [(3, k324), (10, k358), (23, k328), (28, k323), (75, k328)]
theorem k359_ok (l : Launch) : ckCtrOk l ckMT ckTW ckCL k359 := mt_86 (as := k359_a) (cs := k359_c) (gx := []) (f := 200000) rfl (ckHc (k324_ok l) (ckHc (k358_ok l) (ckHc (k328_ok l) (ckHc (k323_ok l) (ckHc (k328_ok l) (fun _ h => absurd h List.not_mem_nil)))))) True.intro (by decide +kernel)
-- FarMachineModel.takes
noncomputable def k360 : ckCtr := (84, ([(0, (1, 0)), (1, (0, 0))], [], dC606, dT575, [([(300, ckTop)], [], [])], [], [], [], 0, 0), [([], [(0, 21)], [], [], [], [(0, 0)], [], [], [], [], 0, 0), ([], [(0, 21)], dP607, [], [(14, (0, 29)), (16, (1, 30)), (17, (1, 1))], [(1, 1), (1, 30)], [], [], [(14, 16, (-1)), (14, 22, (-1)), (22, 14, 1), (22, 16, 0)], [], 0, 0)], 2, 100, 0, 0)
noncomputable def k360_a : ckAs := []
noncomputable def k360_c : List (Nat × ckCtr) := [(8, k323)]
theorem k360_ok (l : Launch) : ckCtrOk l ckMT ckTW ckCL k360 := mt_84 (as := k360_a) (cs := k360_c) (gx := []) (f := 200000) rfl (ckHc (k323_ok l) (fun _ h => absurd h List.not_mem_nil)) True.intro (by decide +kernel)
noncomputable def dP616 : List (Nat × ckC) := [(0, .inl (9, [(4, 10), (4, 11), (4, 12), (4, 13), (1, 1), (4, 14), (4, 15), (4, 16), (4, 17), (4, 18), (4, 19), (4, 20), (4, 21), (4, 22), (1, 2), (4, 23), (0, 0), (0, 1), (0, 2), (0, 3), (0, 4), (0, 5), (0, 6), (4, 24), (0, 7), (4, 25), (0, 8), (0, 9), (0, 10), (0, 11), (4, 26), (0, 12), (0, 25), (0, 14), (0, 15), (1, 2), (1, 1), (0, 26), (4, 27), (4, 28), (0, 17), (0, 18)]))]
-- FarMachineModel.and
noncomputable def k361 : ckCtr := (85, ([(0, (1, 0))], [], dC611, dT576, dG540, [], [], [(1, 0, 0, 0, [])], 0, 0), [([], [(0, 21)], dP612, [], [], [(0, 1), (0, 30), (0, 1)], [], [], dZ504, [(1, 0, 0, 0, [])], 0, 0)], 36, 879, 0, 0)
noncomputable def k361_a : ckAs := [(5, [(274191, [(1, 0, 1, ([(0, (1, 0)), (1, (0, 24))], [], dP616, [], [], [(0, 1), (0, 30), (0, 1)], [], [], dZ506, [(1, 0, 0, 0, [])], 0, 0))])])]
noncomputable def k361_c : List (Nat × ckCtr) := [(1, k359), (8, k360), (15, k358)]
theorem k361_ok (l : Launch) : ckCtrOk l ckMT ckTW ckCL k361 := mt_85 (as := k361_a) (cs := k361_c) (gx := []) (f := 200000) rfl (ckHc (k359_ok l) (ckHc (k360_ok l) (ckHc (k358_ok l) (fun _ h => absurd h List.not_mem_nil)))) True.intro (by decide +kernel)
noncomputable def dC617 : List ckC := [.inl (9, [(4, 10), (4, 11), (4, 12), (4, 13), (1, 2), (4, 14), (4, 15), (4, 16), (4, 17), (4, 18), (4, 19), (4, 20), (4, 21), (4, 22), (1, 1), (4, 23), (0, 2), (0, 3), (0, 4), (0, 5), (0, 6), (0, 7), (0, 8), (4, 24), (0, 9), (4, 25), (0, 10), (0, 11), (0, 12), (0, 13), (4, 26), (0, 14), (0, 15), (0, 16), (0, 17), (5, 0), (5, 0), (0, 18), (4, 27), (4, 28), (0, 19), (0, 20)]), .inr (0, 21, 0), .inr (0, 22, 1)]
noncomputable def dP618 : List (Nat × ckC) := [(0, .inl (9, [(4, 10), (4, 11), (4, 12), (4, 13), (1, 2), (4, 14), (4, 15), (4, 16), (4, 17), (4, 18), (4, 19), (4, 20), (4, 21), (4, 22), (1, 1), (4, 23), (0, 2), (0, 3), (0, 4), (0, 5), (0, 6), (0, 7), (0, 8), (4, 24), (0, 9), (4, 25), (0, 10), (0, 11), (0, 12), (0, 13), (4, 26), (0, 14), (0, 24), (0, 0), (0, 1), (1, 1), (1, 2), (0, 25), (4, 27), (4, 28), (0, 19), (0, 20)]))]
-- FarMachineModel.goesThrough
noncomputable def k362 : ckCtr := (90, ([(0, (1, 0)), (1, (1, 1)), (2, (0, 0)), (3, (0, 1)), (4, (1, 2))], [], dC617, dT579, dG580, [], [], [(1, 1, 0, 0, [])], 0, 0), [([], [(0, 23)], dP618, [], [], [(0, 1), (0, 30), (0, 1)], [], [], [(23, 1, 0), (23, 24, 0), (25, 1, 0), (25, 24, 0)], [(1, 1, 0, 0, [])], 0, 0)], 37, 901, 0, 0)
noncomputable def k362_a : ckAs := []
noncomputable def k362_c : List (Nat × ckCtr) := [(32, k361)]
theorem k362_ok (l : Launch) : ckCtrOk l ckMT ckTW ckCL k362 := mt_90 (as := k362_a) (cs := k362_c) (gx := []) (f := 200000) rfl (ckHc (k361_ok l) (fun _ h => absurd h List.not_mem_nil)) True.intro (by decide +kernel)
noncomputable def dC619 : List ckC := [.inl (9, [(4, 10), (4, 11), (4, 12), (4, 13), (1, 1), (4, 14), (4, 15), (4, 16), (4, 17), (4, 18), (4, 19), (4, 20), (4, 21), (4, 22), (1, 2), (1, 3), (0, 1), (0, 2), (0, 3), (0, 4), (0, 5), (0, 6), (0, 7), (4, 23), (0, 8), (4, 24), (0, 9), (0, 10), (0, 11), (0, 12), (4, 25), (0, 13), (0, 14), (0, 15), (0, 16), (5, 0), (5, 0), (0, 17), (4, 26), (4, 27), (0, 18), (0, 19)]), .inr (0, 20, 0), .inr (0, 21, 1), .inr (0, 22, 2)]
noncomputable def dP620 : List (Nat × ckC) := [(0, .inl (9, [(4, 10), (4, 11), (4, 12), (4, 13), (1, 1), (4, 14), (4, 15), (4, 16), (4, 17), (4, 18), (4, 19), (4, 20), (4, 21), (4, 22), (1, 2), (1, 3), (0, 1), (0, 2), (0, 3), (0, 4), (0, 5), (0, 6), (0, 7), (4, 23), (0, 8), (4, 24), (0, 9), (0, 10), (0, 11), (0, 12), (4, 25), (0, 13), (0, 24), (0, 25), (0, 26), (1, 2), (1, 1), (0, 27), (4, 26), (4, 27), (0, 18), (0, 19)]))]
-- FarMachineModel.isSo
noncomputable def k363 : ckCtr := (92, ([(0, (1, 0)), (1, (0, 0)), (2, (1, 1))], [], dC619, dT583, dG584, [], [], [(1, 0, 0, 0, [])], 0, 0), [([], [(0, 23)], dP620, [], [], [(0, 1), (0, 30), (0, 270), (0, 30), (0, 1)], [], [], [(23, 24, 0), (23, 26, 0), (27, 24, 0), (27, 26, 0)], [(1, 0, 0, 0, [])], 0, 0)], 38, 925, 0, 0)
noncomputable def k363_a : ckAs := []
noncomputable def k363_c : List (Nat × ckCtr) := [(16, k362)]
theorem k363_ok (l : Launch) : ckCtrOk l ckMT ckTW ckCL k363 := mt_92 (as := k363_a) (cs := k363_c) (gx := []) (f := 200000) rfl (ckHc (k362_ok l) (fun _ h => absurd h List.not_mem_nil)) True.intro (by decide +kernel)
noncomputable def dC621 : List ckC := [.inl (9, [(4, 10), (4, 11), (4, 12), (4, 13), (1, 1), (4, 14), (4, 15), (4, 16), (4, 17), (4, 18), (4, 19), (4, 20), (4, 21), (4, 22), (1, 2), (1, 3), (0, 1), (0, 2), (0, 3), (0, 4), (0, 5), (0, 6), (0, 7), (1, 4), (0, 8), (4, 23), (0, 9), (0, 10), (0, 11), (0, 12), (4, 24), (0, 13), (0, 14), (0, 15), (0, 16), (5, 0), (5, 0), (0, 17), (4, 25), (4, 26), (0, 18), (0, 19)]), .inr (0, 20, 0), .inr (0, 21, 1), .inr (0, 22, 2), .inr (0, 23, 3)]
noncomputable def dT622 : List ckI := [(1, 60), (0, 1), (0, 1), (0, 8), (0, 40), (0, 6), (0, 8), (0, 10), (0, 0), ckTop, ckTop, ckTop, ckTop, (0, 30), ckTop, ckTop, ckTop, (0, 1), ckTop, (0, 1), (318, 318), (300, 300), (10, 10), (64, 64), (1, 99)]
noncomputable def dG623 : List ckG := [([(48, ckTop), (49, (0, 47)), (55, ckTop), (56, ckTop), (58, ckTop), (59, ckTop), (60, ckTop), (61, ckTop), (62, ckTop), (63, ckTop), (64, ckTop), (65, ckTop), (66, ckTop), (67, ckTop), (68, ckTop), (76, ckTop), (77, (0, 30)), (197, ckTop), (198, (0, 60)), (318, ckTop)], [(55, 24)], []), ([(300, ckTop)], [], []), ([(10, (0, 30))], [], []), ([(64, ckTop)], [], [])]
noncomputable def dP624 : List (Nat × ckC) := [(0, .inl (9, [(4, 10), (4, 11), (4, 12), (4, 13), (1, 1), (4, 14), (4, 15), (4, 16), (4, 17), (4, 18), (4, 19), (4, 20), (4, 21), (4, 22), (1, 2), (1, 3), (0, 1), (0, 2), (0, 3), (0, 4), (0, 5), (0, 6), (0, 7), (1, 4), (0, 26), (4, 23), (0, 9), (0, 10), (0, 11), (0, 12), (4, 24), (0, 13), (0, 27), (0, 28), (0, 29), (5, 0), (5, 0), (0, 30), (4, 25), (4, 26), (0, 18), (0, 19)])), (1, .inr (0, 20, 4)), (4, .inr (0, 23, 5))]
noncomputable def dG625 : List ckG := [([(48, ckTop), (49, (0, 47)), (50, ckTop), (51, ckTop), (52, ckTop), (53, ckTop), (54, ckTop), (55, ckTop), (56, ckTop), (58, ckTop), (59, ckTop), (60, ckTop), (61, ckTop), (62, ckTop), (63, ckTop), (64, ckTop), (65, ckTop), (66, ckTop), (67, ckTop), (68, ckTop), (69, ckTop), (76, ckTop), (77, (0, 30)), (78, ckTop), (79, ckTop), (80, ckTop), (81, ckTop), (197, ckTop), (198, (0, 60)), (318, ckTop)], [(55, 24)], []), ([(64, ckTop)], [], [])]
noncomputable def dP626 : List (Nat × ckC) := [(0, .inl (9, [(4, 10), (4, 11), (4, 12), (4, 13), (1, 1), (4, 14), (4, 15), (4, 16), (4, 17), (4, 18), (4, 19), (4, 20), (4, 21), (4, 22), (1, 2), (1, 3), (0, 1), (0, 2), (0, 3), (0, 4), (0, 5), (0, 6), (0, 7), (1, 4), (0, 29), (4, 23), (0, 9), (0, 10), (0, 11), (0, 12), (4, 24), (0, 13), (0, 30), (0, 31), (0, 32), (5, 0), (5, 0), (0, 33), (4, 25), (4, 26), (0, 18), (0, 19)])), (1, .inr (0, 20, 4)), (4, .inr (0, 23, 5))]
noncomputable def dT627 : List ckI := [(-9, 65535), (0, 60), (0, 60), ckTop, ckTop, ckTop, (0, 1)]
noncomputable def dZ628 : List ckZ := [(27, 0, 65533), (27, 28, 65533), (28, 0, 0), (29, 0, 0), (29, 28, 0)]
noncomputable def dP629 : List (Nat × ckC) := [(0, .inl (9, [(4, 10), (4, 11), (4, 12), (4, 13), (1, 1), (4, 14), (4, 15), (4, 16), (4, 17), (4, 18), (4, 19), (4, 20), (4, 21), (4, 22), (1, 2), (1, 3), (0, 1), (0, 2), (0, 3), (0, 4), (0, 5), (0, 6), (0, 7), (1, 4), (0, 34), (4, 23), (0, 9), (0, 10), (0, 11), (0, 12), (4, 24), (0, 13), (0, 41), (0, 42), (0, 43), (5, 0), (5, 0), (0, 44), (4, 25), (4, 26), (0, 18), (0, 19)]))]
noncomputable def dZ630 : List ckZ := [(27, 0, 65532), (27, 28, 65533), (28, 0, (-1)), (34, 0, 0), (34, 28, 1), (39, 0, 65532), (39, 27, 5918), (39, 28, 65533), (40, 7, 0)]
-- FarMachineModel.brokenIn
noncomputable def k364 : ckCtr := (94, ([(0, (1, 0)), (1, (1, 1)), (2, (0, 0))], [], dC621, dT622, dG623, [], [], [(1, 0, 0, 0, [])], 0, 0), [([], [(0, 25)], dP624, [], [], [(-9, 65535), (0, 60), ckTop, ckTop, ckTop, (0, 1)], dG625, [], [(25, 0, 65533), (26, 0, 0)], [(1, 0, 0, 0, []), (1, 4, 0, 0, [])], 0, 0)], 39, 947, 0, 0)
noncomputable def k364_a : ckAs := [(6, [(437492, [(1, 0, 1, ([(0, (1, 0)), (1, (1, 1)), (2, (0, 0)), (3, (0, 27)), (4, (0, 28))], [], dP626, [], [], dT627, dG625, [], dZ628, [(1, 0, 0, 0, []), (1, 4, 0, 0, [])], 0, 0))])]), (20, [(841260, [(1, 0, 1, ([(0, (1, 0)), (1, (1, 1)), (2, (0, 0)), (3, (0, 39)), (4, (0, 28)), (5, (0, 40))], [], dP629, [], [(29, (0, 59)), (34, (0, 61))], [(-9, 65535), (0, 10), ckTop, ckTop, ckTop, (0, 1)], [], [], dZ630, [(1, 6, 0, 0, []), (1, 4, 0, 0, []), (1, 0, 0, 0, [])], 0, 0))])])]
noncomputable def k364_c : List (Nat × ckCtr) := [(14, k187), (37, k363)]
theorem k364_ok (l : Launch) : ckCtrOk l ckMT ckTW ckCL k364 := mt_94 (as := k364_a) (cs := k364_c) (gx := []) (f := 200000) rfl (ckHc (k187_ok l) (ckHc (k363_ok l) (fun _ h => absurd h List.not_mem_nil))) True.intro (by decide +kernel)
noncomputable def dC631 : List ckC := [.inl (9, [(1, 1), (4, 10), (1, 2), (4, 11), (1, 3), (4, 12), (1, 4), (1, 5), (4, 13), (4, 14), (4, 15), (4, 16), (4, 17), (4, 18), (1, 6), (1, 7), (0, 2), (0, 3), (0, 4), (0, 5), (0, 6), (0, 7), (0, 8), (1, 8), (0, 9), (4, 19), (0, 10), (0, 11), (0, 12), (0, 13), (4, 20), (0, 14), (0, 15), (0, 16), (0, 17), (5, 0), (5, 0), (0, 18), (4, 21), (4, 22), (0, 19), (0, 20)]), .inr (0, 21, 0), .inr (0, 22, 1), .inr (0, 22, 2), .inr (0, 23, 3), .inr (0, 23, 4), .inr (0, 24, 5), .inr (0, 25, 6), .inr (0, 26, 7)]
noncomputable def dT632 : List ckI := [ckTop, ckTop, (0, 1), (0, 1), (0, 8), (0, 40), (0, 6), (0, 8), (0, 10), (0, 126000), ckTop, ckTop, ckTop, ckTop, (0, 30), ckTop, ckTop, ckTop, (0, 1), ckTop, (0, 1), (7, 7), (318, 318), (8, 8), (300, 300), (10, 10), (64, 64), (0, 99), (0, 126000)]
noncomputable def dG633 : List ckG := [([(7, ckTop)], [], []), ([(48, ckTop), (49, (0, 47)), (55, ckTop), (56, ckTop), (58, ckTop), (59, ckTop), (60, ckTop), (61, ckTop), (62, ckTop), (63, ckTop), (64, ckTop), (65, ckTop), (66, ckTop), (67, ckTop), (68, ckTop), (76, ckTop), (77, (0, 30)), (197, ckTop), (198, (0, 60)), (318, ckTop)], [(55, 27), (58, 28)], []), ([(318, ckTop)], [], []), ([(8, (0, 47))], [], []), ([(8, ckTop)], [], []), ([(300, ckTop)], [], []), ([(10, (0, 30))], [], []), ([(64, ckTop)], [], [])]
noncomputable def dP634 : List (Nat × ckC) := [(0, .inl (9, [(1, 1), (4, 10), (1, 2), (4, 11), (1, 3), (4, 12), (1, 4), (1, 5), (4, 13), (4, 14), (4, 15), (4, 16), (4, 17), (4, 18), (1, 6), (1, 7), (0, 2), (0, 3), (0, 4), (0, 5), (0, 6), (0, 7), (0, 8), (1, 8), (0, 30), (4, 19), (0, 10), (0, 11), (0, 12), (0, 13), (4, 20), (0, 14), (0, 31), (0, 32), (0, 33), (5, 0), (5, 0), (0, 34), (4, 21), (4, 22), (0, 19), (0, 20)])), (3, .inr (0, 22, 8)), (8, .inr (0, 26, 9))]
noncomputable def dG635 : List ckG := [([(48, ckTop), (49, (0, 47)), (50, ckTop), (51, ckTop), (52, ckTop), (53, ckTop), (54, ckTop), (55, ckTop), (56, ckTop), (58, ckTop), (59, ckTop), (60, ckTop), (61, ckTop), (62, ckTop), (63, ckTop), (64, ckTop), (65, ckTop), (66, ckTop), (67, ckTop), (68, ckTop), (69, ckTop), (76, ckTop), (77, (0, 30)), (78, ckTop), (79, ckTop), (80, ckTop), (81, ckTop), (197, ckTop), (198, (0, 60)), (318, ckTop)], [(55, 27)], []), ([(64, ckTop)], [], [])]
-- FarMachineModel.broken
noncomputable def k365 : ckCtr := (95, ([(0, (1, 0)), (1, (0, 0)), (2, (0, 1))], [], dC631, dT632, dG633, [], [], [(0, 2, 27, 0, [1, 1, 99]), (1, 1, 0, 0, [])], 0, 0), [([], [(0, 29)], [(1, .inr (0, 21, 8))], [], [(0, (1, 2147483647))], [(-1, -1), ckTop], [([(1, ckTop), (2, ckTop), (7, ckTop)], [(1, 30)], [])], [], [], [(0, 2, 27, 0, [1, 1, 99]), (1, 1, 0, 0, [])], 0, 0), ([], [(0, 29)], [(1, .inr (0, 21, 8))], [], [(0, (-2147483648, -1))], [(-1, -1), ckTop], [([(1, ckTop), (2, ckTop), (7, ckTop)], [(1, 30)], [])], [], [], [(0, 2, 27, 0, [1, 1, 99]), (1, 1, 0, 0, [])], 0, 0), ([], [(0, 29)], [(1, .inr (0, 21, 8))], [], [(0, (0, 255)), (1, (61, 2147483647))], [(-6, -6), ckTop], [([(6, ckTop), (7, ckTop)], [(6, 30)], [])], [], [], [(0, 2, 27, 0, [1, 1, 99]), (1, 1, 0, 0, [])], 0, 0), ([], [(0, 29)], [(1, .inr (0, 21, 8))], [], [(0, (0, 255)), (1, (1, 60)), (2, (0, 0))], [(-3, -3), ckTop], [([(3, ckTop), (4, ckTop), (7, ckTop)], [(3, 30)], [])], [], [], [(0, 2, 27, 0, [1, 1, 99]), (1, 1, 0, 0, [])], 0, 0), ([], [(0, 29)], dP634, [], [(0, (0, 255)), (1, (1, 60)), (2, (1, 1)), (27, (1, 99))], [(-9, 65535), (0, 60), ckTop, ckTop, ckTop, (0, 1)], dG635, [], [(29, 1, 65533), (30, 1, 0)], [(1, 8, 0, 0, []), (0, 2, 27, 0, [1, 1, 99]), (1, 1, 0, 0, [])], 0, 0), ([], [(0, 29)], [(1, .inr (0, 21, 8))], [], [(0, (0, 255)), (1, (-2147483648, 0))], [(-4, -4), ckTop], [([(4, ckTop), (5, ckTop), (7, ckTop)], [(4, 30)], [])], [], [], [(0, 2, 27, 0, [1, 1, 99]), (1, 1, 0, 0, [])], 0, 0)], 40, 972, 0, 0)
noncomputable def k365_a : ckAs := [(49, [(186135, [(5, 0, 0, ([], [], [], [], [], [], [], [], [], [(0, 0, 0, 0, [2, 27, 1, 1, 99])], 0, 0))])])]
noncomputable def k365_c : List (Nat × ckCtr) := [(7, k171), (17, k172), (45, k22), (45, k23), (45, k173), (45, k24), (51, k174), (60, k364)]
theorem k365_ok (l : Launch) : ckCtrOk l ckMT ckTW ckCL k365 := mt_95 (as := k365_a) (cs := k365_c) (gx := []) (f := 200000) rfl (ckHc (k171_ok l) (ckHc (k172_ok l) (ckHc (k22_ok l) (ckHc (k23_ok l) (ckHc (k173_ok l) (ckHc (k24_ok l) (ckHc (k174_ok l) (ckHc (k364_ok l) (fun _ h => absurd h List.not_mem_nil))))))))) True.intro (by decide +kernel)
-- FarMachine$Commands.isFull
noncomputable def k366 : ckCtr := (118, ([(0, (1, 0))], [], dC225, [ckTop, (6, 6)], [([(6, ckTop)], [], [])], [], [], [], 0, 0), [([], [(0, 2)], [], [], [(0, (6, 2147483647))], [(1, 1)], [], [], [], [], 0, 0), ([], [(0, 2)], [], [], [(0, (-2147483648, 5))], [(0, 0)], [], [], [], [], 0, 0)], 1, 80, 0, 0)
noncomputable def k366_a : ckAs := []
noncomputable def k366_c : List (Nat × ckCtr) := []
theorem k366_ok (l : Launch) : ckCtrOk l ckMT ckTW ckCL k366 := mt_118 (as := k366_a) (cs := k366_c) (gx := []) (f := 200000) rfl (fun _ h => absurd h List.not_mem_nil) True.intro (by decide +kernel)
noncomputable def dG636 : List ckG := [([(6, ckTop)], [], []), ([(6, ckTop)], [], []), ([(6, ckTop)], [], []), ([(6, ckTop)], [], [])]
-- FarMachine$Commands.add
noncomputable def k367 : ckCtr := (120, ([(0, (1, 0)), (1, (0, 0)), (2, (0, 1)), (3, (0, 2)), (4, (0, 3))], [], dC151, [ckTop, ckTop, ckTop, ckTop, ckTop, (6, 6)], dG636, [], [], [], 0, 0), [([], [], dP153, [], [(4, (0, 5))], [(1, 6)], dG636, [], [(4, 6, (-1)), (6, 4, 1)], [], 0, 0), ([], [], [], [], [(4, (6, 2147483647))], [], [], [], [], [], 0, 0), ([], [], [], [], [(4, (-2147483648, -1))], [], [], [], [], [], 0, 0)], 1, 80, 0, 0)
noncomputable def k367_a : ckAs := []
noncomputable def k367_c : List (Nat × ckCtr) := []
theorem k367_ok (l : Launch) : ckCtrOk l ckMT ckTW ckCL k367 := mt_120 (as := k367_a) (cs := k367_c) (gx := []) (f := 200000) rfl (fun _ h => absurd h List.not_mem_nil) True.intro (by decide +kernel)
noncomputable def dC637 : List ckC := [.inl (8, [(1, 1), (4, 10), (0, 3), (4, 11), (4, 12), (4, 13), (4, 14), (1, 2)]), .inl (7, [(4, 15), (4, 16), (0, 4), (4, 17), (4, 18), (4, 19), (4, 20), (4, 21), (1, 3), (4, 22)]), .inr (0, 5, 0), .inl (1, [(1, 4), (1, 5), (1, 6), (1, 7), (0, 6)]), .inr (0, 7, 1), .inr (0, 7, 2), .inr (0, 7, 3), .inr (0, 7, 4)]
noncomputable def dT638 : List ckI := [ckTop, ckTop, ckTop, (0, 1), (0, 1), (7, 7), ckTop, (6, 6)]
noncomputable def dG639 : List ckG := [([(7, ckTop)], [], []), ([(6, ckTop)], [], []), ([(6, ckTop)], [], []), ([(6, ckTop)], [], []), ([(6, ckTop)], [], [])]
noncomputable def dP640 : List (Nat × ckC) := [(2, .inr (0, 5, 5)), (3, .inl (1, [(1, 4), (1, 5), (1, 6), (1, 7), (0, 9)])), (4, .inr (0, 7, 6)), (5, .inr (0, 7, 7)), (6, .inr (0, 7, 8)), (7, .inr (0, 7, 9))]
-- FarMachine.ask
noncomputable def k368 : ckCtr := (21, ([(0, (1, 0)), (1, (0, 0)), (2, (0, 1)), (3, (0, 2))], [], dC637, dT638, dG639, [], [], [], 0, 0), [([], [(0, 8)], dP640, [], [], [ckTop, ckTop], dG639, [], [(6, 9, 0), (9, 6, 1)], [], 0, 0)], 3, 124, 0, 0)
noncomputable def k368_a : ckAs := []
noncomputable def k368_c : List (Nat × ckCtr) := [(10, k366), (13, k128), (26, k129), (41, k367)]
theorem k368_ok (l : Launch) : ckCtrOk l ckMT ckTW ckCL k368 := mt_21 (as := k368_a) (cs := k368_c) (gx := []) (f := 200000) rfl (ckHc (k366_ok l) (ckHc (k128_ok l) (ckHc (k129_ok l) (ckHc (k367_ok l) (fun _ h => absurd h List.not_mem_nil))))) True.intro (by decide +kernel)
noncomputable def dC641 : List ckC := [.inl (9, [(1, 1), (4, 10), (4, 11), (4, 12), (4, 13), (4, 14), (4, 15), (4, 16), (4, 17), (1, 2), (1, 3), (1, 4), (4, 18), (4, 19), (4, 20), (4, 21), (0, 3), (0, 4), (0, 5), (0, 6), (0, 7), (0, 8), (0, 9), (4, 22), (0, 10), (4, 23), (0, 11), (0, 12), (0, 13), (0, 14), (4, 24), (0, 15), (0, 16), (0, 17), (0, 18), (5, 0), (5, 0), (0, 19), (4, 25), (4, 26), (0, 20), (0, 21)]), .inr (0, 22, 0), .inr (0, 23, 1), .inr (0, 23, 2), .inr (0, 23, 3)]
noncomputable def dT642 : List ckI := [ckTop, ckTop, ckTop, (0, 1), (0, 1), (0, 8), (0, 40), (0, 6), (0, 8), (0, 10), (0, 126000), ckTop, ckTop, ckTop, ckTop, (0, 30), ckTop, ckTop, ckTop, (0, 1), ckTop, (0, 1), (7, 7), (6, 6)]
noncomputable def dG643 : List ckG := [([(7, ckTop)], [], []), ([(6, ckTop)], [], []), ([(6, ckTop)], [], []), ([(6, ckTop)], [], [])]
noncomputable def dP644 : List (Nat × ckC) := [(0, .inl (9, [(1, 1), (4, 10), (4, 11), (4, 12), (4, 13), (4, 14), (4, 15), (4, 16), (4, 17), (1, 2), (1, 3), (1, 4), (4, 18), (4, 19), (4, 20), (4, 21), (0, 3), (0, 4), (0, 5), (0, 6), (0, 25), (0, 8), (0, 9), (4, 22), (0, 10), (4, 23), (0, 11), (0, 12), (0, 13), (0, 14), (4, 24), (0, 15), (0, 16), (0, 17), (0, 18), (5, 0), (5, 0), (0, 19), (4, 25), (4, 26), (0, 20), (0, 21)])), (1, .inr (0, 22, 4)), (2, .inr (0, 23, 5)), (3, .inr (0, 23, 6)), (4, .inr (0, 23, 7))]
noncomputable def dG645 : List ckG := [([(1, ckTop), (2, ckTop), (3, ckTop), (4, ckTop), (5, ckTop), (6, ckTop), (7, ckTop)], [], []), ([(6, ckTop)], [], []), ([(6, ckTop)], [], []), ([(6, ckTop)], [], [])]
-- FarMachineModel.ask
noncomputable def k369 : ckCtr := (96, ([(0, (1, 0)), (1, (0, 0)), (2, (0, 1)), (3, (0, 2))], [], dC641, dT642, dG643, [], [], [(2, 1, 2, 3, [])], 0, 0), [([], [(0, 24)], dP644, [], [], [(-6, 5), (0, 6)], dG645, [], [(7, 25, 0), (24, 7, 0), (24, 25, (-1)), (25, 7, 1)], [(2, 1, 2, 3, []), (2, 5, 6, 7, [])], 0, 0)], 3, 127, 0, 0)
noncomputable def k369_a : ckAs := [(65, [(871741, [(4, 5, 0, ([], [], [], [], [], [], [], [], [], [(0, 0, 0, 0, [1, 2, 3, 4, 5, 6, 7, 0, 1, 2])], 0, 0))]), (535986, [(4, 5, 0, ([], [], [], [], [], [], [], [], [], [(0, 0, 0, 0, [1, 2, 3, 4, 5, 6, 7, 0, 1, 2])], 0, 0))]), (437520, [(4, 5, 0, ([], [], [], [], [], [], [], [], [], [(0, 0, 0, 0, [1, 2, 3, 4, 5, 6, 7, 0, 1, 2])], 0, 0))])])]
noncomputable def k369_c : List (Nat × ckCtr) := [(18, k132), (31, k33), (31, k22), (31, k23), (31, k24)]
theorem k369_ok (l : Launch) : ckCtrOk l ckMT ckTW ckCL k369 := mt_96 (as := k369_a) (cs := k369_c) (gx := []) (f := 200000) rfl (ckHc (k132_ok l) (ckHc (k33_ok l) (ckHc (k22_ok l) (ckHc (k23_ok l) (ckHc (k24_ok l) (fun _ h => absurd h List.not_mem_nil)))))) True.intro (by decide +kernel)
noncomputable def dC646 : List ckC := [.inl (8, [(1, 1), (4, 10), (0, 1), (4, 11), (4, 12), (4, 13), (4, 14), (4, 15)]), .inl (7, [(4, 16), (4, 17), (0, 2), (4, 18), (4, 19), (4, 20), (4, 21), (4, 22), (1, 2), (4, 23)]), .inl (1, [(4, 24), (4, 25), (4, 26), (4, 27), (0, 3)])]
-- FarMachine.isAsk
noncomputable def k370 : ckCtr := (38, ([(0, (1, 0)), (1, (0, 0))], [], dC646, [ckTop, (0, 1), (0, 1), ckTop], [], [], [], [], 0, 0), [([], [(0, 4)], [], [], [(0, (0, 2147483646)), (3, (1, 2147483647))], [(1, 1)], [], [], [(0, 3, (-1))], [], 0, 0), ([], [(0, 4)], [], [], [], [(0, 0)], [], [], [], [], 0, 0)], 1, 80, 0, 0)
noncomputable def k370_a : ckAs := []
noncomputable def k370_c : List (Nat × ckCtr) := []
theorem k370_ok (l : Launch) : ckCtrOk l ckMT ckTW ckCL k370 := mt_38 (as := k370_a) (cs := k370_c) (gx := []) (f := 200000) rfl (fun _ h => absurd h List.not_mem_nil) True.intro (by decide +kernel)
-- FarMachine$Commands.has
noncomputable def k371 : ckCtr := (119, ([(0, (1, 0)), (1, (0, 0))], [], dC144, [ckTop, ckTop, (6, 6)], [([(6, ckTop)], [], [])], [], [], [], 0, 0), [([], [(0, 3)], [], [], [(0, (0, 5)), (1, (1, 2147483647))], [(1, 1)], [], [], [(0, 1, (-1))], [], 0, 0), ([], [(0, 3)], [], [], [], [(0, 0)], [], [], [], [], 0, 0)], 1, 80, 0, 0)
noncomputable def k371_a : ckAs := []
noncomputable def k371_c : List (Nat × ckCtr) := []
theorem k371_ok (l : Launch) : ckCtrOk l ckMT ckTW ckCL k371 := mt_119 (as := k371_a) (cs := k371_c) (gx := []) (f := 200000) rfl (fun _ h => absurd h List.not_mem_nil) True.intro (by decide +kernel)
noncomputable def dC647 : List ckC := [.inl (1, [(1, 2), (1, 3), (1, 4), (4, 10), (0, 1)]), .inl (2, [(1, 5), (4, 11), (4, 12), (0, 2), (0, 3), (0, 4), (0, 5), (0, 6), (0, 7), (0, 8), (0, 9), (0, 10), (0, 11), (0, 12), (0, 13), (0, 14)]), .inr (0, 15, 0), .inr (0, 15, 1), .inr (0, 15, 2), .inr (0, 16, 3)]
noncomputable def dT648 : List ckI := [ckTop, ckTop, ckTop, ckTop, ckTop, ckTop, ckTop, ckTop, ckTop, ckTop, ckTop, ckTop, ckTop, ckTop, ckTop, (6, 6), (48, 48)]
noncomputable def dG649 : List ckG := [([(6, ckTop)], [], []), ([(6, ckTop)], [], []), ([(6, ckTop)], [], []), ([(48, ckTop)], [], [])]
noncomputable def dP650 : List (Nat × ckC) := [(1, .inl (2, [(1, 5), (4, 11), (4, 12), (0, 2), (0, 17), (0, 4), (0, 5), (0, 6), (0, 7), (0, 18), (0, 9), (0, 10), (0, 11), (0, 12), (0, 13), (0, 14)])), (5, .inr (0, 16, 4))]
-- FarMachine$Commands.doTo
noncomputable def k372 : ckCtr := (122, ([(0, (1, 0)), (1, (1, 1)), (2, (0, 0))], [], dC647, dT648, dG649, [], [], [], 0, 0), [([], [], dP650, [], [], [ckTop, ckTop], [([(48, ckTop)], [], [])], [], [], [], 0, 0)], 3, 122, 0, 0)
noncomputable def k372_a : ckAs := []
noncomputable def k372_c : List (Nat × ckCtr) := [(2, k371), (30, k18), (38, k371), (61, k91)]
theorem k372_ok (l : Launch) : ckCtrOk l ckMT ckTW ckCL k372 := mt_122 (as := k372_a) (cs := k372_c) (gx := []) (f := 200000) rfl (ckHc (k371_ok l) (ckHc (k18_ok l) (ckHc (k371_ok l) (ckHc (k91_ok l) (fun _ h => absurd h List.not_mem_nil))))) True.intro (by decide +kernel)
-- FarMachine$Rows.areAlike
noncomputable def k373 : ckCtr := (157, ([(0, (1, 0)), (1, (0, 0)), (2, (0, 1))], [], [.inl (3, [(1, 1), (0, 2), (0, 3)]), .inr (1, 4, 0)], [ckTop, ckTop, ckTop, ckTop, (2048, 2048)], [([(2048, (0, 0))], [], [])], [], [], [], 0, 0), [([], [(0, 5)], [], [], [], [(0, 0)], [], [], [], [], 0, 0), ([], [(0, 5)], [], [], [], [(1, 1)], [], [], [], [], 0, 0)], 1, 80, 0, 0)
noncomputable def k373_a : ckAs := [(2, [(436979, [(1, 0, 0, ([(0, (1, 0)), (1, (0, 0)), (2, (0, 1)), (3, (0, 6))], [], [], [], [], [(0, 8)], [], [], [], [], 0, 0))])])]
noncomputable def k373_c : List (Nat × ckCtr) := []
theorem k373_ok (l : Launch) : ckCtrOk l ckMT ckTW ckCL k373 := mt_157 (as := k373_a) (cs := k373_c) (gx := []) (f := 200000) rfl (fun _ h => absurd h List.not_mem_nil) True.intro (by decide +kernel)
-- FarMachine$Rows.isNew
noncomputable def k374 : ckCtr := (156, ([(0, (1, 0))], [], [.inl (3, [(1, 1), (0, 0), (0, 1)]), .inr (1, 2, 0)], [ckTop, ckTop, (2048, 2048)], [([(2048, (0, 0))], [], [])], [], [], [], 0, 0), [([], [(0, 3)], [], [], [(1, (1, 2147483647))], [(0, 0)], [], [], [], [], 0, 0), ([], [(0, 3)], [], [], [], [(1, 1)], [], [], [], [], 0, 0)], 2, 106, 0, 0)
noncomputable def k374_a : ckAs := [(2, [(211284, [(1, 0, 0, ([(0, (1, 0)), (1, (0, 4))], [], [], [], [], [(0, 2147483647)], [], [], [], [], 0, 0))])])]
noncomputable def k374_c : List (Nat × ckCtr) := [(16, k373)]
theorem k374_ok (l : Launch) : ckCtrOk l ckMT ckTW ckCL k374 := mt_156 (as := k374_a) (cs := k374_c) (gx := []) (f := 200000) rfl (ckHc (k373_ok l) (fun _ h => absurd h List.not_mem_nil)) True.intro (by decide +kernel)
-- FarMachine$Rows.finish
noncomputable def k375 : ckCtr := (155, ([(0, (1, 0))], [], [.inl (3, [(1, 1), (0, 0), (0, 1)]), .inr (1, 2, 0)], [ckTop, ckTop, (2048, 2048)], [([(2048, (0, 0))], [], [])], [], [], [], 0, 0), [([], [], [(0, .inl (3, [(1, 1), (0, 0), (0, 3)]))], [], [], [ckTop], [], [], [(1, 3, 0), (3, 1, 1)], [], 0, 0)], 3, 127, 0, 0)
noncomputable def k375_a : ckAs := []
noncomputable def k375_c : List (Nat × ckCtr) := [(1, k317), (36, k374)]
theorem k375_ok (l : Launch) : ckCtrOk l ckMT ckTW ckCL k375 := mt_155 (as := k375_a) (cs := k375_c) (gx := []) (f := 200000) rfl (ckHc (k317_ok l) (ckHc (k374_ok l) (fun _ h => absurd h List.not_mem_nil))) True.intro (by decide +kernel)
noncomputable def dC651 : List ckC := [.inl (6, [(1, 1), (1, 2), (1, 3), (1, 4), (1, 5), (0, 3), (0, 4), (0, 5), (0, 6), (0, 7)]), .inl (7, [(4, 10), (1, 6), (0, 8), (4, 11), (4, 12), (1, 7), (1, 8), (1, 9), (1, 10), (4, 13)]), .inl (0, [(1, 11), (0, 9)]), .inl (2, [(1, 12), (1, 13), (1, 14), (0, 10), (0, 11), (0, 12), (0, 13), (0, 14), (0, 15), (0, 16), (0, 17), (0, 18), (0, 19), (0, 20), (0, 21), (0, 22)]), .inr (0, 23, 0), .inl (3, [(1, 15), (0, 24), (0, 25)]), .inl (2, [(1, 16), (1, 17), (1, 18), (0, 26), (0, 27), (0, 28), (0, 29), (0, 30), (0, 31), (0, 32), (0, 33), (0, 34), (0, 35), (0, 36), (0, 37), (0, 38)]), .inl (0, [(1, 19), (0, 39)]), .inl (0, [(1, 20), (0, 40)]), .inl (5, [(1, 21), (1, 22), (1, 23), (1, 24), (1, 25), (0, 41)]), .inl (1, [(1, 26), (1, 27), (1, 28), (4, 14), (0, 42)]), .inr (0, 43, 1), .inr (0, 44, 2), .inr (0, 23, 3), .inl (1, [(1, 29), (1, 30), (1, 31), (1, 32), (0, 45)]), .inr (1, 46, 4), .inr (0, 44, 5), .inr (0, 23, 6), .inl (1, [(1, 33), (1, 34), (1, 35), (1, 36), (0, 47)]), .inr (0, 23, 7), .inr (0, 23, 8), .inr (0, 48, 9), .inr (0, 48, 10), .inr (0, 48, 11), .inr (0, 48, 12), .inr (0, 49, 13), .inr (0, 50, 14), .inr (0, 50, 15), .inr (0, 50, 16), .inr (0, 51, 17), .inr (0, 51, 18), .inr (0, 51, 19), .inr (0, 51, 20), .inr (0, 51, 21), .inr (0, 51, 22), .inr (0, 51, 23), .inr (0, 51, 24)]
noncomputable def dT652 : List ckI := [ckTop, ckTop, ckTop, ckTop, ckTop, ckTop, ckTop, (0, 1), (0, 1), (0, 40), ckTop, ckTop, ckTop, ckTop, ckTop, ckTop, ckTop, ckTop, ckTop, ckTop, ckTop, ckTop, ckTop, (8, 8), ckTop, ckTop, ckTop, ckTop, ckTop, ckTop, ckTop, ckTop, ckTop, ckTop, ckTop, ckTop, ckTop, ckTop, ckTop, ckTop, ckTop, (0, 10), ckTop, (40, 40), (48, 48), ckTop, (2048, 2048), ckTop, (70, 70), (10, 10), (6, 6), (30, 30)]
noncomputable def dG653 : List ckG := [([(8, ckTop)], [], []), ([(40, ckTop)], [], []), ([(48, ckTop)], [], []), ([(8, ckTop)], [], []), ([(2048, (0, 0))], [], []), ([(48, ckTop)], [], []), ([(8, ckTop)], [], []), ([(8, ckTop)], [], []), ([(8, ckTop)], [], []), ([(70, ckTop)], [], []), ([(70, ckTop)], [], []), ([(70, ckTop)], [], []), ([(70, ckTop)], [], []), ([(10, ckTop)], [], []), ([(6, ckTop)], [], []), ([(6, ckTop)], [], []), ([(6, ckTop)], [], []), ([(30, ckTop)], [], []), ([(30, ckTop)], [], []), ([(30, ckTop)], [], []), ([(30, ckTop)], [], []), ([(30, ckTop)], [], []), ([(30, ckTop)], [], []), ([(30, ckTop)], [], []), ([(30, ckTop)], [], [])]
noncomputable def dP654 : List (Nat × ckC) := [(0, .inl (6, [(1, 1), (1, 2), (1, 3), (1, 4), (1, 5), (0, 52), (0, 4), (0, 5), (0, 6), (0, 53)])), (3, .inl (2, [(1, 12), (1, 13), (1, 14), (0, 54), (0, 55), (0, 56), (0, 57), (0, 58), (0, 59), (0, 60), (0, 61), (0, 62), (0, 63), (0, 64), (0, 65), (0, 66)])), (4, .inr (0, 23, 25)), (5, .inl (3, [(1, 15), (0, 67), (0, 68)])), (12, .inr (0, 44, 26)), (13, .inr (0, 23, 27)), (14, .inl (1, [(1, 29), (1, 30), (1, 31), (1, 32), (0, 69)])), (29, .inr (0, 51, 28)), (30, .inr (0, 51, 29)), (31, .inr (0, 51, 30)), (32, .inr (0, 51, 31))]
noncomputable def dT655 : List ckI := [(0, 2147483647), (0, 1), ckTop, ckTop, ckTop, ckTop, ckTop, ckTop, ckTop, ckTop, ckTop, ckTop, ckTop, ckTop, ckTop, ckTop, (0, 2147483647), ckTop]
noncomputable def dG656 : List ckG := [([(1, ckTop), (2, ckTop), (3, ckTop), (4, ckTop), (5, ckTop), (6, ckTop), (7, ckTop), (8, ckTop)], [], []), ([(48, ckTop)], [], []), ([(8, ckTop)], [], []), ([(30, ckTop)], [], []), ([(30, ckTop)], [], []), ([(30, ckTop)], [], []), ([(30, ckTop)], [], [])]
noncomputable def dP657 : List (Nat × ckC) := [(0, .inl (6, [(1, 1), (1, 2), (1, 3), (1, 4), (1, 5), (0, 58), (0, 4), (0, 5), (0, 6), (0, 59)])), (3, .inl (2, [(1, 12), (1, 13), (1, 14), (0, 60), (0, 61), (0, 62), (0, 63), (0, 64), (0, 65), (0, 66), (0, 67), (0, 68), (0, 69), (0, 70), (0, 71), (0, 72)])), (4, .inr (0, 23, 25)), (5, .inl (3, [(1, 15), (0, 73), (0, 74)])), (12, .inr (0, 44, 26)), (13, .inr (0, 23, 27)), (14, .inl (1, [(1, 29), (1, 30), (1, 31), (1, 32), (0, 75)])), (29, .inr (0, 51, 28)), (30, .inr (0, 51, 29)), (31, .inr (0, 51, 30)), (32, .inr (0, 51, 31))]
noncomputable def dT658 : List ckI := [(0, 2147483647), (0, 2147483647), (0, 1), ckTop, ckTop, ckTop, ckTop, ckTop, ckTop, ckTop, ckTop, ckTop, ckTop, ckTop, ckTop, ckTop, ckTop, (0, 2147483647), ckTop]
-- FarMachine$Trials.judge
noncomputable def k376 : ckCtr := (181, ([(0, (1, 0)), (1, (0, 0)), (2, (0, 1)), (3, (0, 2))], [], dC651, dT652, dG653, [], [], [], 0, 0), [([], [], dP654, [], [], dT655, dG656, [], [(68, 52, 0)], [], 0, 0)], 7, 218, 0, 0)
noncomputable def k376_a : ckAs := [(30, [(902568, [(1, 0, 0, ([(0, (1, 0)), (1, (0, 0)), (2, (0, 1)), (3, (0, 2)), (4, (0, 55)), (5, (0, 57))], [], dP657, [], [], dT658, dG656, [], [(58, 57, 0), (74, 57, 0), (74, 58, 0)], [], 0, 0))])])]
noncomputable def k376_c : List (Nat × ckCtr) := [(22, k164), (41, k169), (69, k372), (75, k321), (102, k375)]
theorem k376_ok (l : Launch) : ckCtrOk l ckMT ckTW ckCL k376 := mt_181 (as := k376_a) (cs := k376_c) (gx := []) (f := 200000) rfl (ckHc (k164_ok l) (ckHc (k169_ok l) (ckHc (k372_ok l) (ckHc (k321_ok l) (ckHc (k375_ok l) (fun _ h => absurd h List.not_mem_nil)))))) True.intro (by decide +kernel)
