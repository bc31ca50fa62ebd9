/-! THE CHECKER: contracts with their certificates (printed by wip/gen2/p16gen.py) -/
noncomputable def dP610 : List (Nat × ckC) := [(0, .inl (9, [(4, 10), (4, 11), (4, 12), (4, 13), (1, 1), (4, 14), (4, 15), (4, 16), (4, 17), (4, 18), (4, 19), (4, 20), (4, 21), (4, 22), (1, 2), (4, 23), (0, 0), (0, 1), (0, 2), (0, 3), (0, 4), (0, 5), (0, 6), (4, 24), (0, 7), (4, 25), (0, 8), (0, 9), (0, 10), (0, 11), (4, 26), (0, 12), (0, 13), (0, 14), (0, 15), (1, 2), (1, 1), (0, 21), (4, 27), (4, 28), (0, 17), (0, 18)]))]
-- FarMachineModel.test
noncomputable def k349 : ckCtr := (86, ([(0, (1, 0))], [], dC606, dT539, dG535, [], [], [(1, 0, 0, 0, [])], 0, 0), [([], [(0, 21)], dP610, [], [], [(0, 0)], [], [], [], [(1, 0, 0, 0, [])], 0, 0)], 5, 166, 0, 0)
noncomputable def k349_a : ckAs := []
noncomputable def k349_c : List (Nat × ckCtr) := [(3, k344), (23, k348), (28, k343)]
theorem k349_ok (l : Launch) : ckCtrOk l ckMT ckTW ckCL k349 := mt_86 (as := k349_a) (cs := k349_c) (gx := []) (f := 200000) rfl (ckHc (k344_ok l) (ckHc (k348_ok l) (ckHc (k343_ok l) (fun _ h => absurd h List.not_mem_nil)))) True.intro (by decide +kernel)
-- FarMachineModel.test
noncomputable def k350 : ckCtr := (86, ([(0, (1, 0))], [], dC606, dT541, dG535, [], [], [(1, 0, 0, 0, [])], 0, 0), [([], [(0, 21)], dP607, [], [], [(0, 1), (29, 30), (0, 1)], [], [], dZ439, [(1, 0, 0, 0, [])], 0, 0)], 6, 189, 0, 0)
noncomputable def k350_a : ckAs := []
noncomputable def k350_c : List (Nat × ckCtr) := [(3, k344), (10, k349), (23, k348), (28, k343), (75, k348)]
theorem k350_ok (l : Launch) : ckCtrOk l ckMT ckTW ckCL k350 := mt_86 (as := k350_a) (cs := k350_c) (gx := []) (f := 200000) rfl (ckHc (k344_ok l) (ckHc (k349_ok l) (ckHc (k348_ok l) (ckHc (k343_ok l) (ckHc (k348_ok l) (fun _ h => absurd h List.not_mem_nil)))))) True.intro (by decide +kernel)
-- FarMachineModel.test
noncomputable def k351 : ckCtr := (86, ([(0, (1, 0))], [], dC606, dT542, dG535, [], [], [(1, 0, 0, 0, [])], 0, 0), [([], [(0, 21)], dP607, [], [], [(0, 1), (28, 30), (0, 1)], [], [], dZ441, [(1, 0, 0, 0, [])], 0, 0)], 7, 212, 0, 0)
noncomputable def k351_a : ckAs := []
noncomputable def k351_c : List (Nat × ckCtr) := [(3, k344), (10, k350), (23, k348), (28, k343), (75, k348)]
theorem k351_ok (l : Launch) : ckCtrOk l ckMT ckTW ckCL k351 := mt_86 (as := k351_a) (cs := k351_c) (gx := []) (f := 200000) rfl (ckHc (k344_ok l) (ckHc (k350_ok l) (ckHc (k348_ok l) (ckHc (k343_ok l) (ckHc (k348_ok l) (fun _ h => absurd h List.not_mem_nil)))))) True.intro (by decide +kernel)
-- FarMachineModel.test
noncomputable def k352 : ckCtr := (86, ([(0, (1, 0))], [], dC606, dT543, dG535, [], [], [(1, 0, 0, 0, [])], 0, 0), [([], [(0, 21)], dP607, [], [], [(0, 1), (27, 30), (0, 1)], [], [], dZ443, [(1, 0, 0, 0, [])], 0, 0)], 8, 235, 0, 0)
noncomputable def k352_a : ckAs := []
noncomputable def k352_c : List (Nat × ckCtr) := [(3, k344), (10, k351), (23, k348), (28, k343), (75, k348)]
theorem k352_ok (l : Launch) : ckCtrOk l ckMT ckTW ckCL k352 := mt_86 (as := k352_a) (cs := k352_c) (gx := []) (f := 200000) rfl (ckHc (k344_ok l) (ckHc (k351_ok l) (ckHc (k348_ok l) (ckHc (k343_ok l) (ckHc (k348_ok l) (fun _ h => absurd h List.not_mem_nil)))))) True.intro (by decide +kernel)
-- FarMachineModel.test
noncomputable def k353 : ckCtr := (86, ([(0, (1, 0))], [], dC606, dT544, dG535, [], [], [(1, 0, 0, 0, [])], 0, 0), [([], [(0, 21)], dP607, [], [], [(0, 1), (26, 30), (0, 1)], [], [], dZ445, [(1, 0, 0, 0, [])], 0, 0)], 9, 258, 0, 0)
noncomputable def k353_a : ckAs := []
noncomputable def k353_c : List (Nat × ckCtr) := [(3, k344), (10, k352), (23, k348), (28, k343), (75, k348)]
theorem k353_ok (l : Launch) : ckCtrOk l ckMT ckTW ckCL k353 := mt_86 (as := k353_a) (cs := k353_c) (gx := []) (f := 200000) rfl (ckHc (k344_ok l) (ckHc (k352_ok l) (ckHc (k348_ok l) (ckHc (k343_ok l) (ckHc (k348_ok l) (fun _ h => absurd h List.not_mem_nil)))))) True.intro (by decide +kernel)
-- FarMachineModel.test
noncomputable def k354 : ckCtr := (86, ([(0, (1, 0))], [], dC606, dT545, dG535, [], [], [(1, 0, 0, 0, [])], 0, 0), [([], [(0, 21)], dP607, [], [], [(0, 1), (25, 30), (0, 1)], [], [], dZ447, [(1, 0, 0, 0, [])], 0, 0)], 10, 281, 0, 0)
noncomputable def k354_a : ckAs := []
noncomputable def k354_c : List (Nat × ckCtr) := [(3, k344), (10, k353), (23, k348), (28, k343), (75, k348)]
theorem k354_ok (l : Launch) : ckCtrOk l ckMT ckTW ckCL k354 := mt_86 (as := k354_a) (cs := k354_c) (gx := []) (f := 200000) rfl (ckHc (k344_ok l) (ckHc (k353_ok l) (ckHc (k348_ok l) (ckHc (k343_ok l) (ckHc (k348_ok l) (fun _ h => absurd h List.not_mem_nil)))))) True.intro (by decide +kernel)
-- FarMachineModel.test
noncomputable def k355 : ckCtr := (86, ([(0, (1, 0))], [], dC606, dT546, dG535, [], [], [(1, 0, 0, 0, [])], 0, 0), [([], [(0, 21)], dP607, [], [], [(0, 1), (24, 30), (0, 1)], [], [], dZ449, [(1, 0, 0, 0, [])], 0, 0)], 11, 304, 0, 0)
noncomputable def k355_a : ckAs := []
noncomputable def k355_c : List (Nat × ckCtr) := [(3, k344), (10, k354), (23, k348), (28, k343), (75, k348)]
theorem k355_ok (l : Launch) : ckCtrOk l ckMT ckTW ckCL k355 := mt_86 (as := k355_a) (cs := k355_c) (gx := []) (f := 200000) rfl (ckHc (k344_ok l) (ckHc (k354_ok l) (ckHc (k348_ok l) (ckHc (k343_ok l) (ckHc (k348_ok l) (fun _ h => absurd h List.not_mem_nil)))))) True.intro (by decide +kernel)
-- FarMachineModel.test
noncomputable def k356 : ckCtr := (86, ([(0, (1, 0))], [], dC606, dT547, dG535, [], [], [(1, 0, 0, 0, [])], 0, 0), [([], [(0, 21)], dP607, [], [], [(0, 1), (23, 30), (0, 1)], [], [], dZ451, [(1, 0, 0, 0, [])], 0, 0)], 12, 327, 0, 0)
noncomputable def k356_a : ckAs := []
noncomputable def k356_c : List (Nat × ckCtr) := [(3, k344), (10, k355), (23, k348), (28, k343), (75, k348)]
theorem k356_ok (l : Launch) : ckCtrOk l ckMT ckTW ckCL k356 := mt_86 (as := k356_a) (cs := k356_c) (gx := []) (f := 200000) rfl (ckHc (k344_ok l) (ckHc (k355_ok l) (ckHc (k348_ok l) (ckHc (k343_ok l) (ckHc (k348_ok l) (fun _ h => absurd h List.not_mem_nil)))))) True.intro (by decide +kernel)
-- FarMachineModel.test
noncomputable def k357 : ckCtr := (86, ([(0, (1, 0))], [], dC606, dT548, dG535, [], [], [(1, 0, 0, 0, [])], 0, 0), [([], [(0, 21)], dP607, [], [], [(0, 1), (22, 30), (0, 1)], [], [], dZ453, [(1, 0, 0, 0, [])], 0, 0)], 13, 350, 0, 0)
noncomputable def k357_a : ckAs := []
noncomputable def k357_c : List (Nat × ckCtr) := [(3, k344), (10, k356), (23, k348), (28, k343), (75, k348)]
theorem k357_ok (l : Launch) : ckCtrOk l ckMT ckTW ckCL k357 := mt_86 (as := k357_a) (cs := k357_c) (gx := []) (f := 200000) rfl (ckHc (k344_ok l) (ckHc (k356_ok l) (ckHc (k348_ok l) (ckHc (k343_ok l) (ckHc (k348_ok l) (fun _ h => absurd h List.not_mem_nil)))))) True.intro (by decide +kernel)
-- FarMachineModel.test
noncomputable def k358 : ckCtr := (86, ([(0, (1, 0))], [], dC606, dT549, dG535, [], [], [(1, 0, 0, 0, [])], 0, 0), [([], [(0, 21)], dP607, [], [], [(0, 1), (21, 30), (0, 1)], [], [], dZ455, [(1, 0, 0, 0, [])], 0, 0)], 14, 373, 0, 0)
noncomputable def k358_a : ckAs := []
noncomputable def k358_c : List (Nat × ckCtr) := [(3, k344), (10, k357), (23, k348), (28, k343), (75, k348)]
theorem k358_ok (l : Launch) : ckCtrOk l ckMT ckTW ckCL k358 := mt_86 (as := k358_a) (cs := k358_c) (gx := []) (f := 200000) rfl (ckHc (k344_ok l) (ckHc (k357_ok l) (ckHc (k348_ok l) (ckHc (k343_ok l) (ckHc (k348_ok l) (fun _ h => absurd h List.not_mem_nil)))))) True.intro (by decide +kernel)
-- FarMachineModel.test
noncomputable def k359 : ckCtr := (86, ([(0, (1, 0))], [], dC606, dT550, dG535, [], [], [(1, 0, 0, 0, [])], 0, 0), [([], [(0, 21)], dP607, [], [], [(0, 1), (20, 30), (0, 1)], [], [], dZ457, [(1, 0, 0, 0, [])], 0, 0)], 15, 396, 0, 0)
noncomputable def k359_a : ckAs := []
noncomputable def k359_c : List (Nat × ckCtr) := [(3, k344), (10, k358), (23, k348), (28, k343), (75, k348)]
theorem k359_ok (l : Launch) : ckCtrOk l ckMT ckTW ckCL k359 := mt_86 (as := k359_a) (cs := k359_c) (gx := []) (f := 200000) rfl (ckHc (k344_ok l) (ckHc (k358_ok l) (ckHc (k348_ok l) (ckHc (k343_ok l) (ckHc (k348_ok l) (fun _ h => absurd h List.not_mem_nil)))))) True.intro (by decide +kernel)
-- FarMachineModel.test
noncomputable def k360 : ckCtr := (86, ([(0, (1, 0))], [], dC606, dT551, dG535, [], [], [(1, 0, 0, 0, [])], 0, 0), [([], [(0, 21)], dP607, [], [], [(0, 1), (19, 30), (0, 1)], [], [], dZ459, [(1, 0, 0, 0, [])], 0, 0)], 16, 419, 0, 0)
noncomputable def k360_a : ckAs := []
noncomputable def k360_c : List (Nat × ckCtr) := [(3, k344), (10, k359), (23, k348), (28, k343), (75, k348)]
theorem k360_ok (l : Launch) : ckCtrOk l ckMT ckTW ckCL k360 := mt_86 (as := k360_a) (cs := k360_c) (gx := []) (f := 200000) rfl (ckHc (k344_ok l) (ckHc (k359_ok l) (ckHc (k348_ok l) (ckHc (k343_ok l) (ckHc (k348_ok l) (fun _ h => absurd h List.not_mem_nil)))))) True.intro (by decide +kernel)
-- FarMachineModel.test
noncomputable def k361 : ckCtr := (86, ([(0, (1, 0))], [], dC606, dT552, dG535, [], [], [(1, 0, 0, 0, [])], 0, 0), [([], [(0, 21)], dP607, [], [], [(0, 1), (18, 30), (0, 1)], [], [], dZ461, [(1, 0, 0, 0, [])], 0, 0)], 17, 442, 0, 0)
noncomputable def k361_a : ckAs := []
noncomputable def k361_c : List (Nat × ckCtr) := [(3, k344), (10, k360), (23, k348), (28, k343), (75, k348)]
theorem k361_ok (l : Launch) : ckCtrOk l ckMT ckTW ckCL k361 := mt_86 (as := k361_a) (cs := k361_c) (gx := []) (f := 200000) rfl (ckHc (k344_ok l) (ckHc (k360_ok l) (ckHc (k348_ok l) (ckHc (k343_ok l) (ckHc (k348_ok l) (fun _ h => absurd h List.not_mem_nil)))))) True.intro (by decide +kernel)
-- FarMachineModel.test
noncomputable def k362 : ckCtr := (86, ([(0, (1, 0))], [], dC606, dT553, dG535, [], [], [(1, 0, 0, 0, [])], 0, 0), [([], [(0, 21)], dP607, [], [], [(0, 1), (17, 30), (0, 1)], [], [], dZ463, [(1, 0, 0, 0, [])], 0, 0)], 18, 465, 0, 0)
noncomputable def k362_a : ckAs := []
noncomputable def k362_c : List (Nat × ckCtr) := [(3, k344), (10, k361), (23, k348), (28, k343), (75, k348)]
theorem k362_ok (l : Launch) : ckCtrOk l ckMT ckTW ckCL k362 := mt_86 (as := k362_a) (cs := k362_c) (gx := []) (f := 200000) rfl (ckHc (k344_ok l) (ckHc (k361_ok l) (ckHc (k348_ok l) (ckHc (k343_ok l) (ckHc (k348_ok l) (fun _ h => absurd h List.not_mem_nil)))))) True.intro (by decide +kernel)
-- FarMachineModel.test
noncomputable def k363 : ckCtr := (86, ([(0, (1, 0))], [], dC606, dT554, dG535, [], [], [(1, 0, 0, 0, [])], 0, 0), [([], [(0, 21)], dP607, [], [], [(0, 1), (16, 30), (0, 1)], [], [], dZ465, [(1, 0, 0, 0, [])], 0, 0)], 19, 488, 0, 0)
noncomputable def k363_a : ckAs := []
noncomputable def k363_c : List (Nat × ckCtr) := [(3, k344), (10, k362), (23, k348), (28, k343), (75, k348)]
theorem k363_ok (l : Launch) : ckCtrOk l ckMT ckTW ckCL k363 := mt_86 (as := k363_a) (cs := k363_c) (gx := []) (f := 200000) rfl (ckHc (k344_ok l) (ckHc (k362_ok l) (ckHc (k348_ok l) (ckHc (k343_ok l) (ckHc (k348_ok l) (fun _ h => absurd h List.not_mem_nil)))))) True.intro (by decide +kernel)
-- FarMachineModel.test
noncomputable def k364 : ckCtr := (86, ([(0, (1, 0))], [], dC606, dT555, dG535, [], [], [(1, 0, 0, 0, [])], 0, 0), [([], [(0, 21)], dP607, [], [], [(0, 1), (15, 30), (0, 1)], [], [], dZ467, [(1, 0, 0, 0, [])], 0, 0)], 20, 511, 0, 0)
noncomputable def k364_a : ckAs := []
noncomputable def k364_c : List (Nat × ckCtr) := [(3, k344), (10, k363), (23, k348), (28, k343), (75, k348)]
theorem k364_ok (l : Launch) : ckCtrOk l ckMT ckTW ckCL k364 := mt_86 (as := k364_a) (cs := k364_c) (gx := []) (f := 200000) rfl (ckHc (k344_ok l) (ckHc (k363_ok l) (ckHc (k348_ok l) (ckHc (k343_ok l) (ckHc (k348_ok l) (fun _ h => absurd h List.not_mem_nil)))))) True.intro (by decide +kernel)
-- FarMachineModel.test
noncomputable def k365 : ckCtr := (86, ([(0, (1, 0))], [], dC606, dT556, dG535, [], [], [(1, 0, 0, 0, [])], 0, 0), [([], [(0, 21)], dP607, [], [], [(0, 1), (14, 30), (0, 1)], [], [], dZ469, [(1, 0, 0, 0, [])], 0, 0)], 21, 534, 0, 0)
noncomputable def k365_a : ckAs := []
noncomputable def k365_c : List (Nat × ckCtr) := [(3, k344), (10, k364), (23, k348), (28, k343), (75, k348)]
theorem k365_ok (l : Launch) : ckCtrOk l ckMT ckTW ckCL k365 := mt_86 (as := k365_a) (cs := k365_c) (gx := []) (f := 200000) rfl (ckHc (k344_ok l) (ckHc (k364_ok l) (ckHc (k348_ok l) (ckHc (k343_ok l) (ckHc (k348_ok l) (fun _ h => absurd h List.not_mem_nil)))))) True.intro (by decide +kernel)
-- FarMachineModel.test
noncomputable def k366 : ckCtr := (86, ([(0, (1, 0))], [], dC606, dT557, dG535, [], [], [(1, 0, 0, 0, [])], 0, 0), [([], [(0, 21)], dP607, [], [], [(0, 1), (13, 30), (0, 1)], [], [], dZ471, [(1, 0, 0, 0, [])], 0, 0)], 22, 557, 0, 0)
noncomputable def k366_a : ckAs := []
noncomputable def k366_c : List (Nat × ckCtr) := [(3, k344), (10, k365), (23, k348), (28, k343), (75, k348)]
theorem k366_ok (l : Launch) : ckCtrOk l ckMT ckTW ckCL k366 := mt_86 (as := k366_a) (cs := k366_c) (gx := []) (f := 200000) rfl (ckHc (k344_ok l) (ckHc (k365_ok l) (ckHc (k348_ok l) (ckHc (k343_ok l) (ckHc (k348_ok l) (fun _ h => absurd h List.not_mem_nil)))))) True.intro (by decide +kernel)
-- FarMachineModel.test
noncomputable def k367 : ckCtr := (86, ([(0, (1, 0))], [], dC606, dT558, dG535, [], [], [(1, 0, 0, 0, [])], 0, 0), [([], [(0, 21)], dP607, [], [], [(0, 1), (12, 30), (0, 1)], [], [], dZ473, [(1, 0, 0, 0, [])], 0, 0)], 23, 580, 0, 0)
noncomputable def k367_a : ckAs := []
noncomputable def k367_c : List (Nat × ckCtr) := [(3, k344), (10, k366), (23, k348), (28, k343), (75, k348)]
theorem k367_ok (l : Launch) : ckCtrOk l ckMT ckTW ckCL k367 := mt_86 (as := k367_a) (cs := k367_c) (gx := []) (f := 200000) rfl (ckHc (k344_ok l) (ckHc (k366_ok l) (ckHc (k348_ok l) (ckHc (k343_ok l) (ckHc (k348_ok l) (fun _ h => absurd h List.not_mem_nil)))))) True.intro (by decide +kernel)
-- FarMachineModel.test
noncomputable def k368 : ckCtr := (86, ([(0, (1, 0))], [], dC606, dT559, dG535, [], [], [(1, 0, 0, 0, [])], 0, 0), [([], [(0, 21)], dP607, [], [], [(0, 1), (11, 30), (0, 1)], [], [], dZ475, [(1, 0, 0, 0, [])], 0, 0)], 24, 603, 0, 0)
noncomputable def k368_a : ckAs := []
noncomputable def k368_c : List (Nat × ckCtr) := [(3, k344), (10, k367), (23, k348), (28, k343), (75, k348)]
theorem k368_ok (l : Launch) : ckCtrOk l ckMT ckTW ckCL k368 := mt_86 (as := k368_a) (cs := k368_c) (gx := []) (f := 200000) rfl (ckHc (k344_ok l) (ckHc (k367_ok l) (ckHc (k348_ok l) (ckHc (k343_ok l) (ckHc (k348_ok l) (fun _ h => absurd h List.not_mem_nil)))))) True.intro (by decide +kernel)
-- FarMachineModel.test
noncomputable def k369 : ckCtr := (86, ([(0, (1, 0))], [], dC606, dT560, dG535, [], [], [(1, 0, 0, 0, [])], 0, 0), [([], [(0, 21)], dP607, [], [], [(0, 1), (10, 30), (0, 1)], [], [], dZ477, [(1, 0, 0, 0, [])], 0, 0)], 25, 626, 0, 0)
noncomputable def k369_a : ckAs := []
noncomputable def k369_c : List (Nat × ckCtr) := [(3, k344), (10, k368), (23, k348), (28, k343), (75, k348)]
theorem k369_ok (l : Launch) : ckCtrOk l ckMT ckTW ckCL k369 := mt_86 (as := k369_a) (cs := k369_c) (gx := []) (f := 200000) rfl (ckHc (k344_ok l) (ckHc (k368_ok l) (ckHc (k348_ok l) (ckHc (k343_ok l) (ckHc (k348_ok l) (fun _ h => absurd h List.not_mem_nil)))))) True.intro (by decide +kernel)
-- FarMachineModel.test
noncomputable def k370 : ckCtr := (86, ([(0, (1, 0))], [], dC606, dT561, dG535, [], [], [(1, 0, 0, 0, [])], 0, 0), [([], [(0, 21)], dP607, [], [], [(0, 1), (9, 30), (0, 1)], [], [], dZ479, [(1, 0, 0, 0, [])], 0, 0)], 26, 649, 0, 0)
noncomputable def k370_a : ckAs := []
noncomputable def k370_c : List (Nat × ckCtr) := [(3, k344), (10, k369), (23, k348), (28, k343), (75, k348)]
theorem k370_ok (l : Launch) : ckCtrOk l ckMT ckTW ckCL k370 := mt_86 (as := k370_a) (cs := k370_c) (gx := []) (f := 200000) rfl (ckHc (k344_ok l) (ckHc (k369_ok l) (ckHc (k348_ok l) (ckHc (k343_ok l) (ckHc (k348_ok l) (fun _ h => absurd h List.not_mem_nil)))))) True.intro (by decide +kernel)
-- FarMachineModel.test
noncomputable def k371 : ckCtr := (86, ([(0, (1, 0))], [], dC606, dT562, dG535, [], [], [(1, 0, 0, 0, [])], 0, 0), [([], [(0, 21)], dP607, [], [], [(0, 1), (8, 30), (0, 1)], [], [], dZ481, [(1, 0, 0, 0, [])], 0, 0)], 27, 672, 0, 0)
noncomputable def k371_a : ckAs := []
noncomputable def k371_c : List (Nat × ckCtr) := [(3, k344), (10, k370), (23, k348), (28, k343), (75, k348)]
theorem k371_ok (l : Launch) : ckCtrOk l ckMT ckTW ckCL k371 := mt_86 (as := k371_a) (cs := k371_c) (gx := []) (f := 200000) rfl (ckHc (k344_ok l) (ckHc (k370_ok l) (ckHc (k348_ok l) (ckHc (k343_ok l) (ckHc (k348_ok l) (fun _ h => absurd h List.not_mem_nil)))))) True.intro (by decide +kernel)
-- FarMachineModel.test
noncomputable def k372 : ckCtr := (86, ([(0, (1, 0))], [], dC606, dT563, dG535, [], [], [(1, 0, 0, 0, [])], 0, 0), [([], [(0, 21)], dP607, [], [], [(0, 1), (7, 30), (0, 1)], [], [], dZ483, [(1, 0, 0, 0, [])], 0, 0)], 28, 695, 0, 0)
noncomputable def k372_a : ckAs := []
noncomputable def k372_c : List (Nat × ckCtr) := [(3, k344), (10, k371), (23, k348), (28, k343), (75, k348)]
theorem k372_ok (l : Launch) : ckCtrOk l ckMT ckTW ckCL k372 := mt_86 (as := k372_a) (cs := k372_c) (gx := []) (f := 200000) rfl (ckHc (k344_ok l) (ckHc (k371_ok l) (ckHc (k348_ok l) (ckHc (k343_ok l) (ckHc (k348_ok l) (fun _ h => absurd h List.not_mem_nil)))))) True.intro (by decide +kernel)
-- FarMachineModel.test
noncomputable def k373 : ckCtr := (86, ([(0, (1, 0))], [], dC606, dT564, dG535, [], [], [(1, 0, 0, 0, [])], 0, 0), [([], [(0, 21)], dP607, [], [], [(0, 1), (6, 30), (0, 1)], [], [], dZ485, [(1, 0, 0, 0, [])], 0, 0)], 29, 718, 0, 0)
noncomputable def k373_a : ckAs := []
noncomputable def k373_c : List (Nat × ckCtr) := [(3, k344), (10, k372), (23, k348), (28, k343), (75, k348)]
theorem k373_ok (l : Launch) : ckCtrOk l ckMT ckTW ckCL k373 := mt_86 (as := k373_a) (cs := k373_c) (gx := []) (f := 200000) rfl (ckHc (k344_ok l) (ckHc (k372_ok l) (ckHc (k348_ok l) (ckHc (k343_ok l) (ckHc (k348_ok l) (fun _ h => absurd h List.not_mem_nil)))))) True.intro (by decide +kernel)
-- FarMachineModel.test
noncomputable def k374 : ckCtr := (86, ([(0, (1, 0))], [], dC606, dT565, dG535, [], [], [(1, 0, 0, 0, [])], 0, 0), [([], [(0, 21)], dP607, [], [], [(0, 1), (5, 30), (0, 1)], [], [], dZ487, [(1, 0, 0, 0, [])], 0, 0)], 30, 741, 0, 0)
noncomputable def k374_a : ckAs := []
noncomputable def k374_c : List (Nat × ckCtr) := [(3, k344), (10, k373), (23, k348), (28, k343), (75, k348)]
theorem k374_ok (l : Launch) : ckCtrOk l ckMT ckTW ckCL k374 := mt_86 (as := k374_a) (cs := k374_c) (gx := []) (f := 200000) rfl (ckHc (k344_ok l) (ckHc (k373_ok l) (ckHc (k348_ok l) (ckHc (k343_ok l) (ckHc (k348_ok l) (fun _ h => absurd h List.not_mem_nil)))))) True.intro (by decide +kernel)
-- FarMachineModel.test
noncomputable def k375 : ckCtr := (86, ([(0, (1, 0))], [], dC606, dT566, dG535, [], [], [(1, 0, 0, 0, [])], 0, 0), [([], [(0, 21)], dP607, [], [], [(0, 1), (4, 30), (0, 1)], [], [], dZ489, [(1, 0, 0, 0, [])], 0, 0)], 31, 764, 0, 0)
noncomputable def k375_a : ckAs := []
noncomputable def k375_c : List (Nat × ckCtr) := [(3, k344), (10, k374), (23, k348), (28, k343), (75, k348)]
theorem k375_ok (l : Launch) : ckCtrOk l ckMT ckTW ckCL k375 := mt_86 (as := k375_a) (cs := k375_c) (gx := []) (f := 200000) rfl (ckHc (k344_ok l) (ckHc (k374_ok l) (ckHc (k348_ok l) (ckHc (k343_ok l) (ckHc (k348_ok l) (fun _ h => absurd h List.not_mem_nil)))))) True.intro (by decide +kernel)
-- FarMachineModel.test
noncomputable def k376 : ckCtr := (86, ([(0, (1, 0))], [], dC606, dT567, dG535, [], [], [(1, 0, 0, 0, [])], 0, 0), [([], [(0, 21)], dP607, [], [], [(0, 1), (3, 30), (0, 1)], [], [], dZ491, [(1, 0, 0, 0, [])], 0, 0)], 32, 787, 0, 0)
noncomputable def k376_a : ckAs := []
noncomputable def k376_c : List (Nat × ckCtr) := [(3, k344), (10, k375), (23, k348), (28, k343), (75, k348)]
theorem k376_ok (l : Launch) : ckCtrOk l ckMT ckTW ckCL k376 := mt_86 (as := k376_a) (cs := k376_c) (gx := []) (f := 200000) rfl (ckHc (k344_ok l) (ckHc (k375_ok l) (ckHc (k348_ok l) (ckHc (k343_ok l) (ckHc (k348_ok l) (fun _ h => absurd h List.not_mem_nil)))))) True.intro (by decide +kernel)
-- FarMachineModel.test
noncomputable def k377 : ckCtr := (86, ([(0, (1, 0))], [], dC606, dT568, dG535, [], [], [(1, 0, 0, 0, [])], 0, 0), [([], [(0, 21)], dP607, [], [], [(0, 1), (2, 30), (0, 1)], [], [], dZ493, [(1, 0, 0, 0, [])], 0, 0)], 33, 810, 0, 0)
noncomputable def k377_a : ckAs := []
noncomputable def k377_c : List (Nat × ckCtr) := [(3, k344), (10, k376), (23, k348), (28, k343), (75, k348)]
theorem k377_ok (l : Launch) : ckCtrOk l ckMT ckTW ckCL k377 := mt_86 (as := k377_a) (cs := k377_c) (gx := []) (f := 200000) rfl (ckHc (k344_ok l) (ckHc (k376_ok l) (ckHc (k348_ok l) (ckHc (k343_ok l) (ckHc (k348_ok l) (fun _ h => absurd h List.not_mem_nil)))))) True.intro (by decide +kernel)
-- FarMachineModel.test
noncomputable def k378 : ckCtr := (86, ([(0, (1, 0))], [], dC606, dT569, dG535, [], [], [(1, 0, 0, 0, [])], 0, 0), [([], [(0, 21)], dP607, [], [], [(0, 1), (1, 30), (0, 1)], [], [], dZ495, [(1, 0, 0, 0, [])], 0, 0)], 34, 833, 0, 0)
noncomputable def k378_a : ckAs := []
noncomputable def k378_c : List (Nat × ckCtr) := [(3, k344), (10, k377), (23, k348), (28, k343), (75, k348)]
theorem k378_ok (l : Launch) : ckCtrOk l ckMT ckTW ckCL k378 := mt_86 (as := k378_a) (cs := k378_c) (gx := []) (f := 200000) rfl (ckHc (k344_ok l) (ckHc (k377_ok l) (ckHc (k348_ok l) (ckHc (k343_ok l) (ckHc (k348_ok l) (fun _ h => absurd h List.not_mem_nil)))))) True.intro (by decide +kernel)
-- FarMachineModel.test
noncomputable def k379 : ckCtr := (86, ([(0, (1, 0))], [], dC606, dT534, dG535, [], [], [(1, 0, 0, 0, [])], 0, 0), [([], [(0, 21)], dP607, [], [], [(0, 1), (0, 30), (0, 1)], [], [], dZ496, [(1, 0, 0, 0, [])], 0, 0)], 35, 856, 0, 0)
noncomputable def k379_a : ckAs := []
noncomputable def k379_c : List (Nat × ckCtr) := [(3, k344), (10, k378), (23, k348), (28, k343), (75, k348)]
theorem k379_ok (l : Launch) : ckCtrOk l ckMT ckTW ckCL k379 := mt_86 (as := k379_a) (cs := k379_c) (gx := []) (f := 200000) rfl (ckHc (k344_ok l) (ckHc (k378_ok l) (ckHc (k348_ok l) (ckHc (k343_ok l) (ckHc (k348_ok l) (fun _ h => absurd h List.not_mem_nil)))))) True.intro (by decide +kernel)
-- FarMachineModel.takes
noncomputable def k380 : ckCtr := (84, ([(0, (1, 0)), (1, (0, 0))], [], dC601, dT570, [([(300, ckTop)], [], [])], [], [], [], 0, 0), [([], [(0, 21)], [], [], [], [(0, 0)], [], [], [], [], 0, 0), ([], [(0, 21)], dP602, [], [(14, (0, 29)), (16, (1, 30)), (17, (1, 1))], [(1, 1), (1, 30)], [], [], [(14, 16, (-1)), (14, 22, (-1)), (22, 14, 1), (22, 16, 0)], [], 0, 0)], 2, 100, 0, 0)
noncomputable def k380_a : ckAs := []
noncomputable def k380_c : List (Nat × ckCtr) := [(8, k343)]
theorem k380_ok (l : Launch) : ckCtrOk l ckMT ckTW ckCL k380 := mt_84 (as := k380_a) (cs := k380_c) (gx := []) (f := 200000) rfl (ckHc (k343_ok l) (fun _ h => absurd h List.not_mem_nil)) True.intro (by decide +kernel)
noncomputable def dP611 : List (Nat × ckC) := [(0, .inl (9, [(4, 10), (4, 11), (4, 12), (4, 13), (1, 1), (4, 14), (4, 15), (4, 16), (4, 17), (4, 18), (4, 19), (4, 20), (4, 21), (4, 22), (1, 2), (4, 23), (0, 0), (0, 1), (0, 2), (0, 3), (0, 4), (0, 5), (0, 6), (4, 24), (0, 7), (4, 25), (0, 8), (0, 9), (0, 10), (0, 11), (4, 26), (0, 12), (0, 25), (0, 14), (0, 15), (1, 2), (1, 1), (0, 26), (4, 27), (4, 28), (0, 17), (0, 18)]))]
-- FarMachineModel.and
noncomputable def k381 : ckCtr := (85, ([(0, (1, 0))], [], dC606, dT571, dG535, [], [], [(1, 0, 0, 0, [])], 0, 0), [([], [(0, 21)], dP607, [], [], [(0, 1), (0, 30), (0, 1)], [], [], dZ499, [(1, 0, 0, 0, [])], 0, 0)], 36, 879, 0, 0)
noncomputable def k381_a : ckAs := [(5, [(274191, [(1, 0, 1, ([(0, (1, 0)), (1, (0, 24))], [], dP611, [], [], [(0, 1), (0, 30), (0, 1)], [], [], dZ501, [(1, 0, 0, 0, [])], 0, 0))])])]
noncomputable def k381_c : List (Nat × ckCtr) := [(1, k379), (8, k380), (15, k378)]
theorem k381_ok (l : Launch) : ckCtrOk l ckMT ckTW ckCL k381 := mt_85 (as := k381_a) (cs := k381_c) (gx := []) (f := 200000) rfl (ckHc (k379_ok l) (ckHc (k380_ok l) (ckHc (k378_ok l) (fun _ h => absurd h List.not_mem_nil)))) True.intro (by decide +kernel)
noncomputable def dC612 : List ckC := [.inl (9, [(4, 10), (4, 11), (4, 12), (4, 13), (1, 2), (4, 14), (4, 15), (4, 16), (4, 17), (4, 18), (4, 19), (4, 20), (4, 21), (4, 22), (1, 1), (4, 23), (0, 2), (0, 3), (0, 4), (0, 5), (0, 6), (0, 7), (0, 8), (4, 24), (0, 9), (4, 25), (0, 10), (0, 11), (0, 12), (0, 13), (4, 26), (0, 14), (0, 15), (0, 16), (0, 17), (5, 0), (5, 0), (0, 18), (4, 27), (4, 28), (0, 19), (0, 20)]), .inr (0, 21, 0), .inr (0, 22, 1)]
noncomputable def dP613 : List (Nat × ckC) := [(0, .inl (9, [(4, 10), (4, 11), (4, 12), (4, 13), (1, 2), (4, 14), (4, 15), (4, 16), (4, 17), (4, 18), (4, 19), (4, 20), (4, 21), (4, 22), (1, 1), (4, 23), (0, 2), (0, 3), (0, 4), (0, 5), (0, 6), (0, 7), (0, 8), (4, 24), (0, 9), (4, 25), (0, 10), (0, 11), (0, 12), (0, 13), (4, 26), (0, 14), (0, 24), (0, 0), (0, 1), (1, 1), (1, 2), (0, 25), (4, 27), (4, 28), (0, 19), (0, 20)]))]
-- FarMachineModel.goesThrough
noncomputable def k382 : ckCtr := (90, ([(0, (1, 0)), (1, (1, 1)), (2, (0, 0)), (3, (0, 1)), (4, (1, 2))], [], dC612, dT574, dG575, [], [], [(1, 1, 0, 0, [])], 0, 0), [([], [(0, 23)], dP613, [], [], [(0, 1), (0, 30), (0, 1)], [], [], [(23, 1, 0), (23, 24, 0), (25, 1, 0), (25, 24, 0)], [(1, 1, 0, 0, [])], 0, 0)], 37, 901, 0, 0)
noncomputable def k382_a : ckAs := []
noncomputable def k382_c : List (Nat × ckCtr) := [(32, k381)]
theorem k382_ok (l : Launch) : ckCtrOk l ckMT ckTW ckCL k382 := mt_90 (as := k382_a) (cs := k382_c) (gx := []) (f := 200000) rfl (ckHc (k381_ok l) (fun _ h => absurd h List.not_mem_nil)) True.intro (by decide +kernel)
noncomputable def dC614 : List ckC := [.inl (9, [(4, 10), (4, 11), (4, 12), (4, 13), (1, 1), (4, 14), (4, 15), (4, 16), (4, 17), (4, 18), (4, 19), (4, 20), (4, 21), (4, 22), (1, 2), (1, 3), (0, 1), (0, 2), (0, 3), (0, 4), (0, 5), (0, 6), (0, 7), (4, 23), (0, 8), (4, 24), (0, 9), (0, 10), (0, 11), (0, 12), (4, 25), (0, 13), (0, 14), (0, 15), (0, 16), (5, 0), (5, 0), (0, 17), (4, 26), (4, 27), (0, 18), (0, 19)]), .inr (0, 20, 0), .inr (0, 21, 1), .inr (0, 22, 2)]
noncomputable def dP615 : List (Nat × ckC) := [(0, .inl (9, [(4, 10), (4, 11), (4, 12), (4, 13), (1, 1), (4, 14), (4, 15), (4, 16), (4, 17), (4, 18), (4, 19), (4, 20), (4, 21), (4, 22), (1, 2), (1, 3), (0, 1), (0, 2), (0, 3), (0, 4), (0, 5), (0, 6), (0, 7), (4, 23), (0, 8), (4, 24), (0, 9), (0, 10), (0, 11), (0, 12), (4, 25), (0, 13), (0, 24), (0, 25), (0, 26), (1, 2), (1, 1), (0, 27), (4, 26), (4, 27), (0, 18), (0, 19)]))]
-- FarMachineModel.isSo
noncomputable def k383 : ckCtr := (92, ([(0, (1, 0)), (1, (0, 0)), (2, (1, 1))], [], dC614, dT578, dG579, [], [], [(1, 0, 0, 0, [])], 0, 0), [([], [(0, 23)], dP615, [], [], [(0, 1), (0, 30), (0, 270), (0, 30), (0, 1)], [], [], [(23, 24, 0), (23, 26, 0), (27, 24, 0), (27, 26, 0)], [(1, 0, 0, 0, [])], 0, 0)], 38, 925, 0, 0)
noncomputable def k383_a : ckAs := []
noncomputable def k383_c : List (Nat × ckCtr) := [(16, k382)]
theorem k383_ok (l : Launch) : ckCtrOk l ckMT ckTW ckCL k383 := mt_92 (as := k383_a) (cs := k383_c) (gx := []) (f := 200000) rfl (ckHc (k382_ok l) (fun _ h => absurd h List.not_mem_nil)) True.intro (by decide +kernel)
noncomputable def dC616 : List ckC := [.inl (9, [(4, 10), (4, 11), (4, 12), (4, 13), (1, 1), (4, 14), (4, 15), (4, 16), (4, 17), (4, 18), (4, 19), (4, 20), (4, 21), (4, 22), (1, 2), (1, 3), (0, 1), (0, 2), (0, 3), (0, 4), (0, 5), (0, 6), (0, 7), (1, 4), (0, 8), (4, 23), (0, 9), (0, 10), (0, 11), (0, 12), (4, 24), (0, 13), (0, 14), (0, 15), (0, 16), (5, 0), (5, 0), (0, 17), (4, 25), (4, 26), (0, 18), (0, 19)]), .inr (0, 20, 0), .inr (0, 21, 1), .inr (0, 22, 2), .inr (0, 23, 3)]
noncomputable def dT617 : List ckI := [(1, 60), (0, 1), (0, 1), (0, 8), (0, 40), (0, 6), (0, 8), (0, 10), (0, 0), ckTop, ckTop, ckTop, ckTop, (0, 30), ckTop, ckTop, ckTop, (0, 1), ckTop, (0, 1), (318, 318), (300, 300), (10, 10), (64, 64), (1, 99)]
noncomputable def dG618 : List ckG := [([(48, ckTop), (49, (0, 47)), (55, ckTop), (56, ckTop), (58, ckTop), (59, ckTop), (76, ckTop), (77, (0, 30)), (197, ckTop), (198, (0, 60)), (318, ckTop)], [(55, 24)], []), ([(300, ckTop)], [], []), ([(10, (0, 30))], [], []), ([(64, ckTop)], [], [])]
noncomputable def dP619 : List (Nat × ckC) := [(0, .inl (9, [(4, 10), (4, 11), (4, 12), (4, 13), (1, 1), (4, 14), (4, 15), (4, 16), (4, 17), (4, 18), (4, 19), (4, 20), (4, 21), (4, 22), (1, 2), (1, 3), (0, 1), (0, 2), (0, 3), (0, 4), (0, 5), (0, 6), (0, 7), (1, 4), (0, 26), (4, 23), (0, 9), (0, 10), (0, 11), (0, 12), (4, 24), (0, 13), (0, 27), (0, 28), (0, 29), (5, 0), (5, 0), (0, 30), (4, 25), (4, 26), (0, 18), (0, 19)])), (1, .inr (0, 20, 4)), (4, .inr (0, 23, 5))]
noncomputable def dG620 : List ckG := [([(48, ckTop), (49, (0, 47)), (50, ckTop), (51, ckTop), (52, ckTop), (53, ckTop), (54, ckTop), (55, ckTop), (56, ckTop), (58, ckTop), (59, ckTop), (60, ckTop), (68, ckTop), (69, ckTop), (76, ckTop), (77, (0, 30)), (78, ckTop), (79, ckTop), (80, ckTop), (81, ckTop), (197, ckTop), (198, (0, 60)), (318, ckTop)], [(55, 24)], []), ([(64, ckTop)], [], [])]
noncomputable def dP621 : List (Nat × ckC) := [(0, .inl (9, [(4, 10), (4, 11), (4, 12), (4, 13), (1, 1), (4, 14), (4, 15), (4, 16), (4, 17), (4, 18), (4, 19), (4, 20), (4, 21), (4, 22), (1, 2), (1, 3), (0, 1), (0, 2), (0, 3), (0, 4), (0, 5), (0, 6), (0, 7), (1, 4), (0, 29), (4, 23), (0, 9), (0, 10), (0, 11), (0, 12), (4, 24), (0, 13), (0, 30), (0, 31), (0, 32), (5, 0), (5, 0), (0, 33), (4, 25), (4, 26), (0, 18), (0, 19)])), (1, .inr (0, 20, 4)), (4, .inr (0, 23, 5))]
noncomputable def dT622 : List ckI := [(-9, 65535), (0, 60), (0, 60), ckTop, ckTop, ckTop, (0, 1)]
noncomputable def dZ623 : List ckZ := [(27, 0, 65533), (27, 28, 65533), (28, 0, 0), (29, 0, 0), (29, 28, 0)]
noncomputable def dP624 : List (Nat × ckC) := [(0, .inl (9, [(4, 10), (4, 11), (4, 12), (4, 13), (1, 1), (4, 14), (4, 15), (4, 16), (4, 17), (4, 18), (4, 19), (4, 20), (4, 21), (4, 22), (1, 2), (1, 3), (0, 1), (0, 2), (0, 3), (0, 4), (0, 5), (0, 6), (0, 7), (1, 4), (0, 34), (4, 23), (0, 9), (0, 10), (0, 11), (0, 12), (4, 24), (0, 13), (0, 41), (0, 42), (0, 43), (5, 0), (5, 0), (0, 44), (4, 25), (4, 26), (0, 18), (0, 19)]))]
noncomputable def dZ625 : List ckZ := [(27, 0, 65532), (27, 28, 65533), (28, 0, (-1)), (34, 0, 0), (34, 28, 1), (39, 0, 65532), (39, 27, 5918), (39, 28, 65533), (40, 7, 0)]
-- FarMachineModel.brokenIn
noncomputable def k384 : ckCtr := (94, ([(0, (1, 0)), (1, (1, 1)), (2, (0, 0))], [], dC616, dT617, dG618, [], [], [(1, 0, 0, 0, [])], 0, 0), [([], [(0, 25)], dP619, [], [], [(-9, 65535), (0, 60), ckTop, ckTop, ckTop, (0, 1)], dG620, [], [(25, 0, 65533), (26, 0, 0)], [(1, 0, 0, 0, []), (1, 4, 0, 0, [])], 0, 0)], 39, 947, 0, 0)
noncomputable def k384_a : ckAs := [(6, [(437492, [(1, 0, 1, ([(0, (1, 0)), (1, (1, 1)), (2, (0, 0)), (3, (0, 27)), (4, (0, 28))], [], dP621, [], [], dT622, dG620, [], dZ623, [(1, 0, 0, 0, []), (1, 4, 0, 0, [])], 0, 0))])]), (20, [(841260, [(1, 0, 1, ([(0, (1, 0)), (1, (1, 1)), (2, (0, 0)), (3, (0, 39)), (4, (0, 28)), (5, (0, 40))], [], dP624, [], [(29, (0, 59)), (34, (0, 61))], [(-9, 65535), (0, 10), ckTop, ckTop, ckTop, (0, 1)], [], [], dZ625, [(1, 6, 0, 0, []), (1, 4, 0, 0, []), (1, 0, 0, 0, [])], 0, 0))])])]
noncomputable def k384_c : List (Nat × ckCtr) := [(14, k207), (37, k383)]
theorem k384_ok (l : Launch) : ckCtrOk l ckMT ckTW ckCL k384 := mt_94 (as := k384_a) (cs := k384_c) (gx := []) (f := 200000) rfl (ckHc (k207_ok l) (ckHc (k383_ok l) (fun _ h => absurd h List.not_mem_nil))) True.intro (by decide +kernel)
noncomputable def dC626 : List ckC := [.inl (9, [(1, 1), (4, 10), (1, 2), (4, 11), (1, 3), (4, 12), (1, 4), (1, 5), (4, 13), (4, 14), (4, 15), (4, 16), (4, 17), (4, 18), (1, 6), (1, 7), (0, 2), (0, 3), (0, 4), (0, 5), (0, 6), (0, 7), (0, 8), (1, 8), (0, 9), (4, 19), (0, 10), (0, 11), (0, 12), (0, 13), (4, 20), (0, 14), (0, 15), (0, 16), (0, 17), (5, 0), (5, 0), (0, 18), (4, 21), (4, 22), (0, 19), (0, 20)]), .inr (0, 21, 0), .inr (0, 22, 1), .inr (0, 22, 2), .inr (0, 23, 3), .inr (0, 23, 4), .inr (0, 24, 5), .inr (0, 25, 6), .inr (0, 26, 7)]
noncomputable def dT627 : List ckI := [ckTop, ckTop, (0, 1), (0, 1), (0, 8), (0, 40), (0, 6), (0, 8), (0, 10), (0, 126000), ckTop, ckTop, ckTop, ckTop, (0, 30), ckTop, ckTop, ckTop, (0, 1), ckTop, (0, 1), (7, 7), (318, 318), (8, 8), (300, 300), (10, 10), (64, 64), (0, 99), (0, 126000)]
noncomputable def dG628 : List ckG := [([(7, ckTop)], [], []), ([(48, ckTop), (49, (0, 47)), (55, ckTop), (56, ckTop), (58, ckTop), (59, ckTop), (76, ckTop), (77, (0, 30)), (197, ckTop), (198, (0, 60)), (318, ckTop)], [(55, 27), (58, 28)], []), ([(318, ckTop)], [], []), ([(8, (0, 47))], [], []), ([(8, ckTop)], [], []), ([(300, ckTop)], [], []), ([(10, (0, 30))], [], []), ([(64, ckTop)], [], [])]
noncomputable def dP629 : List (Nat × ckC) := [(0, .inl (9, [(1, 1), (4, 10), (1, 2), (4, 11), (1, 3), (4, 12), (1, 4), (1, 5), (4, 13), (4, 14), (4, 15), (4, 16), (4, 17), (4, 18), (1, 6), (1, 7), (0, 2), (0, 3), (0, 4), (0, 5), (0, 6), (0, 7), (0, 8), (1, 8), (0, 30), (4, 19), (0, 10), (0, 11), (0, 12), (0, 13), (4, 20), (0, 14), (0, 31), (0, 32), (0, 33), (5, 0), (5, 0), (0, 34), (4, 21), (4, 22), (0, 19), (0, 20)])), (3, .inr (0, 22, 8)), (8, .inr (0, 26, 9))]
noncomputable def dG630 : List ckG := [([(48, ckTop), (49, (0, 47)), (50, ckTop), (51, ckTop), (52, ckTop), (53, ckTop), (54, ckTop), (55, ckTop), (56, ckTop), (58, ckTop), (59, ckTop), (60, ckTop), (68, ckTop), (69, ckTop), (76, ckTop), (77, (0, 30)), (78, ckTop), (79, ckTop), (80, ckTop), (81, ckTop), (197, ckTop), (198, (0, 60)), (318, ckTop)], [(55, 27)], []), ([(64, ckTop)], [], [])]
-- FarMachineModel.broken
noncomputable def k385 : ckCtr := (95, ([(0, (1, 0)), (1, (0, 0)), (2, (0, 1))], [], dC626, dT627, dG628, [], [], [(0, 2, 27, 0, [1, 1, 99]), (1, 1, 0, 0, [])], 0, 0), [([], [(0, 29)], [(1, .inr (0, 21, 8))], [], [(0, (1, 2147483647))], [(-1, -1), ckTop], [([(1, ckTop), (2, ckTop), (7, ckTop)], [(1, 30)], [])], [], [], [(0, 2, 27, 0, [1, 1, 99]), (1, 1, 0, 0, [])], 0, 0), ([], [(0, 29)], [(1, .inr (0, 21, 8))], [], [(0, (-2147483648, -1))], [(-1, -1), ckTop], [([(1, ckTop), (2, ckTop), (7, ckTop)], [(1, 30)], [])], [], [], [(0, 2, 27, 0, [1, 1, 99]), (1, 1, 0, 0, [])], 0, 0), ([], [(0, 29)], [(1, .inr (0, 21, 8))], [], [(0, (0, 255)), (1, (61, 2147483647))], [(-6, -6), ckTop], [([(6, ckTop), (7, ckTop)], [(6, 30)], [])], [], [], [(0, 2, 27, 0, [1, 1, 99]), (1, 1, 0, 0, [])], 0, 0), ([], [(0, 29)], [(1, .inr (0, 21, 8))], [], [(0, (0, 255)), (1, (1, 60)), (2, (0, 0))], [(-3, -3), ckTop], [([(3, ckTop), (4, ckTop), (7, ckTop)], [(3, 30)], [])], [], [], [(0, 2, 27, 0, [1, 1, 99]), (1, 1, 0, 0, [])], 0, 0), ([], [(0, 29)], dP629, [], [(0, (0, 255)), (1, (1, 60)), (2, (1, 1)), (27, (1, 99))], [(-9, 65535), (0, 60), ckTop, ckTop, ckTop, (0, 1)], dG630, [], [(29, 1, 65533), (30, 1, 0)], [(1, 8, 0, 0, []), (0, 2, 27, 0, [1, 1, 99]), (1, 1, 0, 0, [])], 0, 0), ([], [(0, 29)], [(1, .inr (0, 21, 8))], [], [(0, (0, 255)), (1, (-2147483648, 0))], [(-4, -4), ckTop], [([(4, ckTop), (5, ckTop), (7, ckTop)], [(4, 30)], [])], [], [], [(0, 2, 27, 0, [1, 1, 99]), (1, 1, 0, 0, [])], 0, 0)], 40, 972, 0, 0)
noncomputable def k385_a : ckAs := [(49, [(186135, [(5, 0, 0, ([], [], [], [], [], [], [], [], [], [(0, 0, 0, 0, [2, 27, 1, 1, 99])], 0, 0))])])]
noncomputable def k385_c : List (Nat × ckCtr) := [(7, k191), (17, k192), (45, k22), (45, k23), (45, k193), (45, k24), (51, k194), (60, k384)]
theorem k385_ok (l : Launch) : ckCtrOk l ckMT ckTW ckCL k385 := mt_95 (as := k385_a) (cs := k385_c) (gx := []) (f := 200000) rfl (ckHc (k191_ok l) (ckHc (k192_ok l) (ckHc (k22_ok l) (ckHc (k23_ok l) (ckHc (k193_ok l) (ckHc (k24_ok l) (ckHc (k194_ok l) (ckHc (k384_ok l) (fun _ h => absurd h List.not_mem_nil))))))))) True.intro (by decide +kernel)
-- FarMachine$Commands.isFull
noncomputable def k386 : ckCtr := (118, ([(0, (1, 0))], [], dC226, [ckTop, (6, 6)], [([(6, ckTop)], [], [])], [], [], [], 0, 0), [([], [(0, 2)], [], [], [(0, (6, 2147483647))], [(1, 1)], [], [], [], [], 0, 0), ([], [(0, 2)], [], [], [(0, (-2147483648, 5))], [(0, 0)], [], [], [], [], 0, 0)], 1, 80, 0, 0)
noncomputable def k386_a : ckAs := []
noncomputable def k386_c : List (Nat × ckCtr) := []
theorem k386_ok (l : Launch) : ckCtrOk l ckMT ckTW ckCL k386 := mt_118 (as := k386_a) (cs := k386_c) (gx := []) (f := 200000) rfl (fun _ h => absurd h List.not_mem_nil) True.intro (by decide +kernel)
noncomputable def dG631 : List ckG := [([(6, ckTop)], [], []), ([(6, ckTop)], [], []), ([(6, ckTop)], [], []), ([(6, ckTop)], [], [])]
-- FarMachine$Commands.add
noncomputable def k387 : ckCtr := (120, ([(0, (1, 0)), (1, (0, 0)), (2, (0, 1)), (3, (0, 2)), (4, (0, 3))], [], dC157, [ckTop, ckTop, ckTop, ckTop, ckTop, (6, 6)], dG631, [], [], [], 0, 0), [([], [], dP159, [], [(4, (0, 5))], [(1, 6)], dG631, [], [(4, 6, (-1)), (6, 4, 1)], [], 0, 0), ([], [], [], [], [(4, (6, 2147483647))], [], [], [], [], [], 0, 0), ([], [], [], [], [(4, (-2147483648, -1))], [], [], [], [], [], 0, 0)], 1, 80, 0, 0)
noncomputable def k387_a : ckAs := []
noncomputable def k387_c : List (Nat × ckCtr) := []
theorem k387_ok (l : Launch) : ckCtrOk l ckMT ckTW ckCL k387 := mt_120 (as := k387_a) (cs := k387_c) (gx := []) (f := 200000) rfl (fun _ h => absurd h List.not_mem_nil) True.intro (by decide +kernel)
noncomputable def dC632 : List ckC := [.inl (8, [(1, 1), (4, 10), (0, 3), (4, 11), (4, 12), (4, 13), (4, 14), (1, 2)]), .inl (7, [(4, 15), (4, 16), (0, 4), (4, 17), (4, 18), (4, 19), (4, 20), (4, 21), (1, 3), (4, 22)]), .inr (0, 5, 0), .inl (1, [(1, 4), (1, 5), (1, 6), (1, 7), (0, 6)]), .inr (0, 7, 1), .inr (0, 7, 2), .inr (0, 7, 3), .inr (0, 7, 4)]
noncomputable def dT633 : List ckI := [ckTop, ckTop, ckTop, (0, 1), (0, 1), (7, 7), ckTop, (6, 6)]
noncomputable def dG634 : List ckG := [([(7, ckTop)], [], []), ([(6, ckTop)], [], []), ([(6, ckTop)], [], []), ([(6, ckTop)], [], []), ([(6, ckTop)], [], [])]
noncomputable def dP635 : List (Nat × ckC) := [(2, .inr (0, 5, 5)), (3, .inl (1, [(1, 4), (1, 5), (1, 6), (1, 7), (0, 9)])), (4, .inr (0, 7, 6)), (5, .inr (0, 7, 7)), (6, .inr (0, 7, 8)), (7, .inr (0, 7, 9))]
-- FarMachine.ask
noncomputable def k388 : ckCtr := (21, ([(0, (1, 0)), (1, (0, 0)), (2, (0, 1)), (3, (0, 2))], [], dC632, dT633, dG634, [], [], [], 0, 0), [([], [(0, 8)], dP635, [], [], [ckTop, ckTop], dG634, [], [(6, 9, 0), (9, 6, 1)], [], 0, 0)], 3, 124, 0, 0)
noncomputable def k388_a : ckAs := []
noncomputable def k388_c : List (Nat × ckCtr) := [(10, k386), (13, k148), (26, k149), (41, k387)]
theorem k388_ok (l : Launch) : ckCtrOk l ckMT ckTW ckCL k388 := mt_21 (as := k388_a) (cs := k388_c) (gx := []) (f := 200000) rfl (ckHc (k386_ok l) (ckHc (k148_ok l) (ckHc (k149_ok l) (ckHc (k387_ok l) (fun _ h => absurd h List.not_mem_nil))))) True.intro (by decide +kernel)
noncomputable def dC636 : List ckC := [.inl (9, [(1, 1), (4, 10), (4, 11), (4, 12), (4, 13), (4, 14), (4, 15), (4, 16), (4, 17), (1, 2), (1, 3), (1, 4), (4, 18), (4, 19), (4, 20), (4, 21), (0, 3), (0, 4), (0, 5), (0, 6), (0, 7), (0, 8), (0, 9), (4, 22), (0, 10), (4, 23), (0, 11), (0, 12), (0, 13), (0, 14), (4, 24), (0, 15), (0, 16), (0, 17), (0, 18), (5, 0), (5, 0), (0, 19), (4, 25), (4, 26), (0, 20), (0, 21)]), .inr (0, 22, 0), .inr (0, 23, 1), .inr (0, 23, 2), .inr (0, 23, 3)]
noncomputable def dT637 : List ckI := [ckTop, ckTop, ckTop, (0, 1), (0, 1), (0, 8), (0, 40), (0, 6), (0, 8), (0, 10), (0, 126000), ckTop, ckTop, ckTop, ckTop, (0, 30), ckTop, ckTop, ckTop, (0, 1), ckTop, (0, 1), (7, 7), (6, 6)]
noncomputable def dG638 : List ckG := [([(7, ckTop)], [], []), ([(6, ckTop)], [], []), ([(6, ckTop)], [], []), ([(6, ckTop)], [], [])]
noncomputable def dP639 : List (Nat × ckC) := [(0, .inl (9, [(1, 1), (4, 10), (4, 11), (4, 12), (4, 13), (4, 14), (4, 15), (4, 16), (4, 17), (1, 2), (1, 3), (1, 4), (4, 18), (4, 19), (4, 20), (4, 21), (0, 3), (0, 4), (0, 5), (0, 6), (0, 25), (0, 8), (0, 9), (4, 22), (0, 10), (4, 23), (0, 11), (0, 12), (0, 13), (0, 14), (4, 24), (0, 15), (0, 16), (0, 17), (0, 18), (5, 0), (5, 0), (0, 19), (4, 25), (4, 26), (0, 20), (0, 21)])), (1, .inr (0, 22, 4)), (2, .inr (0, 23, 5)), (3, .inr (0, 23, 6)), (4, .inr (0, 23, 7))]
noncomputable def dG640 : List ckG := [([(1, ckTop), (2, ckTop), (3, ckTop), (4, ckTop), (5, ckTop), (6, ckTop), (7, ckTop)], [], []), ([(6, ckTop)], [], []), ([(6, ckTop)], [], []), ([(6, ckTop)], [], [])]
-- FarMachineModel.ask
noncomputable def k389 : ckCtr := (96, ([(0, (1, 0)), (1, (0, 0)), (2, (0, 1)), (3, (0, 2))], [], dC636, dT637, dG638, [], [], [(2, 1, 2, 3, [])], 0, 0), [([], [(0, 24)], dP639, [], [], [(-6, 5), (0, 6)], dG640, [], [(7, 25, 0), (24, 7, 0), (24, 25, (-1)), (25, 7, 1)], [(2, 1, 2, 3, []), (2, 5, 6, 7, [])], 0, 0)], 3, 127, 0, 0)
noncomputable def k389_a : ckAs := [(65, [(871741, [(4, 5, 0, ([], [], [], [], [], [], [], [], [], [(0, 0, 0, 0, [1, 2, 3, 4, 5, 6, 7, 0, 1, 2])], 0, 0))]), (535986, [(4, 5, 0, ([], [], [], [], [], [], [], [], [], [(0, 0, 0, 0, [1, 2, 3, 4, 5, 6, 7, 0, 1, 2])], 0, 0))]), (437520, [(4, 5, 0, ([], [], [], [], [], [], [], [], [], [(0, 0, 0, 0, [1, 2, 3, 4, 5, 6, 7, 0, 1, 2])], 0, 0))])])]
noncomputable def k389_c : List (Nat × ckCtr) := [(18, k152), (31, k33), (31, k22), (31, k23), (31, k24)]
theorem k389_ok (l : Launch) : ckCtrOk l ckMT ckTW ckCL k389 := mt_96 (as := k389_a) (cs := k389_c) (gx := []) (f := 200000) rfl (ckHc (k152_ok l) (ckHc (k33_ok l) (ckHc (k22_ok l) (ckHc (k23_ok l) (ckHc (k24_ok l) (fun _ h => absurd h List.not_mem_nil)))))) True.intro (by decide +kernel)
noncomputable def dC641 : List ckC := [.inl (8, [(1, 1), (4, 10), (0, 1), (4, 11), (4, 12), (4, 13), (4, 14), (4, 15)]), .inl (7, [(4, 16), (4, 17), (0, 2), (4, 18), (4, 19), (4, 20), (4, 21), (4, 22), (1, 2), (4, 23)]), .inl (1, [(4, 24), (4, 25), (4, 26), (4, 27), (0, 3)])]
-- FarMachine.isAsk
noncomputable def k390 : ckCtr := (38, ([(0, (1, 0)), (1, (0, 0))], [], dC641, [ckTop, (0, 1), (0, 1), ckTop], [], [], [], [], 0, 0), [([], [(0, 4)], [], [], [(0, (0, 2147483646)), (3, (1, 2147483647))], [(1, 1)], [], [], [(0, 3, (-1))], [], 0, 0), ([], [(0, 4)], [], [], [], [(0, 0)], [], [], [], [], 0, 0)], 1, 80, 0, 0)
noncomputable def k390_a : ckAs := []
noncomputable def k390_c : List (Nat × ckCtr) := []
theorem k390_ok (l : Launch) : ckCtrOk l ckMT ckTW ckCL k390 := mt_38 (as := k390_a) (cs := k390_c) (gx := []) (f := 200000) rfl (fun _ h => absurd h List.not_mem_nil) True.intro (by decide +kernel)
-- FarMachine$Commands.has
noncomputable def k391 : ckCtr := (119, ([(0, (1, 0)), (1, (0, 0))], [], dC150, [ckTop, ckTop, (6, 6)], [([(6, ckTop)], [], [])], [], [], [], 0, 0), [([], [(0, 3)], [], [], [(0, (0, 5)), (1, (1, 2147483647))], [(1, 1)], [], [], [(0, 1, (-1))], [], 0, 0), ([], [(0, 3)], [], [], [], [(0, 0)], [], [], [], [], 0, 0)], 1, 80, 0, 0)
noncomputable def k391_a : ckAs := []
noncomputable def k391_c : List (Nat × ckCtr) := []
theorem k391_ok (l : Launch) : ckCtrOk l ckMT ckTW ckCL k391 := mt_119 (as := k391_a) (cs := k391_c) (gx := []) (f := 200000) rfl (fun _ h => absurd h List.not_mem_nil) True.intro (by decide +kernel)
noncomputable def dC642 : List ckC := [.inl (1, [(1, 2), (1, 3), (1, 4), (4, 10), (0, 1)]), .inl (2, [(1, 5), (4, 11), (4, 12), (0, 2), (0, 3), (0, 4), (0, 5), (0, 6), (0, 7), (0, 8), (0, 9), (0, 10), (0, 11), (0, 12), (0, 13), (0, 14)]), .inr (0, 15, 0), .inr (0, 15, 1), .inr (0, 15, 2), .inr (0, 16, 3)]
noncomputable def dT643 : List ckI := [ckTop, ckTop, ckTop, ckTop, ckTop, ckTop, ckTop, ckTop, ckTop, ckTop, ckTop, ckTop, ckTop, ckTop, ckTop, (6, 6), (48, 48)]
noncomputable def dG644 : List ckG := [([(6, ckTop)], [], []), ([(6, ckTop)], [], []), ([(6, ckTop)], [], []), ([(48, ckTop)], [], [])]
noncomputable def dP645 : List (Nat × ckC) := [(1, .inl (2, [(1, 5), (4, 11), (4, 12), (0, 2), (0, 17), (0, 4), (0, 5), (0, 6), (0, 7), (0, 18), (0, 9), (0, 10), (0, 11), (0, 12), (0, 13), (0, 14)])), (5, .inr (0, 16, 4))]
-- FarMachine$Commands.doTo
noncomputable def k392 : ckCtr := (122, ([(0, (1, 0)), (1, (1, 1)), (2, (0, 0))], [], dC642, dT643, dG644, [], [], [], 0, 0), [([], [], dP645, [], [], [ckTop, ckTop], [([(48, ckTop)], [], [])], [], [], [], 0, 0)], 3, 122, 0, 0)
noncomputable def k392_a : ckAs := []
noncomputable def k392_c : List (Nat × ckCtr) := [(2, k391), (30, k18), (38, k391), (61, k111)]
theorem k392_ok (l : Launch) : ckCtrOk l ckMT ckTW ckCL k392 := mt_122 (as := k392_a) (cs := k392_c) (gx := []) (f := 200000) rfl (ckHc (k391_ok l) (ckHc (k18_ok l) (ckHc (k391_ok l) (ckHc (k111_ok l) (fun _ h => absurd h List.not_mem_nil))))) True.intro (by decide +kernel)
-- FarMachine$Rows.areAlike
noncomputable def k393 : ckCtr := (157, ([(0, (1, 0)), (1, (0, 0)), (2, (0, 1))], [], [.inl (3, [(1, 1), (0, 2), (0, 3)]), .inr (1, 4, 0)], [ckTop, ckTop, ckTop, ckTop, (2048, 2048)], [([(2048, (0, 0))], [], [])], [], [], [], 0, 0), [([], [(0, 5)], [], [], [], [(0, 0)], [], [], [], [], 0, 0), ([], [(0, 5)], [], [], [], [(1, 1)], [], [], [], [], 0, 0)], 1, 80, 0, 0)
noncomputable def k393_a : ckAs := [(2, [(436979, [(1, 0, 0, ([(0, (1, 0)), (1, (0, 0)), (2, (0, 1)), (3, (0, 6))], [], [], [], [], [(0, 8)], [], [], [], [], 0, 0))])])]
noncomputable def k393_c : List (Nat × ckCtr) := []
theorem k393_ok (l : Launch) : ckCtrOk l ckMT ckTW ckCL k393 := mt_157 (as := k393_a) (cs := k393_c) (gx := []) (f := 200000) rfl (fun _ h => absurd h List.not_mem_nil) True.intro (by decide +kernel)
-- FarMachine$Rows.isNew
noncomputable def k394 : ckCtr := (156, ([(0, (1, 0))], [], [.inl (3, [(1, 1), (0, 0), (0, 1)]), .inr (1, 2, 0)], [ckTop, ckTop, (2048, 2048)], [([(2048, (0, 0))], [], [])], [], [], [], 0, 0), [([], [(0, 3)], [], [], [(1, (1, 2147483647))], [(0, 0)], [], [], [], [], 0, 0), ([], [(0, 3)], [], [], [], [(1, 1)], [], [], [], [], 0, 0)], 2, 106, 0, 0)
noncomputable def k394_a : ckAs := [(2, [(211284, [(1, 0, 0, ([(0, (1, 0)), (1, (0, 4))], [], [], [], [], [(0, 2147483647)], [], [], [], [], 0, 0))])])]
noncomputable def k394_c : List (Nat × ckCtr) := [(16, k393)]
theorem k394_ok (l : Launch) : ckCtrOk l ckMT ckTW ckCL k394 := mt_156 (as := k394_a) (cs := k394_c) (gx := []) (f := 200000) rfl (ckHc (k393_ok l) (fun _ h => absurd h List.not_mem_nil)) True.intro (by decide +kernel)
-- FarMachine$Rows.finish
noncomputable def k395 : ckCtr := (155, ([(0, (1, 0))], [], [.inl (3, [(1, 1), (0, 0), (0, 1)]), .inr (1, 2, 0)], [ckTop, ckTop, (2048, 2048)], [([(2048, (0, 0))], [], [])], [], [], [], 0, 0), [([], [], [(0, .inl (3, [(1, 1), (0, 0), (0, 3)]))], [], [], [ckTop], [], [], [(1, 3, 0), (3, 1, 1)], [], 0, 0)], 3, 127, 0, 0)
noncomputable def k395_a : ckAs := []
noncomputable def k395_c : List (Nat × ckCtr) := [(1, k337), (36, k394)]
theorem k395_ok (l : Launch) : ckCtrOk l ckMT ckTW ckCL k395 := mt_155 (as := k395_a) (cs := k395_c) (gx := []) (f := 200000) rfl (ckHc (k337_ok l) (ckHc (k394_ok l) (fun _ h => absurd h List.not_mem_nil))) True.intro (by decide +kernel)
noncomputable def dC646 : List ckC := [.inl (6, [(1, 1), (1, 2), (1, 3), (1, 4), (1, 5), (0, 3), (0, 4), (0, 5), (0, 6), (0, 7)]), .inl (7, [(4, 10), (1, 6), (0, 8), (4, 11), (4, 12), (1, 7), (1, 8), (1, 9), (1, 10), (4, 13)]), .inl (0, [(1, 11), (0, 9)]), .inl (2, [(1, 12), (1, 13), (1, 14), (0, 10), (0, 11), (0, 12), (0, 13), (0, 14), (0, 15), (0, 16), (0, 17), (0, 18), (0, 19), (0, 20), (0, 21), (0, 22)]), .inr (0, 23, 0), .inl (3, [(1, 15), (0, 24), (0, 25)]), .inl (2, [(1, 16), (1, 17), (1, 18), (0, 26), (0, 27), (0, 28), (0, 29), (0, 30), (0, 31), (0, 32), (0, 33), (0, 34), (0, 35), (0, 36), (0, 37), (0, 38)]), .inl (0, [(1, 19), (0, 39)]), .inl (0, [(1, 20), (0, 40)]), .inl (5, [(1, 21), (1, 22), (1, 23), (1, 24), (1, 25), (0, 41)]), .inl (1, [(1, 26), (1, 27), (1, 28), (4, 14), (0, 42)]), .inr (0, 43, 1), .inr (0, 44, 2), .inr (0, 23, 3), .inl (1, [(1, 29), (1, 30), (1, 31), (1, 32), (0, 45)]), .inr (1, 46, 4), .inr (0, 44, 5), .inr (0, 23, 6), .inl (1, [(1, 33), (1, 34), (1, 35), (1, 36), (0, 47)]), .inr (0, 23, 7), .inr (0, 23, 8), .inr (0, 48, 9), .inr (0, 48, 10), .inr (0, 48, 11), .inr (0, 48, 12), .inr (0, 49, 13), .inr (0, 50, 14), .inr (0, 50, 15), .inr (0, 50, 16), .inr (0, 51, 17), .inr (0, 51, 18), .inr (0, 51, 19), .inr (0, 51, 20), .inr (0, 51, 21), .inr (0, 51, 22), .inr (0, 51, 23), .inr (0, 51, 24)]
noncomputable def dT647 : List ckI := [ckTop, ckTop, ckTop, ckTop, ckTop, ckTop, ckTop, (0, 1), (0, 1), (0, 40), ckTop, ckTop, ckTop, ckTop, ckTop, ckTop, ckTop, ckTop, ckTop, ckTop, ckTop, ckTop, ckTop, (8, 8), ckTop, ckTop, ckTop, ckTop, ckTop, ckTop, ckTop, ckTop, ckTop, ckTop, ckTop, ckTop, ckTop, ckTop, ckTop, ckTop, ckTop, (0, 10), ckTop, (40, 40), (48, 48), ckTop, (2048, 2048), ckTop, (70, 70), (10, 10), (6, 6), (30, 30)]
noncomputable def dG648 : List ckG := [([(8, ckTop)], [], []), ([(40, ckTop)], [], []), ([(48, ckTop)], [], []), ([(8, ckTop)], [], []), ([(2048, (0, 0))], [], []), ([(48, ckTop)], [], []), ([(8, ckTop)], [], []), ([(8, ckTop)], [], []), ([(8, ckTop)], [], []), ([(70, ckTop)], [], []), ([(70, ckTop)], [], []), ([(70, ckTop)], [], []), ([(70, ckTop)], [], []), ([(10, ckTop)], [], []), ([(6, ckTop)], [], []), ([(6, ckTop)], [], []), ([(6, ckTop)], [], []), ([(30, ckTop)], [], []), ([(30, ckTop)], [], []), ([(30, ckTop)], [], []), ([(30, ckTop)], [], []), ([(30, ckTop)], [], []), ([(30, ckTop)], [], []), ([(30, ckTop)], [], []), ([(30, ckTop)], [], [])]
noncomputable def dP649 : List (Nat × ckC) := [(0, .inl (6, [(1, 1), (1, 2), (1, 3), (1, 4), (1, 5), (0, 52), (0, 4), (0, 5), (0, 6), (0, 53)])), (3, .inl (2, [(1, 12), (1, 13), (1, 14), (0, 54), (0, 55), (0, 56), (0, 57), (0, 58), (0, 59), (0, 60), (0, 61), (0, 62), (0, 63), (0, 64), (0, 65), (0, 66)])), (4, .inr (0, 23, 25)), (5, .inl (3, [(1, 15), (0, 67), (0, 68)])), (12, .inr (0, 44, 26)), (13, .inr (0, 23, 27)), (14, .inl (1, [(1, 29), (1, 30), (1, 31), (1, 32), (0, 69)])), (29, .inr (0, 51, 28)), (30, .inr (0, 51, 29)), (31, .inr (0, 51, 30)), (32, .inr (0, 51, 31))]
noncomputable def dT650 : List ckI := [(0, 2147483647), (0, 1), ckTop, ckTop, ckTop, ckTop, ckTop, ckTop, ckTop, ckTop, ckTop, ckTop, ckTop, ckTop, ckTop, ckTop, (0, 2147483647), ckTop]
noncomputable def dG651 : List ckG := [([(1, ckTop), (2, ckTop), (3, ckTop), (4, ckTop), (5, ckTop), (6, ckTop), (7, ckTop), (8, ckTop)], [], []), ([(48, ckTop)], [], []), ([(8, ckTop)], [], []), ([(30, ckTop)], [], []), ([(30, ckTop)], [], []), ([(30, ckTop)], [], []), ([(30, ckTop)], [], [])]
noncomputable def dP652 : List (Nat × ckC) := [(0, .inl (6, [(1, 1), (1, 2), (1, 3), (1, 4), (1, 5), (0, 58), (0, 4), (0, 5), (0, 6), (0, 59)])), (3, .inl (2, [(1, 12), (1, 13), (1, 14), (0, 60), (0, 61), (0, 62), (0, 63), (0, 64), (0, 65), (0, 66), (0, 67), (0, 68), (0, 69), (0, 70), (0, 71), (0, 72)])), (4, .inr (0, 23, 25)), (5, .inl (3, [(1, 15), (0, 73), (0, 74)])), (12, .inr (0, 44, 26)), (13, .inr (0, 23, 27)), (14, .inl (1, [(1, 29), (1, 30), (1, 31), (1, 32), (0, 75)])), (29, .inr (0, 51, 28)), (30, .inr (0, 51, 29)), (31, .inr (0, 51, 30)), (32, .inr (0, 51, 31))]
noncomputable def dT653 : List ckI := [(0, 2147483647), (0, 2147483647), (0, 1), ckTop, ckTop, ckTop, ckTop, ckTop, ckTop, ckTop, ckTop, ckTop, ckTop, ckTop, ckTop, ckTop, ckTop, (0, 2147483647), ckTop]
-- FarMachine$Trials.judge
noncomputable def k396 : ckCtr := (181, ([(0, (1, 0)), (1, (0, 0)), (2, (0, 1)), (3, (0, 2))], [], dC646, dT647, dG648, [], [], [], 0, 0), [([], [], dP649, [], [], dT650, dG651, [], [(68, 52, 0)], [], 0, 0)], 7, 218, 0, 0)
noncomputable def k396_a : ckAs := [(30, [(902568, [(1, 0, 0, ([(0, (1, 0)), (1, (0, 0)), (2, (0, 1)), (3, (0, 2)), (4, (0, 55)), (5, (0, 57))], [], dP652, [], [], dT653, dG651, [], [(58, 57, 0), (74, 57, 0), (74, 58, 0)], [], 0, 0))])])]
noncomputable def k396_c : List (Nat × ckCtr) := [(22, k184), (41, k189), (69, k392), (75, k341), (102, k395)]
theorem k396_ok (l : Launch) : ckCtrOk l ckMT ckTW ckCL k396 := mt_181 (as := k396_a) (cs := k396_c) (gx := []) (f := 200000) rfl (ckHc (k184_ok l) (ckHc (k189_ok l) (ckHc (k392_ok l) (ckHc (k341_ok l) (ckHc (k395_ok l) (fun _ h => absurd h List.not_mem_nil)))))) True.intro (by decide +kernel)
noncomputable def dC654 : List ckC := [.inl (8, [(1, 1), (4, 10), (0, 3), (1, 2), (4, 11), (1, 3), (4, 12), (1, 4)]), .inl (7, [(4, 13), (1, 5), (0, 4), (4, 14), (4, 15), (1, 6), (1, 7), (1, 8), (1, 9), (4, 16)]), .inl (0, [(1, 10), (0, 5)]), .inl (6, [(1, 1), (1, 2), (1, 11), (1, 12), (1, 13), (0, 6), (0, 7), (0, 8), (0, 9), (0, 10)]), .inr (0, 11, 0), .inl (2, [(1, 14), (1, 15), (1, 16), (0, 12), (0, 13), (0, 14), (0, 15), (0, 16), (0, 17), (0, 18), (0, 19), (0, 20), (0, 21), (0, 22), (0, 23), (0, 24)]), .inl (0, [(1, 17), (0, 25)]), .inl (0, [(1, 18), (0, 26)]), .inl (5, [(1, 19), (1, 20), (1, 21), (1, 22), (1, 23), (0, 27)]), .inl (1, [(1, 24), (1, 25), (1, 26), (4, 17), (0, 28)]), .inr (0, 29, 1), .inl (2, [(1, 27), (1, 28), (1, 29), (0, 30), (0, 31), (0, 32), (0, 33), (0, 34), (0, 35), (0, 36), (0, 37), (0, 38), (0, 39), (0, 40), (0, 41), (0, 42)]), .inr (0, 43, 2), .inl (3, [(1, 30), (0, 44), (0, 45)]), .inr (0, 46, 3), .inr (0, 43, 4), .inl (1, [(1, 31), (1, 32), (1, 33), (1, 34), (0, 47)]), .inr (0, 43, 5), .inr (0, 43, 6), .inr (0, 48, 7), .inr (0, 48, 8), .inr (0, 48, 9), .inr (0, 48, 10), .inr (0, 49, 11), .inr (0, 50, 12), .inr (0, 50, 13), .inr (0, 50, 14), .inr (0, 46, 15), .inr (0, 43, 16), .inl (1, [(1, 35), (1, 36), (1, 37), (1, 38), (0, 51)]), .inr (1, 52, 17), .inr (0, 53, 18), .inr (0, 53, 19), .inr (0, 53, 20), .inr (0, 53, 21), .inr (0, 53, 22), .inr (0, 53, 23), .inr (0, 53, 24), .inr (0, 53, 25)]
noncomputable def dT655 : List ckI := [ckTop, ckTop, ckTop, (0, 1), (0, 1), (0, 40), ckTop, ckTop, ckTop, ckTop, (0, 1), (7, 7), ckTop, ckTop, ckTop, ckTop, ckTop, ckTop, ckTop, ckTop, ckTop, ckTop, ckTop, ckTop, ckTop, ckTop, ckTop, (0, 10), ckTop, (40, 40), ckTop, ckTop, ckTop, ckTop, ckTop, ckTop, ckTop, ckTop, ckTop, ckTop, ckTop, ckTop, ckTop, (8, 8), ckTop, ckTop, (48, 48), ckTop, (70, 70), (10, 10), (6, 6), ckTop, (2048, 2048), (30, 30)]
noncomputable def dG656 : List ckG := [([(7, ckTop)], [], []), ([(40, ckTop)], [], []), ([(8, ckTop)], [], []), ([(48, ckTop)], [], []), ([(8, ckTop)], [], []), ([(8, ckTop)], [], []), ([(8, ckTop)], [], []), ([(70, ckTop)], [], []), ([(70, ckTop)], [], []), ([(70, ckTop)], [], []), ([(70, ckTop)], [], []), ([(10, ckTop)], [], []), ([(6, ckTop)], [], []), ([(6, ckTop)], [], []), ([(6, ckTop)], [], []), ([(48, ckTop)], [], []), ([(8, ckTop)], [], []), ([(2048, (0, 0))], [], []), ([(30, ckTop)], [], []), ([(30, ckTop)], [], []), ([(30, ckTop)], [], []), ([(30, ckTop)], [], []), ([(30, ckTop)], [], []), ([(30, ckTop)], [], []), ([(30, ckTop)], [], []), ([(30, ckTop)], [], [])]
noncomputable def dP657 : List (Nat × ckC) := [(3, .inl (6, [(1, 1), (1, 2), (1, 11), (1, 12), (1, 13), (0, 55), (0, 7), (0, 8), (0, 9), (0, 56)])), (4, .inr (0, 11, 26)), (11, .inl (2, [(1, 27), (1, 28), (1, 29), (0, 57), (0, 58), (0, 59), (0, 60), (0, 61), (0, 62), (0, 63), (0, 64), (0, 65), (0, 66), (0, 67), (0, 68), (0, 69)])), (12, .inr (0, 43, 27)), (13, .inl (3, [(1, 30), (0, 70), (0, 71)])), (27, .inr (0, 46, 28)), (28, .inr (0, 43, 29)), (29, .inl (1, [(1, 35), (1, 36), (1, 37), (1, 38), (0, 72)])), (35, .inr (0, 53, 30)), (36, .inr (0, 53, 31)), (37, .inr (0, 53, 32)), (38, .inr (0, 53, 33))]
noncomputable def dT658 : List ckI := [(-6, 1), ckTop, (0, 1), ckTop, ckTop, ckTop, ckTop, ckTop, ckTop, ckTop, ckTop, ckTop, ckTop, ckTop, ckTop, ckTop, ckTop, ckTop, ckTop]
noncomputable def dG659 : List ckG := [([(3, ckTop), (4, ckTop), (7, ckTop)], [], []), ([(1, ckTop), (2, ckTop), (3, ckTop), (4, ckTop), (5, ckTop), (6, ckTop), (7, ckTop), (8, ckTop)], [], []), ([(48, ckTop)], [], []), ([(8, ckTop)], [], []), ([(30, ckTop)], [], []), ([(30, ckTop)], [], []), ([(30, ckTop)], [], []), ([(30, ckTop)], [], [])]
-- FarMachine.safe
noncomputable def k397 : ckCtr := (22, ([(0, (1, 0)), (1, (0, 0)), (2, (0, 1)), (3, (0, 2))], [], dC654, dT655, dG656, [], [], [], 0, 0), [([], [(0, 54)], dP657, [], [], dT658, dG659, [], [(54, 4, 0), (54, 56, 0)], [], 0, 0)], 8, 243, 0, 0)
noncomputable def k397_a : ckAs := []
noncomputable def k397_c : List (Nat × ckCtr) := [(3, k390), (8, k186), (21, k149), (32, k396), (48, k172)]
theorem k397_ok (l : Launch) : ckCtrOk l ckMT ckTW ckCL k397 := mt_22 (as := k397_a) (cs := k397_c) (gx := []) (f := 200000) rfl (ckHc (k390_ok l) (ckHc (k186_ok l) (ckHc (k149_ok l) (ckHc (k396_ok l) (ckHc (k172_ok l) (fun _ h => absurd h List.not_mem_nil)))))) True.intro (by decide +kernel)
-- FarMachineModel.isIn
noncomputable def k398 : ckCtr := (45, ([(0, (0, 0)), (1, (0, 1))], [], [], [ckTop, (0, 6)], [], [], [], [], 0, 0), [([], [(0, 2)], [], [], [(0, (0, 5)), (1, (1, 6))], [(1, 1)], [], [], [(0, 1, (-1))], [], 0, 0), ([], [(0, 2)], [], [], [(0, (0, 2147483647))], [(0, 0)], [], [], [(1, 0, 0)], [], 0, 0), ([], [(0, 2)], [], [], [(0, (-2147483648, -1))], [(0, 0)], [], [], [], [], 0, 0)], 1, 80, 0, 0)
noncomputable def k398_a : ckAs := []
noncomputable def k398_c : List (Nat × ckCtr) := []
theorem k398_ok (l : Launch) : ckCtrOk l ckMT ckTW ckCL k398 := mt_45 (as := k398_a) (cs := k398_c) (gx := []) (f := 200000) rfl (fun _ h => absurd h List.not_mem_nil) True.intro (by decide +kernel)
noncomputable def dC660 : List ckC := [.inl (9, [(4, 10), (4, 11), (1, 1), (4, 12), (1, 2), (4, 13), (1, 3), (1, 4), (1, 5), (4, 14), (4, 15), (4, 16), (4, 17), (4, 18), (4, 19), (4, 20), (0, 2), (0, 3), (0, 4), (0, 5), (0, 6), (0, 7), (0, 8), (1, 6), (0, 9), (1, 7), (0, 10), (0, 11), (0, 12), (0, 13), (4, 21), (0, 14), (0, 15), (0, 16), (0, 17), (5, 0), (5, 0), (0, 18), (4, 22), (4, 23), (0, 19), (0, 20)]), .inr (0, 21, 0), .inr (0, 21, 1), .inr (0, 22, 2), .inr (0, 22, 3), .inr (0, 23, 4), .inr (0, 24, 5), .inr (2, 25, 6)]
noncomputable def dT661 : List ckI := [ckTop, ckTop, (0, 1), (0, 1), (0, 8), (0, 40), (0, 6), (0, 8), (0, 10), (0, 130000), ckTop, ckTop, ckTop, ckTop, (0, 30), ckTop, ckTop, ckTop, (0, 1), ckTop, (0, 1), (318, 318), (8, 8), (40, 40), (64, 64), (256, 256), (0, 99), (0, 128000)]
noncomputable def dG662 : List ckG := [([(48, ckTop), (49, (0, 47)), (55, ckTop), (56, ckTop), (58, ckTop), (59, ckTop), (76, ckTop), (77, (0, 30)), (197, ckTop), (198, (0, 60)), (318, ckTop)], [(55, 26), (58, 27)], []), ([(318, ckTop)], [], []), ([(8, (0, 47))], [], []), ([(8, ckTop)], [], []), ([(40, ckTop)], [], []), ([(64, ckTop)], [], []), ([(256, (0, 1))], [], [])]
noncomputable def dP663 : List (Nat × ckC) := [(0, .inl (9, [(4, 10), (4, 11), (1, 1), (4, 12), (1, 2), (4, 13), (1, 3), (1, 4), (1, 5), (4, 14), (4, 15), (4, 16), (4, 17), (4, 18), (4, 19), (4, 20), (0, 2), (0, 3), (0, 4), (0, 5), (0, 6), (0, 7), (0, 8), (1, 6), (0, 29), (1, 7), (0, 30), (0, 31), (0, 32), (0, 33), (4, 21), (0, 14), (0, 15), (0, 16), (0, 17), (5, 0), (5, 0), (0, 18), (4, 22), (4, 23), (0, 19), (0, 20)])), (2, .inr (0, 21, 7)), (6, .inr (0, 24, 8)), (7, .inr (2, 25, 9))]
noncomputable def dT664 : List ckI := [(-3, -3), (0, 60), (0, 0), (0, 255), (0, 255), (-9, 254), ckTop]
noncomputable def dG665 : List ckG := [([(48, ckTop), (49, (0, 47)), (50, ckTop), (51, ckTop), (52, ckTop), (53, ckTop), (54, ckTop), (55, ckTop), (56, ckTop), (58, ckTop), (59, ckTop), (60, ckTop), (68, ckTop), (69, ckTop), (76, ckTop), (77, (0, 30)), (78, ckTop), (79, ckTop), (80, ckTop), (81, ckTop), (197, ckTop), (198, (0, 60)), (318, ckTop)], [(55, 26), (58, 34)], []), ([(64, ckTop)], [], []), ([(1, (0, 1)), (2, (0, 1)), (256, (0, 1))], [(0, 30)], [])]
noncomputable def dT666 : List ckI := [(0, 0), (0, 60), (1, 256), (0, 255), (0, 255), (-9, 255), ckTop, (0, 1)]
noncomputable def dG667 : List ckG := [([(48, ckTop), (49, (0, 47)), (50, ckTop), (51, ckTop), (52, ckTop), (53, ckTop), (54, ckTop), (55, ckTop), (56, ckTop), (58, ckTop), (59, ckTop), (60, ckTop), (68, ckTop), (69, ckTop), (76, ckTop), (77, (0, 30)), (78, ckTop), (79, ckTop), (80, ckTop), (81, ckTop), (197, ckTop), (198, (0, 60)), (318, ckTop)], [(55, 26), (58, 34)], []), ([(64, ckTop)], [], []), ([(1, (0, 1)), (2, (0, 1)), (256, (0, 1))], [(0, 35)], [])]
-- FarMachineModel.wrongGo
noncomputable def k399 : ckCtr := (99, ([(0, (1, 0)), (1, (0, 0)), (2, (0, 1))], [], dC660, dT661, dG662, [], [], [(0, 2, 26, 0, [1, 1, 99]), (1, 0, 0, 0, [])], 0, 0), [([], [(0, 28)], [], [], [(0, (1, 2147483647)), (1, (-2147483648, 0))], [(-4, -4)], [], [], [], [(0, 2, 26, 0, [1, 1, 99]), (1, 0, 0, 0, [])], 0, 0), ([], [(0, 28)], [], [], [(0, (1, 60)), (1, (61, 2147483647))], [(-6, -6)], [], [], [], [(0, 2, 26, 0, [1, 1, 99]), (1, 0, 0, 0, [])], 0, 0), ([], [(0, 28)], [], [], [(0, (1, 60)), (1, (1, 60)), (2, (0, 0))], [(-3, -3)], [], [], [], [(0, 2, 26, 0, [1, 1, 99]), (1, 0, 0, 0, [])], 0, 0), ([], [(0, 28)], dP663, [], [(0, (1, 60)), (1, (1, 60)), (2, (1, 1)), (26, (1, 99))], dT664, dG665, [], [(29, 0, 0)], [(0, 2, 26, 0, [1, 1, 99]), (1, 0, 0, 0, []), (1, 7, 0, 0, [])], 0, 0), ([], [(0, 28)], dP663, [], [(0, (1, 60)), (1, (1, 60)), (2, (1, 1)), (26, (1, 99))], dT666, dG667, [], [(29, 0, 0), (30, 33, 263), (30, 35, 255), (35, 33, 9)], [(0, 2, 26, 0, [1, 1, 99]), (1, 0, 0, 0, []), (1, 7, 0, 0, [])], 0, 0), ([], [(0, 28)], [], [], [(0, (61, 2147483647)), (1, (1, 2147483647))], [(-6, -6)], [], [], [], [(0, 2, 26, 0, [1, 1, 99]), (1, 0, 0, 0, [])], 0, 0), ([], [(0, 28)], [], [], [(0, (-2147483648, 0))], [(-4, -4)], [], [], [], [(0, 2, 26, 0, [1, 1, 99]), (1, 0, 0, 0, [])], 0, 0)], 8, 234, 0, 0)
noncomputable def k399_a : ckAs := []
noncomputable def k399_c : List (Nat × ckCtr) := [(54, k217)]
theorem k399_ok (l : Launch) : ckCtrOk l ckMT ckTW ckCL k399 := mt_99 (as := k399_a) (cs := k399_c) (gx := []) (f := 200000) rfl (ckHc (k217_ok l) (fun _ h => absurd h List.not_mem_nil)) True.intro (by decide +kernel)
