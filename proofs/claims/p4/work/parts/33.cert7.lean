/-! THE CHECKER: contracts with their certificates (printed by wip/gen2/p16gen.py) -/
noncomputable def dT604 : List ckI := [(0, 1), (0, 1), ckTop, ckTop, ckTop, ckTop, ckTop, ckTop, ckTop, ckTop, ckTop, ckTop, ckTop, (30, 30), (0, 270), (0, 30), (0, 1), ckTop, (0, 1), (318, 318), (300, 300)]
noncomputable def dP605 : List (Nat × ckC) := [(0, .inl (9, [(4, 10), (1, 1), (4, 11), (4, 12), (4, 13), (4, 14), (4, 15), (4, 16), (4, 17), (4, 18), (4, 19), (4, 20), (4, 21), (4, 22), (1, 2), (4, 23), (0, 0), (0, 1), (0, 2), (0, 3), (0, 4), (0, 5), (0, 6), (4, 24), (0, 7), (4, 25), (0, 8), (0, 9), (0, 10), (0, 11), (4, 26), (0, 12), (0, 13), (0, 14), (0, 15), (1, 2), (1, 1), (0, 21), (4, 27), (4, 28), (0, 17), (0, 18)]))]
-- FarMachineModel.test
noncomputable def k327 : ckCtr := (86, ([(0, (1, 0))], [], dC598, dT604, dG600, [], [], [(1, 0, 0, 0, [])], 0, 0), [([], [(0, 21)], dP605, [], [], [(0, 0)], [], [], [], [(1, 0, 0, 0, [])], 0, 0)], 5, 166, 0, 0)
noncomputable def k327_a : ckAs := []
noncomputable def k327_c : List (Nat × ckCtr) := [(3, k322), (23, k326), (28, k321)]
theorem k327_ok (l : Launch) : ckCtrOk l ckMT ckTW ckCL k327 := mt_86 (as := k327_a) (cs := k327_c) (gx := []) (f := 200000) rfl (ckHc (k322_ok l) (ckHc (k326_ok l) (ckHc (k321_ok l) (fun _ h => absurd h List.not_mem_nil)))) True.intro (by decide +kernel)
noncomputable def dT606 : List ckI := [(0, 1), (0, 1), ckTop, ckTop, ckTop, ckTop, ckTop, ckTop, ckTop, ckTop, ckTop, ckTop, ckTop, (29, 30), (0, 270), (0, 30), (0, 1), ckTop, (0, 1), (318, 318), (300, 300)]
-- FarMachineModel.test
noncomputable def k328 : ckCtr := (86, ([(0, (1, 0))], [], dC598, dT606, dG600, [], [], [(1, 0, 0, 0, [])], 0, 0), [([], [(0, 21)], dP601, [], [], [(0, 1), (29, 30), (0, 1)], [], [], dZ504, [(1, 0, 0, 0, [])], 0, 0)], 6, 189, 0, 0)
noncomputable def k328_a : ckAs := []
noncomputable def k328_c : List (Nat × ckCtr) := [(3, k322), (10, k327), (23, k326), (28, k321), (75, k326)]
theorem k328_ok (l : Launch) : ckCtrOk l ckMT ckTW ckCL k328 := mt_86 (as := k328_a) (cs := k328_c) (gx := []) (f := 200000) rfl (ckHc (k322_ok l) (ckHc (k327_ok l) (ckHc (k326_ok l) (ckHc (k321_ok l) (ckHc (k326_ok l) (fun _ h => absurd h List.not_mem_nil)))))) True.intro (by decide +kernel)
noncomputable def dT607 : List ckI := [(0, 1), (0, 1), ckTop, ckTop, ckTop, ckTop, ckTop, ckTop, ckTop, ckTop, ckTop, ckTop, ckTop, (28, 30), (0, 270), (0, 30), (0, 1), ckTop, (0, 1), (318, 318), (300, 300)]
-- FarMachineModel.test
noncomputable def k329 : ckCtr := (86, ([(0, (1, 0))], [], dC598, dT607, dG600, [], [], [(1, 0, 0, 0, [])], 0, 0), [([], [(0, 21)], dP601, [], [], [(0, 1), (28, 30), (0, 1)], [], [], dZ506, [(1, 0, 0, 0, [])], 0, 0)], 7, 212, 0, 0)
noncomputable def k329_a : ckAs := []
noncomputable def k329_c : List (Nat × ckCtr) := [(3, k322), (10, k328), (23, k326), (28, k321), (75, k326)]
theorem k329_ok (l : Launch) : ckCtrOk l ckMT ckTW ckCL k329 := mt_86 (as := k329_a) (cs := k329_c) (gx := []) (f := 200000) rfl (ckHc (k322_ok l) (ckHc (k328_ok l) (ckHc (k326_ok l) (ckHc (k321_ok l) (ckHc (k326_ok l) (fun _ h => absurd h List.not_mem_nil)))))) True.intro (by decide +kernel)
noncomputable def dT608 : List ckI := [(0, 1), (0, 1), ckTop, ckTop, ckTop, ckTop, ckTop, ckTop, ckTop, ckTop, ckTop, ckTop, ckTop, (27, 30), (0, 270), (0, 30), (0, 1), ckTop, (0, 1), (318, 318), (300, 300)]
-- FarMachineModel.test
noncomputable def k330 : ckCtr := (86, ([(0, (1, 0))], [], dC598, dT608, dG600, [], [], [(1, 0, 0, 0, [])], 0, 0), [([], [(0, 21)], dP601, [], [], [(0, 1), (27, 30), (0, 1)], [], [], dZ508, [(1, 0, 0, 0, [])], 0, 0)], 8, 235, 0, 0)
noncomputable def k330_a : ckAs := []
noncomputable def k330_c : List (Nat × ckCtr) := [(3, k322), (10, k329), (23, k326), (28, k321), (75, k326)]
theorem k330_ok (l : Launch) : ckCtrOk l ckMT ckTW ckCL k330 := mt_86 (as := k330_a) (cs := k330_c) (gx := []) (f := 200000) rfl (ckHc (k322_ok l) (ckHc (k329_ok l) (ckHc (k326_ok l) (ckHc (k321_ok l) (ckHc (k326_ok l) (fun _ h => absurd h List.not_mem_nil)))))) True.intro (by decide +kernel)
noncomputable def dT609 : List ckI := [(0, 1), (0, 1), ckTop, ckTop, ckTop, ckTop, ckTop, ckTop, ckTop, ckTop, ckTop, ckTop, ckTop, (26, 30), (0, 270), (0, 30), (0, 1), ckTop, (0, 1), (318, 318), (300, 300)]
-- FarMachineModel.test
noncomputable def k331 : ckCtr := (86, ([(0, (1, 0))], [], dC598, dT609, dG600, [], [], [(1, 0, 0, 0, [])], 0, 0), [([], [(0, 21)], dP601, [], [], [(0, 1), (26, 30), (0, 1)], [], [], dZ510, [(1, 0, 0, 0, [])], 0, 0)], 9, 258, 0, 0)
noncomputable def k331_a : ckAs := []
noncomputable def k331_c : List (Nat × ckCtr) := [(3, k322), (10, k330), (23, k326), (28, k321), (75, k326)]
theorem k331_ok (l : Launch) : ckCtrOk l ckMT ckTW ckCL k331 := mt_86 (as := k331_a) (cs := k331_c) (gx := []) (f := 200000) rfl (ckHc (k322_ok l) (ckHc (k330_ok l) (ckHc (k326_ok l) (ckHc (k321_ok l) (ckHc (k326_ok l) (fun _ h => absurd h List.not_mem_nil)))))) True.intro (by decide +kernel)
noncomputable def dT610 : List ckI := [(0, 1), (0, 1), ckTop, ckTop, ckTop, ckTop, ckTop, ckTop, ckTop, ckTop, ckTop, ckTop, ckTop, (25, 30), (0, 270), (0, 30), (0, 1), ckTop, (0, 1), (318, 318), (300, 300)]
-- FarMachineModel.test
noncomputable def k332 : ckCtr := (86, ([(0, (1, 0))], [], dC598, dT610, dG600, [], [], [(1, 0, 0, 0, [])], 0, 0), [([], [(0, 21)], dP601, [], [], [(0, 1), (25, 30), (0, 1)], [], [], dZ512, [(1, 0, 0, 0, [])], 0, 0)], 10, 281, 0, 0)
noncomputable def k332_a : ckAs := []
noncomputable def k332_c : List (Nat × ckCtr) := [(3, k322), (10, k331), (23, k326), (28, k321), (75, k326)]
theorem k332_ok (l : Launch) : ckCtrOk l ckMT ckTW ckCL k332 := mt_86 (as := k332_a) (cs := k332_c) (gx := []) (f := 200000) rfl (ckHc (k322_ok l) (ckHc (k331_ok l) (ckHc (k326_ok l) (ckHc (k321_ok l) (ckHc (k326_ok l) (fun _ h => absurd h List.not_mem_nil)))))) True.intro (by decide +kernel)
noncomputable def dT611 : List ckI := [(0, 1), (0, 1), ckTop, ckTop, ckTop, ckTop, ckTop, ckTop, ckTop, ckTop, ckTop, ckTop, ckTop, (24, 30), (0, 270), (0, 30), (0, 1), ckTop, (0, 1), (318, 318), (300, 300)]
-- FarMachineModel.test
noncomputable def k333 : ckCtr := (86, ([(0, (1, 0))], [], dC598, dT611, dG600, [], [], [(1, 0, 0, 0, [])], 0, 0), [([], [(0, 21)], dP601, [], [], [(0, 1), (24, 30), (0, 1)], [], [], dZ514, [(1, 0, 0, 0, [])], 0, 0)], 11, 304, 0, 0)
noncomputable def k333_a : ckAs := []
noncomputable def k333_c : List (Nat × ckCtr) := [(3, k322), (10, k332), (23, k326), (28, k321), (75, k326)]
theorem k333_ok (l : Launch) : ckCtrOk l ckMT ckTW ckCL k333 := mt_86 (as := k333_a) (cs := k333_c) (gx := []) (f := 200000) rfl (ckHc (k322_ok l) (ckHc (k332_ok l) (ckHc (k326_ok l) (ckHc (k321_ok l) (ckHc (k326_ok l) (fun _ h => absurd h List.not_mem_nil)))))) True.intro (by decide +kernel)
noncomputable def dT612 : List ckI := [(0, 1), (0, 1), ckTop, ckTop, ckTop, ckTop, ckTop, ckTop, ckTop, ckTop, ckTop, ckTop, ckTop, (23, 30), (0, 270), (0, 30), (0, 1), ckTop, (0, 1), (318, 318), (300, 300)]
-- FarMachineModel.test
noncomputable def k334 : ckCtr := (86, ([(0, (1, 0))], [], dC598, dT612, dG600, [], [], [(1, 0, 0, 0, [])], 0, 0), [([], [(0, 21)], dP601, [], [], [(0, 1), (23, 30), (0, 1)], [], [], dZ516, [(1, 0, 0, 0, [])], 0, 0)], 12, 327, 0, 0)
noncomputable def k334_a : ckAs := []
noncomputable def k334_c : List (Nat × ckCtr) := [(3, k322), (10, k333), (23, k326), (28, k321), (75, k326)]
theorem k334_ok (l : Launch) : ckCtrOk l ckMT ckTW ckCL k334 := mt_86 (as := k334_a) (cs := k334_c) (gx := []) (f := 200000) rfl (ckHc (k322_ok l) (ckHc (k333_ok l) (ckHc (k326_ok l) (ckHc (k321_ok l) (ckHc (k326_ok l) (fun _ h => absurd h List.not_mem_nil)))))) True.intro (by decide +kernel)
noncomputable def dT613 : List ckI := [(0, 1), (0, 1), ckTop, ckTop, ckTop, ckTop, ckTop, ckTop, ckTop, ckTop, ckTop, ckTop, ckTop, (22, 30), (0, 270), (0, 30), (0, 1), ckTop, (0, 1), (318, 318), (300, 300)]
-- FarMachineModel.test
noncomputable def k335 : ckCtr := (86, ([(0, (1, 0))], [], dC598, dT613, dG600, [], [], [(1, 0, 0, 0, [])], 0, 0), [([], [(0, 21)], dP601, [], [], [(0, 1), (22, 30), (0, 1)], [], [], dZ518, [(1, 0, 0, 0, [])], 0, 0)], 13, 350, 0, 0)
noncomputable def k335_a : ckAs := []
noncomputable def k335_c : List (Nat × ckCtr) := [(3, k322), (10, k334), (23, k326), (28, k321), (75, k326)]
theorem k335_ok (l : Launch) : ckCtrOk l ckMT ckTW ckCL k335 := mt_86 (as := k335_a) (cs := k335_c) (gx := []) (f := 200000) rfl (ckHc (k322_ok l) (ckHc (k334_ok l) (ckHc (k326_ok l) (ckHc (k321_ok l) (ckHc (k326_ok l) (fun _ h => absurd h List.not_mem_nil)))))) True.intro (by decide +kernel)
noncomputable def dT614 : List ckI := [(0, 1), (0, 1), ckTop, ckTop, ckTop, ckTop, ckTop, ckTop, ckTop, ckTop, ckTop, ckTop, ckTop, (21, 30), (0, 270), (0, 30), (0, 1), ckTop, (0, 1), (318, 318), (300, 300)]
-- FarMachineModel.test
noncomputable def k336 : ckCtr := (86, ([(0, (1, 0))], [], dC598, dT614, dG600, [], [], [(1, 0, 0, 0, [])], 0, 0), [([], [(0, 21)], dP601, [], [], [(0, 1), (21, 30), (0, 1)], [], [], dZ520, [(1, 0, 0, 0, [])], 0, 0)], 14, 373, 0, 0)
noncomputable def k336_a : ckAs := []
noncomputable def k336_c : List (Nat × ckCtr) := [(3, k322), (10, k335), (23, k326), (28, k321), (75, k326)]
theorem k336_ok (l : Launch) : ckCtrOk l ckMT ckTW ckCL k336 := mt_86 (as := k336_a) (cs := k336_c) (gx := []) (f := 200000) rfl (ckHc (k322_ok l) (ckHc (k335_ok l) (ckHc (k326_ok l) (ckHc (k321_ok l) (ckHc (k326_ok l) (fun _ h => absurd h List.not_mem_nil)))))) True.intro (by decide +kernel)
noncomputable def dT615 : List ckI := [(0, 1), (0, 1), ckTop, ckTop, ckTop, ckTop, ckTop, ckTop, ckTop, ckTop, ckTop, ckTop, ckTop, (20, 30), (0, 270), (0, 30), (0, 1), ckTop, (0, 1), (318, 318), (300, 300)]
-- FarMachineModel.test
noncomputable def k337 : ckCtr := (86, ([(0, (1, 0))], [], dC598, dT615, dG600, [], [], [(1, 0, 0, 0, [])], 0, 0), [([], [(0, 21)], dP601, [], [], [(0, 1), (20, 30), (0, 1)], [], [], dZ522, [(1, 0, 0, 0, [])], 0, 0)], 15, 396, 0, 0)
noncomputable def k337_a : ckAs := []
noncomputable def k337_c : List (Nat × ckCtr) := [(3, k322), (10, k336), (23, k326), (28, k321), (75, k326)]
theorem k337_ok (l : Launch) : ckCtrOk l ckMT ckTW ckCL k337 := mt_86 (as := k337_a) (cs := k337_c) (gx := []) (f := 200000) rfl (ckHc (k322_ok l) (ckHc (k336_ok l) (ckHc (k326_ok l) (ckHc (k321_ok l) (ckHc (k326_ok l) (fun _ h => absurd h List.not_mem_nil)))))) True.intro (by decide +kernel)
noncomputable def dT616 : List ckI := [(0, 1), (0, 1), ckTop, ckTop, ckTop, ckTop, ckTop, ckTop, ckTop, ckTop, ckTop, ckTop, ckTop, (19, 30), (0, 270), (0, 30), (0, 1), ckTop, (0, 1), (318, 318), (300, 300)]
-- FarMachineModel.test
noncomputable def k338 : ckCtr := (86, ([(0, (1, 0))], [], dC598, dT616, dG600, [], [], [(1, 0, 0, 0, [])], 0, 0), [([], [(0, 21)], dP601, [], [], [(0, 1), (19, 30), (0, 1)], [], [], dZ524, [(1, 0, 0, 0, [])], 0, 0)], 16, 419, 0, 0)
noncomputable def k338_a : ckAs := []
noncomputable def k338_c : List (Nat × ckCtr) := [(3, k322), (10, k337), (23, k326), (28, k321), (75, k326)]
theorem k338_ok (l : Launch) : ckCtrOk l ckMT ckTW ckCL k338 := mt_86 (as := k338_a) (cs := k338_c) (gx := []) (f := 200000) rfl (ckHc (k322_ok l) (ckHc (k337_ok l) (ckHc (k326_ok l) (ckHc (k321_ok l) (ckHc (k326_ok l) (fun _ h => absurd h List.not_mem_nil)))))) True.intro (by decide +kernel)
noncomputable def dT617 : List ckI := [(0, 1), (0, 1), ckTop, ckTop, ckTop, ckTop, ckTop, ckTop, ckTop, ckTop, ckTop, ckTop, ckTop, (18, 30), (0, 270), (0, 30), (0, 1), ckTop, (0, 1), (318, 318), (300, 300)]
-- FarMachineModel.test
noncomputable def k339 : ckCtr := (86, ([(0, (1, 0))], [], dC598, dT617, dG600, [], [], [(1, 0, 0, 0, [])], 0, 0), [([], [(0, 21)], dP601, [], [], [(0, 1), (18, 30), (0, 1)], [], [], dZ526, [(1, 0, 0, 0, [])], 0, 0)], 17, 442, 0, 0)
noncomputable def k339_a : ckAs := []
noncomputable def k339_c : List (Nat × ckCtr) := [(3, k322), (10, k338), (23, k326), (28, k321), (75, k326)]
theorem k339_ok (l : Launch) : ckCtrOk l ckMT ckTW ckCL k339 := mt_86 (as := k339_a) (cs := k339_c) (gx := []) (f := 200000) rfl (ckHc (k322_ok l) (ckHc (k338_ok l) (ckHc (k326_ok l) (ckHc (k321_ok l) (ckHc (k326_ok l) (fun _ h => absurd h List.not_mem_nil)))))) True.intro (by decide +kernel)
noncomputable def dT618 : List ckI := [(0, 1), (0, 1), ckTop, ckTop, ckTop, ckTop, ckTop, ckTop, ckTop, ckTop, ckTop, ckTop, ckTop, (17, 30), (0, 270), (0, 30), (0, 1), ckTop, (0, 1), (318, 318), (300, 300)]
-- FarMachineModel.test
noncomputable def k340 : ckCtr := (86, ([(0, (1, 0))], [], dC598, dT618, dG600, [], [], [(1, 0, 0, 0, [])], 0, 0), [([], [(0, 21)], dP601, [], [], [(0, 1), (17, 30), (0, 1)], [], [], dZ528, [(1, 0, 0, 0, [])], 0, 0)], 18, 465, 0, 0)
noncomputable def k340_a : ckAs := []
noncomputable def k340_c : List (Nat × ckCtr) := [(3, k322), (10, k339), (23, k326), (28, k321), (75, k326)]
theorem k340_ok (l : Launch) : ckCtrOk l ckMT ckTW ckCL k340 := mt_86 (as := k340_a) (cs := k340_c) (gx := []) (f := 200000) rfl (ckHc (k322_ok l) (ckHc (k339_ok l) (ckHc (k326_ok l) (ckHc (k321_ok l) (ckHc (k326_ok l) (fun _ h => absurd h List.not_mem_nil)))))) True.intro (by decide +kernel)
noncomputable def dT619 : List ckI := [(0, 1), (0, 1), ckTop, ckTop, ckTop, ckTop, ckTop, ckTop, ckTop, ckTop, ckTop, ckTop, ckTop, (16, 30), (0, 270), (0, 30), (0, 1), ckTop, (0, 1), (318, 318), (300, 300)]
-- FarMachineModel.test
noncomputable def k341 : ckCtr := (86, ([(0, (1, 0))], [], dC598, dT619, dG600, [], [], [(1, 0, 0, 0, [])], 0, 0), [([], [(0, 21)], dP601, [], [], [(0, 1), (16, 30), (0, 1)], [], [], dZ530, [(1, 0, 0, 0, [])], 0, 0)], 19, 488, 0, 0)
noncomputable def k341_a : ckAs := []
noncomputable def k341_c : List (Nat × ckCtr) := [(3, k322), (10, k340), (23, k326), (28, k321), (75, k326)]
theorem k341_ok (l : Launch) : ckCtrOk l ckMT ckTW ckCL k341 := mt_86 (as := k341_a) (cs := k341_c) (gx := []) (f := 200000) rfl (ckHc (k322_ok l) (ckHc (k340_ok l) (ckHc (k326_ok l) (ckHc (k321_ok l) (ckHc (k326_ok l) (fun _ h => absurd h List.not_mem_nil)))))) True.intro (by decide +kernel)
noncomputable def dT620 : List ckI := [(0, 1), (0, 1), ckTop, ckTop, ckTop, ckTop, ckTop, ckTop, ckTop, ckTop, ckTop, ckTop, ckTop, (15, 30), (0, 270), (0, 30), (0, 1), ckTop, (0, 1), (318, 318), (300, 300)]
-- FarMachineModel.test
noncomputable def k342 : ckCtr := (86, ([(0, (1, 0))], [], dC598, dT620, dG600, [], [], [(1, 0, 0, 0, [])], 0, 0), [([], [(0, 21)], dP601, [], [], [(0, 1), (15, 30), (0, 1)], [], [], dZ532, [(1, 0, 0, 0, [])], 0, 0)], 20, 511, 0, 0)
noncomputable def k342_a : ckAs := []
noncomputable def k342_c : List (Nat × ckCtr) := [(3, k322), (10, k341), (23, k326), (28, k321), (75, k326)]
theorem k342_ok (l : Launch) : ckCtrOk l ckMT ckTW ckCL k342 := mt_86 (as := k342_a) (cs := k342_c) (gx := []) (f := 200000) rfl (ckHc (k322_ok l) (ckHc (k341_ok l) (ckHc (k326_ok l) (ckHc (k321_ok l) (ckHc (k326_ok l) (fun _ h => absurd h List.not_mem_nil)))))) True.intro (by decide +kernel)
noncomputable def dT621 : List ckI := [(0, 1), (0, 1), ckTop, ckTop, ckTop, ckTop, ckTop, ckTop, ckTop, ckTop, ckTop, ckTop, ckTop, (14, 30), (0, 270), (0, 30), (0, 1), ckTop, (0, 1), (318, 318), (300, 300)]
-- FarMachineModel.test
noncomputable def k343 : ckCtr := (86, ([(0, (1, 0))], [], dC598, dT621, dG600, [], [], [(1, 0, 0, 0, [])], 0, 0), [([], [(0, 21)], dP601, [], [], [(0, 1), (14, 30), (0, 1)], [], [], dZ534, [(1, 0, 0, 0, [])], 0, 0)], 21, 534, 0, 0)
noncomputable def k343_a : ckAs := []
noncomputable def k343_c : List (Nat × ckCtr) := [(3, k322), (10, k342), (23, k326), (28, k321), (75, k326)]
theorem k343_ok (l : Launch) : ckCtrOk l ckMT ckTW ckCL k343 := mt_86 (as := k343_a) (cs := k343_c) (gx := []) (f := 200000) rfl (ckHc (k322_ok l) (ckHc (k342_ok l) (ckHc (k326_ok l) (ckHc (k321_ok l) (ckHc (k326_ok l) (fun _ h => absurd h List.not_mem_nil)))))) True.intro (by decide +kernel)
noncomputable def dT622 : List ckI := [(0, 1), (0, 1), ckTop, ckTop, ckTop, ckTop, ckTop, ckTop, ckTop, ckTop, ckTop, ckTop, ckTop, (13, 30), (0, 270), (0, 30), (0, 1), ckTop, (0, 1), (318, 318), (300, 300)]
-- FarMachineModel.test
noncomputable def k344 : ckCtr := (86, ([(0, (1, 0))], [], dC598, dT622, dG600, [], [], [(1, 0, 0, 0, [])], 0, 0), [([], [(0, 21)], dP601, [], [], [(0, 1), (13, 30), (0, 1)], [], [], dZ536, [(1, 0, 0, 0, [])], 0, 0)], 22, 557, 0, 0)
noncomputable def k344_a : ckAs := []
noncomputable def k344_c : List (Nat × ckCtr) := [(3, k322), (10, k343), (23, k326), (28, k321), (75, k326)]
theorem k344_ok (l : Launch) : ckCtrOk l ckMT ckTW ckCL k344 := mt_86 (as := k344_a) (cs := k344_c) (gx := []) (f := 200000) rfl (ckHc (k322_ok l) (ckHc (k343_ok l) (ckHc (k326_ok l) (ckHc (k321_ok l) (ckHc (k326_ok l) (fun _ h => absurd h List.not_mem_nil)))))) True.intro (by decide +kernel)
noncomputable def dT623 : List ckI := [(0, 1), (0, 1), ckTop, ckTop, ckTop, ckTop, ckTop, ckTop, ckTop, ckTop, ckTop, ckTop, ckTop, (12, 30), (0, 270), (0, 30), (0, 1), ckTop, (0, 1), (318, 318), (300, 300)]
-- FarMachineModel.test
noncomputable def k345 : ckCtr := (86, ([(0, (1, 0))], [], dC598, dT623, dG600, [], [], [(1, 0, 0, 0, [])], 0, 0), [([], [(0, 21)], dP601, [], [], [(0, 1), (12, 30), (0, 1)], [], [], dZ538, [(1, 0, 0, 0, [])], 0, 0)], 23, 580, 0, 0)
noncomputable def k345_a : ckAs := []
noncomputable def k345_c : List (Nat × ckCtr) := [(3, k322), (10, k344), (23, k326), (28, k321), (75, k326)]
theorem k345_ok (l : Launch) : ckCtrOk l ckMT ckTW ckCL k345 := mt_86 (as := k345_a) (cs := k345_c) (gx := []) (f := 200000) rfl (ckHc (k322_ok l) (ckHc (k344_ok l) (ckHc (k326_ok l) (ckHc (k321_ok l) (ckHc (k326_ok l) (fun _ h => absurd h List.not_mem_nil)))))) True.intro (by decide +kernel)
noncomputable def dT624 : List ckI := [(0, 1), (0, 1), ckTop, ckTop, ckTop, ckTop, ckTop, ckTop, ckTop, ckTop, ckTop, ckTop, ckTop, (11, 30), (0, 270), (0, 30), (0, 1), ckTop, (0, 1), (318, 318), (300, 300)]
-- FarMachineModel.test
noncomputable def k346 : ckCtr := (86, ([(0, (1, 0))], [], dC598, dT624, dG600, [], [], [(1, 0, 0, 0, [])], 0, 0), [([], [(0, 21)], dP601, [], [], [(0, 1), (11, 30), (0, 1)], [], [], dZ540, [(1, 0, 0, 0, [])], 0, 0)], 24, 603, 0, 0)
noncomputable def k346_a : ckAs := []
noncomputable def k346_c : List (Nat × ckCtr) := [(3, k322), (10, k345), (23, k326), (28, k321), (75, k326)]
theorem k346_ok (l : Launch) : ckCtrOk l ckMT ckTW ckCL k346 := mt_86 (as := k346_a) (cs := k346_c) (gx := []) (f := 200000) rfl (ckHc (k322_ok l) (ckHc (k345_ok l) (ckHc (k326_ok l) (ckHc (k321_ok l) (ckHc (k326_ok l) (fun _ h => absurd h List.not_mem_nil)))))) True.intro (by decide +kernel)
noncomputable def dT625 : List ckI := [(0, 1), (0, 1), ckTop, ckTop, ckTop, ckTop, ckTop, ckTop, ckTop, ckTop, ckTop, ckTop, ckTop, (10, 30), (0, 270), (0, 30), (0, 1), ckTop, (0, 1), (318, 318), (300, 300)]
-- FarMachineModel.test
noncomputable def k347 : ckCtr := (86, ([(0, (1, 0))], [], dC598, dT625, dG600, [], [], [(1, 0, 0, 0, [])], 0, 0), [([], [(0, 21)], dP601, [], [], [(0, 1), (10, 30), (0, 1)], [], [], dZ542, [(1, 0, 0, 0, [])], 0, 0)], 25, 626, 0, 0)
noncomputable def k347_a : ckAs := []
noncomputable def k347_c : List (Nat × ckCtr) := [(3, k322), (10, k346), (23, k326), (28, k321), (75, k326)]
theorem k347_ok (l : Launch) : ckCtrOk l ckMT ckTW ckCL k347 := mt_86 (as := k347_a) (cs := k347_c) (gx := []) (f := 200000) rfl (ckHc (k322_ok l) (ckHc (k346_ok l) (ckHc (k326_ok l) (ckHc (k321_ok l) (ckHc (k326_ok l) (fun _ h => absurd h List.not_mem_nil)))))) True.intro (by decide +kernel)
noncomputable def dT626 : List ckI := [(0, 1), (0, 1), ckTop, ckTop, ckTop, ckTop, ckTop, ckTop, ckTop, ckTop, ckTop, ckTop, ckTop, (9, 30), (0, 270), (0, 30), (0, 1), ckTop, (0, 1), (318, 318), (300, 300)]
-- FarMachineModel.test
noncomputable def k348 : ckCtr := (86, ([(0, (1, 0))], [], dC598, dT626, dG600, [], [], [(1, 0, 0, 0, [])], 0, 0), [([], [(0, 21)], dP601, [], [], [(0, 1), (9, 30), (0, 1)], [], [], dZ544, [(1, 0, 0, 0, [])], 0, 0)], 26, 649, 0, 0)
noncomputable def k348_a : ckAs := []
noncomputable def k348_c : List (Nat × ckCtr) := [(3, k322), (10, k347), (23, k326), (28, k321), (75, k326)]
theorem k348_ok (l : Launch) : ckCtrOk l ckMT ckTW ckCL k348 := mt_86 (as := k348_a) (cs := k348_c) (gx := []) (f := 200000) rfl (ckHc (k322_ok l) (ckHc (k347_ok l) (ckHc (k326_ok l) (ckHc (k321_ok l) (ckHc (k326_ok l) (fun _ h => absurd h List.not_mem_nil)))))) True.intro (by decide +kernel)
noncomputable def dT627 : List ckI := [(0, 1), (0, 1), ckTop, ckTop, ckTop, ckTop, ckTop, ckTop, ckTop, ckTop, ckTop, ckTop, ckTop, (8, 30), (0, 270), (0, 30), (0, 1), ckTop, (0, 1), (318, 318), (300, 300)]
-- FarMachineModel.test
noncomputable def k349 : ckCtr := (86, ([(0, (1, 0))], [], dC598, dT627, dG600, [], [], [(1, 0, 0, 0, [])], 0, 0), [([], [(0, 21)], dP601, [], [], [(0, 1), (8, 30), (0, 1)], [], [], dZ546, [(1, 0, 0, 0, [])], 0, 0)], 27, 672, 0, 0)
noncomputable def k349_a : ckAs := []
noncomputable def k349_c : List (Nat × ckCtr) := [(3, k322), (10, k348), (23, k326), (28, k321), (75, k326)]
theorem k349_ok (l : Launch) : ckCtrOk l ckMT ckTW ckCL k349 := mt_86 (as := k349_a) (cs := k349_c) (gx := []) (f := 200000) rfl (ckHc (k322_ok l) (ckHc (k348_ok l) (ckHc (k326_ok l) (ckHc (k321_ok l) (ckHc (k326_ok l) (fun _ h => absurd h List.not_mem_nil)))))) True.intro (by decide +kernel)
noncomputable def dT628 : List ckI := [(0, 1), (0, 1), ckTop, ckTop, ckTop, ckTop, ckTop, ckTop, ckTop, ckTop, ckTop, ckTop, ckTop, (7, 30), (0, 270), (0, 30), (0, 1), ckTop, (0, 1), (318, 318), (300, 300)]
-- FarMachineModel.test
noncomputable def k350 : ckCtr := (86, ([(0, (1, 0))], [], dC598, dT628, dG600, [], [], [(1, 0, 0, 0, [])], 0, 0), [([], [(0, 21)], dP601, [], [], [(0, 1), (7, 30), (0, 1)], [], [], dZ548, [(1, 0, 0, 0, [])], 0, 0)], 28, 695, 0, 0)
noncomputable def k350_a : ckAs := []
noncomputable def k350_c : List (Nat × ckCtr) := [(3, k322), (10, k349), (23, k326), (28, k321), (75, k326)]
theorem k350_ok (l : Launch) : ckCtrOk l ckMT ckTW ckCL k350 := mt_86 (as := k350_a) (cs := k350_c) (gx := []) (f := 200000) rfl (ckHc (k322_ok l) (ckHc (k349_ok l) (ckHc (k326_ok l) (ckHc (k321_ok l) (ckHc (k326_ok l) (fun _ h => absurd h List.not_mem_nil)))))) True.intro (by decide +kernel)
noncomputable def dT629 : List ckI := [(0, 1), (0, 1), ckTop, ckTop, ckTop, ckTop, ckTop, ckTop, ckTop, ckTop, ckTop, ckTop, ckTop, (6, 30), (0, 270), (0, 30), (0, 1), ckTop, (0, 1), (318, 318), (300, 300)]
-- FarMachineModel.test
noncomputable def k351 : ckCtr := (86, ([(0, (1, 0))], [], dC598, dT629, dG600, [], [], [(1, 0, 0, 0, [])], 0, 0), [([], [(0, 21)], dP601, [], [], [(0, 1), (6, 30), (0, 1)], [], [], dZ550, [(1, 0, 0, 0, [])], 0, 0)], 29, 718, 0, 0)
noncomputable def k351_a : ckAs := []
noncomputable def k351_c : List (Nat × ckCtr) := [(3, k322), (10, k350), (23, k326), (28, k321), (75, k326)]
theorem k351_ok (l : Launch) : ckCtrOk l ckMT ckTW ckCL k351 := mt_86 (as := k351_a) (cs := k351_c) (gx := []) (f := 200000) rfl (ckHc (k322_ok l) (ckHc (k350_ok l) (ckHc (k326_ok l) (ckHc (k321_ok l) (ckHc (k326_ok l) (fun _ h => absurd h List.not_mem_nil)))))) True.intro (by decide +kernel)
noncomputable def dT630 : List ckI := [(0, 1), (0, 1), ckTop, ckTop, ckTop, ckTop, ckTop, ckTop, ckTop, ckTop, ckTop, ckTop, ckTop, (5, 30), (0, 270), (0, 30), (0, 1), ckTop, (0, 1), (318, 318), (300, 300)]
-- FarMachineModel.test
noncomputable def k352 : ckCtr := (86, ([(0, (1, 0))], [], dC598, dT630, dG600, [], [], [(1, 0, 0, 0, [])], 0, 0), [([], [(0, 21)], dP601, [], [], [(0, 1), (5, 30), (0, 1)], [], [], dZ552, [(1, 0, 0, 0, [])], 0, 0)], 30, 741, 0, 0)
noncomputable def k352_a : ckAs := []
noncomputable def k352_c : List (Nat × ckCtr) := [(3, k322), (10, k351), (23, k326), (28, k321), (75, k326)]
theorem k352_ok (l : Launch) : ckCtrOk l ckMT ckTW ckCL k352 := mt_86 (as := k352_a) (cs := k352_c) (gx := []) (f := 200000) rfl (ckHc (k322_ok l) (ckHc (k351_ok l) (ckHc (k326_ok l) (ckHc (k321_ok l) (ckHc (k326_ok l) (fun _ h => absurd h List.not_mem_nil)))))) True.intro (by decide +kernel)
noncomputable def dT631 : List ckI := [(0, 1), (0, 1), ckTop, ckTop, ckTop, ckTop, ckTop, ckTop, ckTop, ckTop, ckTop, ckTop, ckTop, (4, 30), (0, 270), (0, 30), (0, 1), ckTop, (0, 1), (318, 318), (300, 300)]
-- FarMachineModel.test
noncomputable def k353 : ckCtr := (86, ([(0, (1, 0))], [], dC598, dT631, dG600, [], [], [(1, 0, 0, 0, [])], 0, 0), [([], [(0, 21)], dP601, [], [], [(0, 1), (4, 30), (0, 1)], [], [], dZ554, [(1, 0, 0, 0, [])], 0, 0)], 31, 764, 0, 0)
noncomputable def k353_a : ckAs := []
noncomputable def k353_c : List (Nat × ckCtr) := [(3, k322), (10, k352), (23, k326), (28, k321), (75, k326)]
theorem k353_ok (l : Launch) : ckCtrOk l ckMT ckTW ckCL k353 := mt_86 (as := k353_a) (cs := k353_c) (gx := []) (f := 200000) rfl (ckHc (k322_ok l) (ckHc (k352_ok l) (ckHc (k326_ok l) (ckHc (k321_ok l) (ckHc (k326_ok l) (fun _ h => absurd h List.not_mem_nil)))))) True.intro (by decide +kernel)
noncomputable def dT632 : List ckI := [(0, 1), (0, 1), ckTop, ckTop, ckTop, ckTop, ckTop, ckTop, ckTop, ckTop, ckTop, ckTop, ckTop, (3, 30), (0, 270), (0, 30), (0, 1), ckTop, (0, 1), (318, 318), (300, 300)]
-- FarMachineModel.test
noncomputable def k354 : ckCtr := (86, ([(0, (1, 0))], [], dC598, dT632, dG600, [], [], [(1, 0, 0, 0, [])], 0, 0), [([], [(0, 21)], dP601, [], [], [(0, 1), (3, 30), (0, 1)], [], [], dZ556, [(1, 0, 0, 0, [])], 0, 0)], 32, 787, 0, 0)
noncomputable def k354_a : ckAs := []
noncomputable def k354_c : List (Nat × ckCtr) := [(3, k322), (10, k353), (23, k326), (28, k321), (75, k326)]
theorem k354_ok (l : Launch) : ckCtrOk l ckMT ckTW ckCL k354 := mt_86 (as := k354_a) (cs := k354_c) (gx := []) (f := 200000) rfl (ckHc (k322_ok l) (ckHc (k353_ok l) (ckHc (k326_ok l) (ckHc (k321_ok l) (ckHc (k326_ok l) (fun _ h => absurd h List.not_mem_nil)))))) True.intro (by decide +kernel)
noncomputable def dT633 : List ckI := [(0, 1), (0, 1), ckTop, ckTop, ckTop, ckTop, ckTop, ckTop, ckTop, ckTop, ckTop, ckTop, ckTop, (2, 30), (0, 270), (0, 30), (0, 1), ckTop, (0, 1), (318, 318), (300, 300)]
-- FarMachineModel.test
noncomputable def k355 : ckCtr := (86, ([(0, (1, 0))], [], dC598, dT633, dG600, [], [], [(1, 0, 0, 0, [])], 0, 0), [([], [(0, 21)], dP601, [], [], [(0, 1), (2, 30), (0, 1)], [], [], dZ558, [(1, 0, 0, 0, [])], 0, 0)], 33, 810, 0, 0)
noncomputable def k355_a : ckAs := []
noncomputable def k355_c : List (Nat × ckCtr) := [(3, k322), (10, k354), (23, k326), (28, k321), (75, k326)]
theorem k355_ok (l : Launch) : ckCtrOk l ckMT ckTW ckCL k355 := mt_86 (as := k355_a) (cs := k355_c) (gx := []) (f := 200000) rfl (ckHc (k322_ok l) (ckHc (k354_ok l) (ckHc (k326_ok l) (ckHc (k321_ok l) (ckHc (k326_ok l) (fun _ h => absurd h List.not_mem_nil)))))) True.intro (by decide +kernel)
noncomputable def dT634 : List ckI := [(0, 1), (0, 1), ckTop, ckTop, ckTop, ckTop, ckTop, ckTop, ckTop, ckTop, ckTop, ckTop, ckTop, (1, 30), (0, 270), (0, 30), (0, 1), ckTop, (0, 1), (318, 318), (300, 300)]
-- FarMachineModel.test
noncomputable def k356 : ckCtr := (86, ([(0, (1, 0))], [], dC598, dT634, dG600, [], [], [(1, 0, 0, 0, [])], 0, 0), [([], [(0, 21)], dP601, [], [], [(0, 1), (1, 30), (0, 1)], [], [], dZ560, [(1, 0, 0, 0, [])], 0, 0)], 34, 833, 0, 0)
noncomputable def k356_a : ckAs := []
noncomputable def k356_c : List (Nat × ckCtr) := [(3, k322), (10, k355), (23, k326), (28, k321), (75, k326)]
theorem k356_ok (l : Launch) : ckCtrOk l ckMT ckTW ckCL k356 := mt_86 (as := k356_a) (cs := k356_c) (gx := []) (f := 200000) rfl (ckHc (k322_ok l) (ckHc (k355_ok l) (ckHc (k326_ok l) (ckHc (k321_ok l) (ckHc (k326_ok l) (fun _ h => absurd h List.not_mem_nil)))))) True.intro (by decide +kernel)
-- FarMachineModel.test
noncomputable def k357 : ckCtr := (86, ([(0, (1, 0))], [], dC598, dT599, dG600, [], [], [(1, 0, 0, 0, [])], 0, 0), [([], [(0, 21)], dP601, [], [], [(0, 1), (0, 30), (0, 1)], [], [], dZ561, [(1, 0, 0, 0, [])], 0, 0)], 35, 856, 0, 0)
noncomputable def k357_a : ckAs := []
noncomputable def k357_c : List (Nat × ckCtr) := [(3, k322), (10, k356), (23, k326), (28, k321), (75, k326)]
theorem k357_ok (l : Launch) : ckCtrOk l ckMT ckTW ckCL k357 := mt_86 (as := k357_a) (cs := k357_c) (gx := []) (f := 200000) rfl (ckHc (k322_ok l) (ckHc (k356_ok l) (ckHc (k326_ok l) (ckHc (k321_ok l) (ckHc (k326_ok l) (fun _ h => absurd h List.not_mem_nil)))))) True.intro (by decide +kernel)
noncomputable def dT635 : List ckI := [(38, 38), (0, 1), (0, 1), ckTop, ckTop, ckTop, ckTop, ckTop, ckTop, ckTop, ckTop, ckTop, ckTop, ckTop, (0, 30), (0, 270), (0, 30), (0, 1), ckTop, (0, 1), (300, 300)]
-- FarMachineModel.takes
noncomputable def k358 : ckCtr := (84, ([(0, (1, 0)), (1, (0, 0))], [], dC589, dT635, [([(300, ckTop)], [], [])], [], [], [], 0, 0), [([], [(0, 21)], [], [], [], [(0, 0)], [], [], [], [], 0, 0), ([], [(0, 21)], dP591, [], [(14, (0, 29)), (16, (1, 30)), (17, (1, 1))], [(1, 1), (1, 30)], [], [], [(14, 16, (-1)), (14, 22, (-1)), (22, 14, 1), (22, 16, 0)], [], 0, 0)], 2, 100, 0, 0)
noncomputable def k358_a : ckAs := []
noncomputable def k358_c : List (Nat × ckCtr) := [(8, k321)]
theorem k358_ok (l : Launch) : ckCtrOk l ckMT ckTW ckCL k358 := mt_84 (as := k358_a) (cs := k358_c) (gx := []) (f := 200000) rfl (ckHc (k321_ok l) (fun _ h => absurd h List.not_mem_nil)) True.intro (by decide +kernel)
noncomputable def dT636 : List ckI := [(0, 1), (0, 1), ckTop, ckTop, ckTop, ckTop, ckTop, ckTop, ckTop, ckTop, ckTop, ckTop, ckTop, (0, 0), (0, 270), (0, 30), (0, 1), ckTop, (0, 1), (318, 318), (300, 300)]
noncomputable def dP637 : List (Nat × ckC) := [(0, .inl (9, [(4, 10), (1, 1), (4, 11), (4, 12), (4, 13), (4, 14), (4, 15), (4, 16), (4, 17), (4, 18), (4, 19), (4, 20), (4, 21), (4, 22), (1, 2), (4, 23), (0, 0), (0, 1), (0, 2), (0, 3), (0, 4), (0, 5), (0, 6), (4, 24), (0, 7), (4, 25), (0, 8), (0, 9), (0, 10), (0, 11), (4, 26), (0, 12), (0, 25), (0, 14), (0, 15), (1, 2), (1, 1), (0, 26), (4, 27), (4, 28), (0, 17), (0, 18)]))]
-- FarMachineModel.and
noncomputable def k359 : ckCtr := (85, ([(0, (1, 0))], [], dC598, dT636, dG600, [], [], [(1, 0, 0, 0, [])], 0, 0), [([], [(0, 21)], dP601, [], [], [(0, 1), (0, 30), (0, 1)], [], [], dZ564, [(1, 0, 0, 0, [])], 0, 0)], 36, 879, 0, 0)
noncomputable def k359_a : ckAs := [(5, [(274191, [(1, 0, 1, ([(0, (1, 0)), (1, (0, 24))], [], dP637, [], [], [(0, 1), (0, 30), (0, 1)], [], [], dZ566, [(1, 0, 0, 0, [])], 0, 0))])])]
noncomputable def k359_c : List (Nat × ckCtr) := [(1, k357), (8, k358), (15, k356)]
theorem k359_ok (l : Launch) : ckCtrOk l ckMT ckTW ckCL k359 := mt_85 (as := k359_a) (cs := k359_c) (gx := []) (f := 200000) rfl (ckHc (k357_ok l) (ckHc (k358_ok l) (ckHc (k356_ok l) (fun _ h => absurd h List.not_mem_nil)))) True.intro (by decide +kernel)
noncomputable def dC638 : List ckC := [.inl (9, [(4, 10), (1, 2), (4, 11), (4, 12), (4, 13), (4, 14), (4, 15), (4, 16), (4, 17), (4, 18), (4, 19), (4, 20), (4, 21), (4, 22), (1, 1), (4, 23), (0, 2), (0, 3), (0, 4), (0, 5), (0, 6), (0, 7), (0, 8), (4, 24), (0, 9), (4, 25), (0, 10), (0, 11), (0, 12), (0, 13), (4, 26), (0, 14), (0, 15), (0, 16), (0, 17), (5, 0), (5, 0), (0, 18), (4, 27), (4, 28), (0, 19), (0, 20)]), .inr (0, 21, 0), .inr (0, 22, 1)]
noncomputable def dT639 : List ckI := [(0, 270), (0, 30), (0, 1), (0, 1), ckTop, ckTop, ckTop, ckTop, ckTop, ckTop, ckTop, ckTop, ckTop, ckTop, ckTop, ckTop, ckTop, ckTop, (0, 1), ckTop, (0, 1), (300, 300), (318, 318)]
noncomputable def dG640 : List ckG := [([(300, ckTop)], [], []), ([(48, ckTop), (49, (0, 47)), (55, ckTop), (56, ckTop), (58, ckTop), (59, ckTop), (60, ckTop), (61, ckTop), (62, ckTop), (63, ckTop), (64, ckTop), (65, ckTop), (66, ckTop), (67, ckTop), (68, ckTop), (76, ckTop), (77, (0, 30)), (197, ckTop), (198, (0, 60)), (318, ckTop)], [], [])]
noncomputable def dP641 : List (Nat × ckC) := [(0, .inl (9, [(4, 10), (1, 2), (4, 11), (4, 12), (4, 13), (4, 14), (4, 15), (4, 16), (4, 17), (4, 18), (4, 19), (4, 20), (4, 21), (4, 22), (1, 1), (4, 23), (0, 2), (0, 3), (0, 4), (0, 5), (0, 6), (0, 7), (0, 8), (4, 24), (0, 9), (4, 25), (0, 10), (0, 11), (0, 12), (0, 13), (4, 26), (0, 14), (0, 24), (0, 0), (0, 1), (1, 1), (1, 2), (0, 25), (4, 27), (4, 28), (0, 19), (0, 20)]))]
-- FarMachineModel.goesThrough
noncomputable def k360 : ckCtr := (90, ([(0, (1, 0)), (1, (1, 1)), (2, (0, 0)), (3, (0, 1)), (4, (1, 2))], [], dC638, dT639, dG640, [], [], [(1, 1, 0, 0, [])], 0, 0), [([], [(0, 23)], dP641, [], [], [(0, 1), (0, 30), (0, 1)], [], [], [(23, 1, 0), (23, 24, 0), (25, 1, 0), (25, 24, 0)], [(1, 1, 0, 0, [])], 0, 0)], 37, 901, 0, 0)
noncomputable def k360_a : ckAs := []
noncomputable def k360_c : List (Nat × ckCtr) := [(32, k359)]
theorem k360_ok (l : Launch) : ckCtrOk l ckMT ckTW ckCL k360 := mt_90 (as := k360_a) (cs := k360_c) (gx := []) (f := 200000) rfl (ckHc (k359_ok l) (fun _ h => absurd h List.not_mem_nil)) True.intro (by decide +kernel)
noncomputable def dC642 : List ckC := [.inl (9, [(4, 10), (1, 1), (4, 11), (4, 12), (4, 13), (4, 14), (4, 15), (4, 16), (4, 17), (4, 18), (4, 19), (4, 20), (4, 21), (4, 22), (1, 2), (1, 3), (0, 1), (0, 2), (0, 3), (0, 4), (0, 5), (0, 6), (0, 7), (4, 23), (0, 8), (4, 24), (0, 9), (0, 10), (0, 11), (0, 12), (4, 25), (0, 13), (0, 14), (0, 15), (0, 16), (5, 0), (5, 0), (0, 17), (4, 26), (4, 27), (0, 18), (0, 19)]), .inr (0, 20, 0), .inr (0, 21, 1), .inr (0, 22, 2)]
noncomputable def dT643 : List ckI := [(0, 9), (0, 1), (0, 1), ckTop, ckTop, ckTop, ckTop, ckTop, ckTop, ckTop, ckTop, ckTop, ckTop, ckTop, ckTop, ckTop, ckTop, (0, 1), ckTop, (0, 1), (318, 318), (300, 300), (10, 10)]
noncomputable def dG644 : List ckG := [([(48, ckTop), (49, (0, 47)), (55, ckTop), (56, ckTop), (58, ckTop), (59, ckTop), (60, ckTop), (61, ckTop), (62, ckTop), (63, ckTop), (64, ckTop), (65, ckTop), (66, ckTop), (67, ckTop), (68, ckTop), (76, ckTop), (77, (0, 30)), (197, ckTop), (198, (0, 60)), (318, ckTop)], [], []), ([(300, ckTop)], [], []), ([(10, (0, 30))], [], [])]
noncomputable def dP645 : List (Nat × ckC) := [(0, .inl (9, [(4, 10), (1, 1), (4, 11), (4, 12), (4, 13), (4, 14), (4, 15), (4, 16), (4, 17), (4, 18), (4, 19), (4, 20), (4, 21), (4, 22), (1, 2), (1, 3), (0, 1), (0, 2), (0, 3), (0, 4), (0, 5), (0, 6), (0, 7), (4, 23), (0, 8), (4, 24), (0, 9), (0, 10), (0, 11), (0, 12), (4, 25), (0, 13), (0, 24), (0, 25), (0, 26), (1, 2), (1, 1), (0, 27), (4, 26), (4, 27), (0, 18), (0, 19)]))]
-- FarMachineModel.isSo
noncomputable def k361 : ckCtr := (92, ([(0, (1, 0)), (1, (0, 0)), (2, (1, 1))], [], dC642, dT643, dG644, [], [], [(1, 0, 0, 0, [])], 0, 0), [([], [(0, 23)], dP645, [], [], [(0, 1), (0, 30), (0, 270), (0, 30), (0, 1)], [], [], [(23, 24, 0), (23, 26, 0), (27, 24, 0), (27, 26, 0)], [(1, 0, 0, 0, [])], 0, 0)], 38, 925, 0, 0)
noncomputable def k361_a : ckAs := []
noncomputable def k361_c : List (Nat × ckCtr) := [(16, k360)]
theorem k361_ok (l : Launch) : ckCtrOk l ckMT ckTW ckCL k361 := mt_92 (as := k361_a) (cs := k361_c) (gx := []) (f := 200000) rfl (ckHc (k360_ok l) (fun _ h => absurd h List.not_mem_nil)) True.intro (by decide +kernel)
noncomputable def dC646 : List ckC := [.inl (9, [(1, 1), (1, 2), (4, 10), (4, 11), (4, 12), (4, 13), (4, 14), (4, 15), (4, 16), (4, 17), (4, 18), (4, 19), (4, 20), (4, 21), (1, 3), (1, 4), (0, 1), (0, 2), (0, 3), (0, 4), (0, 5), (0, 6), (0, 7), (4, 22), (0, 8), (4, 23), (0, 9), (0, 10), (0, 11), (0, 12), (4, 24), (0, 13), (0, 14), (0, 15), (0, 16), (5, 0), (5, 0), (0, 17), (4, 25), (4, 26), (0, 18), (0, 19)]), .inr (0, 20, 0), .inr (0, 21, 1), .inr (0, 22, 2), .inr (0, 23, 3)]
noncomputable def dT647 : List ckI := [ckTop, (0, 1), (0, 1), (0, 8), (0, 40), (0, 6), (0, 8), (0, 10), (0, 126000), ckTop, ckTop, ckTop, ckTop, (0, 30), ckTop, ckTop, ckTop, (0, 1), ckTop, (0, 1), (7, 7), (318, 318), (300, 300), (10, 10), (1, 99), (0, 126000), ckTop, ckTop, ckTop, ckTop, ckTop, ckTop, ckTop, ckTop]
noncomputable def dG648 : List ckG := [([(7, ckTop)], [], []), ([(48, ckTop), (49, (0, 47)), (50, ckTop), (51, ckTop), (52, ckTop), (54, ckTop), (55, ckTop), (56, ckTop), (57, ckTop), (58, ckTop), (59, ckTop), (60, ckTop), (61, ckTop), (62, ckTop), (63, ckTop), (64, ckTop), (65, ckTop), (66, ckTop), (67, ckTop), (68, ckTop), (76, ckTop), (77, (0, 30)), (197, ckTop), (198, (0, 60)), (318, ckTop)], [(55, 24), (58, 25), (60, 26), (61, 27), (62, 28), (63, 29), (64, 30), (65, 31), (66, 32), (67, 33)], []), ([(300, ckTop)], [], []), ([(10, (0, 30))], [], [])]
noncomputable def dP649 : List (Nat × ckC) := [(0, .inl (9, [(1, 1), (1, 2), (4, 10), (4, 11), (4, 12), (4, 13), (4, 14), (4, 15), (4, 16), (4, 17), (4, 18), (4, 19), (4, 20), (4, 21), (1, 3), (1, 4), (0, 1), (0, 2), (0, 3), (0, 4), (0, 5), (0, 6), (0, 7), (4, 22), (0, 8), (4, 23), (0, 9), (0, 10), (0, 11), (0, 12), (4, 24), (0, 13), (0, 35), (0, 36), (0, 37), (5, 0), (5, 0), (0, 38), (4, 25), (4, 26), (0, 18), (0, 19)])), (1, .inr (0, 20, 4))]
-- FarMachineModel.holds
noncomputable def k362 : ckCtr := (93, ([(0, (1, 0)), (1, (0, 0))], [], dC646, dT647, dG648, [], [], [(1, 1, 0, 0, [])], 0, 0), [([], [(0, 34)], dP649, [], [], [(-1, 1), ckTop, ckTop, ckTop, (0, 1)], [([(1, ckTop), (2, ckTop), (7, ckTop)], [], [])], [], [(34, 7, 0)], [(1, 1, 0, 0, [])], 0, 0)], 39, 947, 0, 0)
noncomputable def k362_a : ckAs := []
noncomputable def k362_c : List (Nat × ckCtr) := [(5, k320), (17, k361), (33, k22)]
theorem k362_ok (l : Launch) : ckCtrOk l ckMT ckTW ckCL k362 := mt_93 (as := k362_a) (cs := k362_c) (gx := []) (f := 200000) rfl (ckHc (k320_ok l) (ckHc (k361_ok l) (ckHc (k22_ok l) (fun _ h => absurd h List.not_mem_nil)))) True.intro (by decide +kernel)
-- FarMachine$Rows.hasRoom
noncomputable def k363 : ckCtr := (152, ([(0, (1, 0))], [], [.inl (3, [(4, 10), (0, 0), (0, 1)])], [ckTop, ckTop], [], [], [], [], 0, 0), [([], [(0, 2)], [], [], [(1, (0, 255))], [(1, 1)], [], [], [], [], 0, 0), ([], [(0, 2)], [], [], [], [(0, 0)], [], [], [], [], 0, 0)], 1, 80, 0, 0)
noncomputable def k363_a : ckAs := []
noncomputable def k363_c : List (Nat × ckCtr) := []
theorem k363_ok (l : Launch) : ckCtrOk l ckMT ckTW ckCL k363 := mt_152 (as := k363_a) (cs := k363_c) (gx := []) (f := 200000) rfl (fun _ h => absurd h List.not_mem_nil) True.intro (by decide +kernel)
-- FarMachine$Rows.begin
noncomputable def k364 : ckCtr := (153, ([(0, (1, 0))], [], [.inl (3, [(1, 1), (0, 0), (0, 1)]), .inr (1, 2, 0)], [ckTop, ckTop, (2048, 2048)], [([(2048, (0, 0))], [], [])], [], [], [], 0, 0), [([], [], [(0, .inl (3, [(1, 1), (0, 3), (0, 1)]))], [], [], [(0, 0)], [], [], [], [], 0, 0)], 2, 100, 0, 0)
noncomputable def k364_a : ckAs := [(7, [(367430, [(1, 0, 0, ([(0, (1, 0)), (1, (0, 5))], [], [], [], [], [(0, 8)], [], [], [], [], 0, 0))])])]
noncomputable def k364_c : List (Nat × ckCtr) := [(14, k363)]
theorem k364_ok (l : Launch) : ckCtrOk l ckMT ckTW ckCL k364 := mt_153 (as := k364_a) (cs := k364_c) (gx := []) (f := 200000) rfl (ckHc (k363_ok l) (fun _ h => absurd h List.not_mem_nil)) True.intro (by decide +kernel)
-- FarMachine$Rows.add
noncomputable def k365 : ckCtr := (154, ([(0, (1, 0)), (1, (0, 0))], [], [.inl (3, [(1, 1), (0, 1), (0, 2)]), .inr (1, 3, 0)], [ckTop, ckTop, ckTop, (2048, 2048)], [([(2048, (0, 0))], [], [])], [], [], [], 0, 0), [([], [], [], [], [], [], [], [], [], [], 0, 0), ([], [], [(0, .inl (3, [(1, 1), (0, 4), (0, 2)]))], [], [(1, (0, 59)), (2, (0, 255))], [(1, 60)], [], [], [(1, 4, (-1)), (4, 1, 1)], [], 0, 0), ([], [], [], [], [(1, (60, 2147483647)), (2, (0, 255))], [], [], [], [], [], 0, 0), ([], [], [], [], [(1, (-2147483648, -1)), (2, (0, 255))], [], [], [], [], [], 0, 0)], 2, 100, 0, 0)
noncomputable def k365_a : ckAs := []
noncomputable def k365_c : List (Nat × ckCtr) := [(1, k363)]
theorem k365_ok (l : Launch) : ckCtrOk l ckMT ckTW ckCL k365 := mt_154 (as := k365_a) (cs := k365_c) (gx := []) (f := 200000) rfl (ckHc (k363_ok l) (fun _ h => absurd h List.not_mem_nil)) True.intro (by decide +kernel)
noncomputable def dC650 : List ckC := [.inl (5, [(1, 2), (1, 3), (1, 4), (1, 5), (1, 6), (0, 0)]), .inr (0, 1, 0), .inr (0, 2, 1), .inr (0, 2, 2), .inr (0, 2, 3), .inr (0, 2, 4), .inr (0, 3, 5)]
-- FarMachine$Rules.firstTrue
noncomputable def k366 : ckCtr := (173, ([(0, (1, 0)), (1, (1, 1))], [], dC650, [(0, 10), (8, 8), (70, 70), (10, 10)], dG582, [], [], [], 0, 0), [([], [(0, 4)], [], [], [(0, (1, 10))], [(0, 9)], [], [], [(4, 0, (-1))], [], 0, 0), ([], [(0, 4)], [], [], [], [(-9, -9)], [], [], [], [], 0, 0)], 4, 151, 0, 0)
noncomputable def k366_a : ckAs := [(2, [(352605, [(1, 0, 0, ([(0, (1, 0)), (1, (1, 1)), (2, (0, 5))], [], [], [], [], [(0, 10)], [], [], [(5, 0, 0)], [], 0, 0))])])]
noncomputable def k366_c : List (Nat × ckCtr) := [(13, k318)]
theorem k366_ok (l : Launch) : ckCtrOk l ckMT ckTW ckCL k366 := mt_173 (as := k366_a) (cs := k366_c) (gx := []) (f := 200000) rfl (ckHc (k318_ok l) (fun _ h => absurd h List.not_mem_nil)) True.intro (by decide +kernel)
noncomputable def dC651 : List ckC := [.inl (6, [(1, 1), (4, 10), (1, 2), (1, 3), (1, 4), (0, 1), (0, 2), (0, 3), (0, 4), (0, 5)]), .inl (7, [(4, 11), (4, 12), (0, 6), (4, 13), (4, 14), (4, 15), (4, 16), (1, 5), (4, 17), (4, 18)]), .inl (2, [(1, 6), (1, 7), (1, 8), (0, 7), (0, 8), (0, 9), (0, 10), (0, 11), (0, 12), (0, 13), (0, 14), (0, 15), (0, 16), (0, 17), (0, 18), (0, 19)]), .inr (0, 20, 0), .inl (3, [(1, 9), (0, 21), (0, 22)]), .inl (5, [(1, 10), (1, 11), (1, 12), (1, 13), (1, 14), (0, 23)]), .inr (0, 24, 1), .inr (0, 20, 2), .inl (1, [(1, 15), (1, 16), (1, 17), (1, 18), (0, 25)]), .inr (1, 26, 3), .inr (0, 27, 4), .inr (0, 27, 5), .inr (0, 27, 6), .inr (0, 27, 7), .inr (0, 28, 8), .inr (0, 29, 9), .inr (0, 29, 10), .inr (0, 29, 11), .inr (0, 29, 12)]
noncomputable def dT652 : List ckI := [ckTop, ckTop, ckTop, ckTop, ckTop, (0, 1), (0, 1), ckTop, ckTop, ckTop, ckTop, ckTop, ckTop, ckTop, ckTop, ckTop, ckTop, ckTop, ckTop, ckTop, (8, 8), ckTop, ckTop, (0, 10), (48, 48), ckTop, (2048, 2048), (70, 70), (10, 10), (30, 30)]
noncomputable def dG653 : List ckG := [([(8, ckTop)], [], []), ([(48, ckTop)], [], []), ([(8, ckTop)], [], []), ([(2048, (0, 0))], [], []), ([(70, ckTop)], [], []), ([(70, ckTop)], [], []), ([(70, ckTop)], [], []), ([(70, ckTop)], [], []), ([(10, ckTop)], [], []), ([(30, ckTop)], [], []), ([(30, ckTop)], [], []), ([(30, ckTop)], [], []), ([(30, ckTop)], [], [])]
noncomputable def dP654 : List (Nat × ckC) := [(2, .inl (2, [(1, 6), (1, 7), (1, 8), (0, 31), (0, 32), (0, 33), (0, 34), (0, 35), (0, 36), (0, 37), (0, 14), (0, 15), (0, 16), (0, 17), (0, 38), (0, 39)])), (3, .inr (0, 20, 13)), (4, .inl (3, [(1, 9), (0, 40), (0, 22)])), (6, .inr (0, 24, 14)), (8, .inl (1, [(1, 15), (1, 16), (1, 17), (1, 18), (0, 41)])), (15, .inr (0, 29, 15)), (16, .inr (0, 29, 16)), (17, .inr (0, 29, 17)), (18, .inr (0, 29, 18))]
noncomputable def dT655 : List ckI := [ckTop, ckTop, ckTop, ckTop, ckTop, ckTop, ckTop, ckTop, ckTop, ckTop, (0, 60), ckTop]
noncomputable def dG656 : List ckG := [([(1, ckTop), (2, ckTop), (3, ckTop), (4, ckTop), (5, ckTop), (6, ckTop), (7, ckTop), (8, ckTop)], [], []), ([(48, ckTop)], [], []), ([(30, ckTop)], [], []), ([(30, ckTop)], [], []), ([(30, ckTop)], [], []), ([(30, ckTop)], [], [])]
noncomputable def dP657 : List (Nat × ckC) := [(2, .inl (2, [(1, 6), (1, 7), (1, 8), (0, 35), (0, 36), (0, 37), (0, 38), (0, 39), (0, 40), (0, 41), (0, 14), (0, 15), (0, 16), (0, 17), (0, 42), (0, 43)])), (3, .inr (0, 20, 13)), (4, .inl (3, [(1, 9), (0, 44), (0, 22)])), (6, .inr (0, 24, 14)), (8, .inl (1, [(1, 15), (1, 16), (1, 17), (1, 18), (0, 45)])), (15, .inr (0, 29, 15)), (16, .inr (0, 29, 16)), (17, .inr (0, 29, 17)), (18, .inr (0, 29, 18))]
noncomputable def dT658 : List ckI := [ckTop, (0, 2147483647), ckTop, ckTop, ckTop, ckTop, ckTop, ckTop, ckTop, ckTop, ckTop, (0, 60), ckTop]
-- FarMachine$Trials.goOn
noncomputable def k367 : ckCtr := (180, ([(0, (1, 0)), (1, (0, 0))], [], dC651, dT652, dG653, [], [], [], 0, 0), [([], [(0, 30)], dP654, [], [], dT655, dG656, [], [], [], 0, 0)], 6, 193, 0, 0)
noncomputable def k367_a : ckAs := [(12, [(359473, [(1, 0, 1, ([(0, (1, 0)), (1, (0, 0)), (2, (0, 33)), (3, (0, 34))], [], dP657, [], [], dT658, dG656, [], [(44, 34, 0)], [], 0, 0))])])]
noncomputable def k367_c : List (Nat × ckCtr) := [(7, k364), (21, k155), (40, k365), (57, k314), (71, k366)]
theorem k367_ok (l : Launch) : ckCtrOk l ckMT ckTW ckCL k367 := mt_180 (as := k367_a) (cs := k367_c) (gx := []) (f := 200000) rfl (ckHc (k364_ok l) (ckHc (k155_ok l) (ckHc (k365_ok l) (ckHc (k314_ok l) (ckHc (k366_ok l) (fun _ h => absurd h List.not_mem_nil)))))) True.intro (by decide +kernel)
noncomputable def dC659 : List ckC := [.inl (8, [(1, 1), (4, 10), (0, 2), (4, 11), (4, 12), (1, 2), (4, 13), (1, 3)]), .inl (7, [(4, 14), (1, 4), (0, 3), (4, 15), (4, 16), (1, 5), (1, 6), (1, 7), (4, 17), (4, 18)]), .inl (6, [(1, 1), (4, 11), (1, 8), (1, 9), (1, 10), (0, 4), (0, 5), (0, 6), (0, 7), (0, 8)]), .inr (0, 9, 0), .inl (2, [(1, 11), (1, 12), (1, 13), (0, 10), (0, 11), (0, 12), (0, 13), (0, 14), (0, 15), (0, 16), (0, 17), (0, 18), (0, 19), (0, 20), (0, 21), (0, 22)]), .inl (0, [(1, 14), (0, 23)]), .inl (0, [(1, 15), (0, 24)]), .inl (5, [(1, 16), (1, 17), (1, 18), (1, 19), (1, 20), (0, 25)]), .inl (2, [(1, 21), (1, 22), (1, 23), (0, 26), (0, 27), (0, 28), (0, 29), (0, 30), (0, 31), (0, 32), (0, 33), (0, 34), (0, 35), (0, 36), (0, 37), (0, 38)]), .inr (0, 39, 1), .inl (3, [(1, 24), (0, 40), (0, 41)]), .inr (0, 42, 2), .inr (0, 39, 3), .inl (1, [(1, 25), (1, 26), (1, 27), (1, 28), (0, 43)]), .inr (0, 39, 4), .inr (0, 39, 5), .inr (0, 44, 6), .inr (0, 44, 7), .inr (0, 44, 8), .inr (0, 44, 9), .inr (0, 45, 10), .inr (0, 42, 11), .inr (0, 39, 12), .inl (1, [(1, 29), (1, 30), (1, 31), (1, 32), (0, 46)]), .inr (1, 47, 13), .inr (0, 48, 14), .inr (0, 48, 15), .inr (0, 48, 16), .inr (0, 48, 17), .inr (0, 48, 18), .inr (0, 48, 19), .inr (0, 48, 20), .inr (0, 48, 21)]
noncomputable def dT660 : List ckI := [ckTop, ckTop, (0, 1), (0, 1), ckTop, ckTop, ckTop, ckTop, (0, 1), (7, 7), ckTop, ckTop, ckTop, ckTop, ckTop, ckTop, ckTop, ckTop, ckTop, ckTop, ckTop, ckTop, ckTop, ckTop, ckTop, (0, 10), ckTop, ckTop, ckTop, ckTop, ckTop, ckTop, ckTop, ckTop, ckTop, ckTop, ckTop, ckTop, ckTop, (8, 8), ckTop, ckTop, (48, 48), ckTop, (70, 70), (10, 10), ckTop, (2048, 2048), (30, 30)]
noncomputable def dG661 : List ckG := [([(7, ckTop)], [], []), ([(8, ckTop)], [], []), ([(48, ckTop)], [], []), ([(8, ckTop)], [], []), ([(8, ckTop)], [], []), ([(8, ckTop)], [], []), ([(70, ckTop)], [], []), ([(70, ckTop)], [], []), ([(70, ckTop)], [], []), ([(70, ckTop)], [], []), ([(10, ckTop)], [], []), ([(48, ckTop)], [], []), ([(8, ckTop)], [], []), ([(2048, (0, 0))], [], []), ([(30, ckTop)], [], []), ([(30, ckTop)], [], []), ([(30, ckTop)], [], []), ([(30, ckTop)], [], []), ([(30, ckTop)], [], []), ([(30, ckTop)], [], []), ([(30, ckTop)], [], []), ([(30, ckTop)], [], [])]
noncomputable def dP662 : List (Nat × ckC) := [(3, .inr (0, 9, 22)), (8, .inl (2, [(1, 21), (1, 22), (1, 23), (0, 50), (0, 51), (0, 52), (0, 53), (0, 54), (0, 55), (0, 56), (0, 57), (0, 58), (0, 59), (0, 60), (0, 61), (0, 62)])), (9, .inr (0, 39, 23)), (10, .inl (3, [(1, 24), (0, 63), (0, 41)])), (21, .inr (0, 42, 24)), (22, .inr (0, 39, 25)), (23, .inl (1, [(1, 29), (1, 30), (1, 31), (1, 32), (0, 64)])), (29, .inr (0, 48, 26)), (30, .inr (0, 48, 27)), (31, .inr (0, 48, 28)), (32, .inr (0, 48, 29))]
noncomputable def dT663 : List ckI := [ckTop, ckTop, ckTop, ckTop, ckTop, ckTop, ckTop, ckTop, ckTop, ckTop, ckTop, ckTop, ckTop, ckTop, ckTop, ckTop]
noncomputable def dG664 : List ckG := [([(7, ckTop)], [], []), ([(1, ckTop), (2, ckTop), (3, ckTop), (4, ckTop), (5, ckTop), (6, ckTop), (7, ckTop), (8, ckTop)], [], []), ([(48, ckTop)], [], []), ([(8, ckTop)], [], []), ([(30, ckTop)], [], []), ([(30, ckTop)], [], []), ([(30, ckTop)], [], []), ([(30, ckTop)], [], [])]
-- FarMachine.broken
noncomputable def k368 : ckCtr := (20, ([(0, (1, 0)), (1, (0, 0)), (2, (0, 1))], [], dC659, dT660, dG661, [], [], [], 0, 0), [([], [(0, 49)], dP662, [], [], dT663, dG664, [], [], [], 0, 0)], 7, 218, 0, 0)
noncomputable def k368_a : ckAs := []
noncomputable def k368_c : List (Nat × ckCtr) := [(3, k211), (8, k212), (18, k175), (27, k213), (35, k367)]
theorem k368_ok (l : Launch) : ckCtrOk l ckMT ckTW ckCL k368 := mt_20 (as := k368_a) (cs := k368_c) (gx := []) (f := 200000) rfl (ckHc (k211_ok l) (ckHc (k212_ok l) (ckHc (k175_ok l) (ckHc (k213_ok l) (ckHc (k367_ok l) (fun _ h => absurd h List.not_mem_nil)))))) True.intro (by decide +kernel)
noncomputable def dC665 : List ckC := [.inl (9, [(4, 10), (4, 11), (4, 12), (4, 13), (4, 14), (4, 15), (4, 16), (4, 17), (4, 18), (4, 19), (4, 20), (4, 21), (4, 22), (4, 23), (1, 1), (4, 24), (0, 0), (0, 1), (0, 2), (0, 3), (0, 4), (0, 5), (0, 6), (4, 25), (0, 7), (4, 26), (0, 8), (0, 9), (0, 10), (0, 11), (4, 27), (0, 12), (0, 13), (0, 14), (0, 15), (1, 1), (4, 14), (0, 16), (4, 28), (4, 29), (0, 17), (0, 18)]), .inr (0, 19, 0)]
-- FarMachineModel.sign
noncomputable def k369 : ckCtr := (83, ([(0, (1, 0))], [], dC665, dT588, [([(300, ckTop)], [], [])], [], [], [], 0, 0), [([], [(0, 20)], [], [], [], [(-1, -1)], [], [], [(15, 13, 0)], [], 0, 0), ([], [(0, 20)], [], [], [(13, (0, 29)), (15, (1, 30))], [ckTop], [], [], [(13, 15, (-1))], [], 0, 0)], 1, 80, 0, 0)
noncomputable def k369_a : ckAs := []
noncomputable def k369_c : List (Nat × ckCtr) := []
theorem k369_ok (l : Launch) : ckCtrOk l ckMT ckTW ckCL k369 := mt_83 (as := k369_a) (cs := k369_c) (gx := []) (f := 200000) rfl (fun _ h => absurd h List.not_mem_nil) True.intro (by decide +kernel)
noncomputable def dC666 : List ckC := [.inl (9, [(4, 10), (4, 11), (4, 12), (4, 13), (4, 14), (4, 15), (4, 16), (4, 17), (4, 18), (4, 19), (4, 20), (4, 21), (4, 22), (4, 23), (1, 1), (4, 24), (0, 1), (0, 2), (0, 3), (0, 4), (0, 5), (0, 6), (0, 7), (4, 25), (0, 8), (4, 26), (0, 9), (0, 10), (0, 11), (0, 12), (4, 27), (0, 13), (0, 14), (0, 15), (0, 16), (1, 1), (4, 14), (0, 17), (4, 28), (4, 29), (0, 18), (0, 19)]), .inr (0, 20, 0)]
noncomputable def dP667 : List (Nat × ckC) := [(0, .inl (9, [(4, 10), (4, 11), (4, 12), (4, 13), (4, 14), (4, 15), (4, 16), (4, 17), (4, 18), (4, 19), (4, 20), (4, 21), (4, 22), (4, 23), (1, 1), (4, 24), (0, 1), (0, 2), (0, 3), (0, 4), (0, 5), (0, 6), (0, 7), (4, 25), (0, 8), (4, 26), (0, 9), (0, 10), (0, 11), (0, 12), (4, 27), (0, 13), (0, 22), (0, 15), (0, 16), (1, 1), (4, 14), (0, 17), (4, 28), (4, 29), (0, 18), (0, 19)]))]
-- FarMachineModel.takes
noncomputable def k370 : ckCtr := (84, ([(0, (1, 0)), (1, (0, 0))], [], dC666, dT590, [([(300, ckTop)], [], [])], [], [], [], 0, 0), [([], [(0, 21)], [], [], [], [(0, 0)], [], [], [], [], 0, 0), ([], [(0, 21)], dP667, [], [(14, (0, 29)), (16, (1, 30)), (17, (1, 1))], [(1, 1), (1, 30)], [], [], [(14, 16, (-1)), (14, 22, (-1)), (22, 14, 1), (22, 16, 0)], [], 0, 0)], 2, 100, 0, 0)
noncomputable def k370_a : ckAs := []
noncomputable def k370_c : List (Nat × ckCtr) := [(8, k369)]
theorem k370_ok (l : Launch) : ckCtrOk l ckMT ckTW ckCL k370 := mt_84 (as := k370_a) (cs := k370_c) (gx := []) (f := 200000) rfl (ckHc (k369_ok l) (fun _ h => absurd h List.not_mem_nil)) True.intro (by decide +kernel)
noncomputable def dC668 : List ckC := [.inl (9, [(4, 10), (4, 11), (4, 12), (4, 13), (1, 1), (4, 14), (4, 15), (4, 16), (4, 17), (4, 18), (4, 19), (4, 20), (4, 21), (4, 22), (4, 23), (4, 24), (0, 1), (0, 2), (0, 3), (0, 4), (0, 5), (0, 6), (0, 7), (4, 25), (0, 8), (4, 26), (0, 9), (0, 10), (0, 11), (0, 12), (4, 27), (0, 13), (0, 14), (0, 15), (0, 16), (4, 23), (1, 1), (0, 17), (4, 28), (4, 29), (0, 18), (0, 19)]), .inr (0, 20, 0)]
noncomputable def dP669 : List (Nat × ckC) := [(0, .inl (9, [(4, 10), (4, 11), (4, 12), (4, 13), (1, 1), (4, 14), (4, 15), (4, 16), (4, 17), (4, 18), (4, 19), (4, 20), (4, 21), (4, 22), (4, 23), (4, 24), (0, 1), (0, 2), (0, 3), (0, 4), (0, 5), (0, 6), (0, 7), (4, 25), (0, 8), (4, 26), (0, 9), (0, 10), (0, 11), (0, 12), (4, 27), (0, 13), (0, 22), (0, 15), (0, 16), (4, 23), (1, 1), (0, 21), (4, 28), (4, 29), (0, 18), (0, 19)]))]
-- FarMachineModel.letter
noncomputable def k371 : ckCtr := (89, ([(0, (1, 0)), (1, (0, 0))], [], dC668, dT593, dG488, [], [], [(1, 0, 0, 0, [])], 0, 0), [([], [(0, 21)], dP669, [], [], [(0, 0), (0, 30)], [], [], [(14, 22, 0), (22, 14, 0)], [(1, 0, 0, 0, [])], 0, 0)], 1, 80, 0, 0)
noncomputable def k371_a : ckAs := []
noncomputable def k371_c : List (Nat × ckCtr) := []
theorem k371_ok (l : Launch) : ckCtrOk l ckMT ckTW ckCL k371 := mt_89 (as := k371_a) (cs := k371_c) (gx := []) (f := 200000) rfl (fun _ h => absurd h List.not_mem_nil) True.intro (by decide +kernel)
noncomputable def dP670 : List (Nat × ckC) := [(0, .inl (9, [(4, 10), (4, 11), (4, 12), (4, 13), (1, 1), (4, 14), (4, 15), (4, 16), (4, 17), (4, 18), (4, 19), (4, 20), (4, 21), (4, 22), (4, 23), (4, 24), (0, 1), (0, 2), (0, 3), (0, 4), (0, 5), (0, 6), (0, 7), (4, 25), (0, 8), (4, 26), (0, 9), (0, 10), (0, 11), (0, 12), (4, 27), (0, 13), (0, 22), (0, 15), (0, 16), (4, 23), (1, 1), (0, 23), (4, 28), (4, 29), (0, 18), (0, 19)]))]
-- FarMachineModel.letter
noncomputable def k372 : ckCtr := (89, ([(0, (1, 0)), (1, (0, 0))], [], dC668, dT595, dG488, [], [], [(1, 0, 0, 0, [])], 0, 0), [([], [(0, 21)], dP670, [], [], [ckTop, (0, 30), (0, 1)], [], [], [(14, 22, 0), (22, 14, 1), (23, 17, 0), (23, 22, 0)], [(1, 0, 0, 0, [])], 0, 0)], 3, 122, 0, 0)
noncomputable def k372_a : ckAs := []
noncomputable def k372_c : List (Nat × ckCtr) := [(171, k274), (179, k275), (182, k132)]
theorem k372_ok (l : Launch) : ckCtrOk l ckMT ckTW ckCL k372 := mt_89 (as := k372_a) (cs := k372_c) (gx := []) (f := 200000) rfl (ckHc (k274_ok l) (ckHc (k275_ok l) (ckHc (k132_ok l) (fun _ h => absurd h List.not_mem_nil)))) True.intro (by decide +kernel)
-- FarMachineModel.sign
noncomputable def k373 : ckCtr := (83, ([(0, (1, 0))], [], dC665, dT597, [([(300, ckTop)], [], [])], [], [], [], 0, 0), [([], [(0, 20)], [], [], [(15, (0, 29))], [(-1, -1)], [], [], [(15, 13, 0)], [], 0, 0), ([], [(0, 20)], [], [], [(15, (1, 30))], [ckTop], [], [], [(13, 15, (-1))], [], 0, 0)], 1, 80, 0, 0)
noncomputable def k373_a : ckAs := []
noncomputable def k373_c : List (Nat × ckCtr) := []
theorem k373_ok (l : Launch) : ckCtrOk l ckMT ckTW ckCL k373 := mt_83 (as := k373_a) (cs := k373_c) (gx := []) (f := 200000) rfl (fun _ h => absurd h List.not_mem_nil) True.intro (by decide +kernel)
noncomputable def dC671 : List ckC := [.inl (9, [(4, 10), (4, 11), (4, 12), (4, 13), (1, 1), (4, 14), (4, 15), (4, 16), (4, 17), (4, 18), (4, 19), (4, 20), (4, 21), (4, 22), (1, 2), (4, 23), (0, 0), (0, 1), (0, 2), (0, 3), (0, 4), (0, 5), (0, 6), (4, 24), (0, 7), (4, 25), (0, 8), (0, 9), (0, 10), (0, 11), (4, 26), (0, 12), (0, 13), (0, 14), (0, 15), (1, 2), (1, 1), (0, 16), (4, 27), (4, 28), (0, 17), (0, 18)]), .inr (0, 19, 0), .inr (0, 20, 1)]
noncomputable def dP672 : List (Nat × ckC) := [(0, .inl (9, [(4, 10), (4, 11), (4, 12), (4, 13), (1, 1), (4, 14), (4, 15), (4, 16), (4, 17), (4, 18), (4, 19), (4, 20), (4, 21), (4, 22), (1, 2), (4, 23), (0, 0), (0, 1), (0, 2), (0, 3), (0, 4), (0, 5), (0, 6), (4, 24), (0, 7), (4, 25), (0, 8), (0, 9), (0, 10), (0, 11), (4, 26), (0, 12), (0, 22), (0, 14), (0, 15), (1, 2), (1, 1), (0, 23), (4, 27), (4, 28), (0, 17), (0, 18)]))]
noncomputable def dP673 : List (Nat × ckC) := [(0, .inl (9, [(4, 10), (4, 11), (4, 12), (4, 13), (1, 1), (4, 14), (4, 15), (4, 16), (4, 17), (4, 18), (4, 19), (4, 20), (4, 21), (4, 22), (1, 2), (4, 23), (0, 0), (0, 1), (0, 2), (0, 3), (0, 4), (0, 5), (0, 6), (4, 24), (0, 7), (4, 25), (0, 8), (0, 9), (0, 10), (0, 11), (4, 26), (0, 12), (0, 29), (0, 14), (0, 15), (1, 2), (1, 1), (0, 16), (4, 27), (4, 28), (0, 17), (0, 18)]))]
noncomputable def dP674 : List (Nat × ckC) := [(0, .inl (9, [(4, 10), (4, 11), (4, 12), (4, 13), (1, 1), (4, 14), (4, 15), (4, 16), (4, 17), (4, 18), (4, 19), (4, 20), (4, 21), (4, 22), (1, 2), (4, 23), (0, 0), (0, 1), (0, 2), (0, 3), (0, 4), (0, 5), (0, 6), (4, 24), (0, 7), (4, 25), (0, 8), (0, 9), (0, 10), (0, 11), (4, 26), (0, 12), (0, 30), (0, 14), (0, 15), (1, 2), (1, 1), (0, 16), (4, 27), (4, 28), (0, 17), (0, 18)]))]
-- FarMachineModel.unit
noncomputable def k374 : ckCtr := (88, ([(0, (1, 0))], [], dC671, dT599, dG600, [], [], [(1, 0, 0, 0, [])], 0, 0), [([], [(0, 21)], dP672, [], [], [ckTop, (0, 30), (0, 1)], [], [], [(13, 22, 0), (23, 15, 0), (23, 16, 0), (23, 22, 0)], [(1, 0, 0, 0, [])], 0, 0)], 4, 143, 0, 0)
noncomputable def k374_a : ckAs := [(53, [(262068, [(1, 0, 1, ([(0, (1, 0)), (1, (0, 21)), (2, (0, 27)), (3, (0, 28))], [], dP673, [], [], [ckTop, (0, 3), (0, 30)], [], [], dZ498, [(1, 0, 0, 0, [])], 0, 0))]), (316176, [(1, 0, 1, ([(0, (1, 0)), (1, (0, 21)), (2, (0, 28)), (3, (0, 29))], [], dP674, [], [], [ckTop, (0, 3), (1, 30)], [], [], dZ500, [(1, 0, 0, 0, [])], 0, 0))])])]
noncomputable def k374_c : List (Nat × ckCtr) := [(10, k369), (21, k272), (29, k371), (29, k372), (59, k369), (62, k272), (73, k373)]
theorem k374_ok (l : Launch) : ckCtrOk l ckMT ckTW ckCL k374 := mt_88 (as := k374_a) (cs := k374_c) (gx := []) (f := 200000) rfl (ckHc (k369_ok l) (ckHc (k272_ok l) (ckHc (k371_ok l) (ckHc (k372_ok l) (ckHc (k369_ok l) (ckHc (k272_ok l) (ckHc (k373_ok l) (fun _ h => absurd h List.not_mem_nil)))))))) True.intro (by decide +kernel)
noncomputable def dP675 : List (Nat × ckC) := [(0, .inl (9, [(4, 10), (4, 11), (4, 12), (4, 13), (1, 1), (4, 14), (4, 15), (4, 16), (4, 17), (4, 18), (4, 19), (4, 20), (4, 21), (4, 22), (1, 2), (4, 23), (0, 0), (0, 1), (0, 2), (0, 3), (0, 4), (0, 5), (0, 6), (4, 24), (0, 7), (4, 25), (0, 8), (0, 9), (0, 10), (0, 11), (4, 26), (0, 12), (0, 13), (0, 14), (0, 15), (1, 2), (1, 1), (0, 21), (4, 27), (4, 28), (0, 17), (0, 18)]))]
-- FarMachineModel.test
noncomputable def k375 : ckCtr := (86, ([(0, (1, 0))], [], dC671, dT604, dG600, [], [], [(1, 0, 0, 0, [])], 0, 0), [([], [(0, 21)], dP675, [], [], [(0, 0)], [], [], [], [(1, 0, 0, 0, [])], 0, 0)], 5, 166, 0, 0)
noncomputable def k375_a : ckAs := []
noncomputable def k375_c : List (Nat × ckCtr) := [(3, k370), (23, k374), (28, k369)]
theorem k375_ok (l : Launch) : ckCtrOk l ckMT ckTW ckCL k375 := mt_86 (as := k375_a) (cs := k375_c) (gx := []) (f := 200000) rfl (ckHc (k370_ok l) (ckHc (k374_ok l) (ckHc (k369_ok l) (fun _ h => absurd h List.not_mem_nil)))) True.intro (by decide +kernel)
-- FarMachineModel.test
noncomputable def k376 : ckCtr := (86, ([(0, (1, 0))], [], dC671, dT606, dG600, [], [], [(1, 0, 0, 0, [])], 0, 0), [([], [(0, 21)], dP672, [], [], [(0, 1), (29, 30), (0, 1)], [], [], dZ504, [(1, 0, 0, 0, [])], 0, 0)], 6, 189, 0, 0)
noncomputable def k376_a : ckAs := []
noncomputable def k376_c : List (Nat × ckCtr) := [(3, k370), (10, k375), (23, k374), (28, k369), (75, k374)]
theorem k376_ok (l : Launch) : ckCtrOk l ckMT ckTW ckCL k376 := mt_86 (as := k376_a) (cs := k376_c) (gx := []) (f := 200000) rfl (ckHc (k370_ok l) (ckHc (k375_ok l) (ckHc (k374_ok l) (ckHc (k369_ok l) (ckHc (k374_ok l) (fun _ h => absurd h List.not_mem_nil)))))) True.intro (by decide +kernel)
-- FarMachineModel.test
noncomputable def k377 : ckCtr := (86, ([(0, (1, 0))], [], dC671, dT607, dG600, [], [], [(1, 0, 0, 0, [])], 0, 0), [([], [(0, 21)], dP672, [], [], [(0, 1), (28, 30), (0, 1)], [], [], dZ506, [(1, 0, 0, 0, [])], 0, 0)], 7, 212, 0, 0)
noncomputable def k377_a : ckAs := []
noncomputable def k377_c : List (Nat × ckCtr) := [(3, k370), (10, k376), (23, k374), (28, k369), (75, k374)]
theorem k377_ok (l : Launch) : ckCtrOk l ckMT ckTW ckCL k377 := mt_86 (as := k377_a) (cs := k377_c) (gx := []) (f := 200000) rfl (ckHc (k370_ok l) (ckHc (k376_ok l) (ckHc (k374_ok l) (ckHc (k369_ok l) (ckHc (k374_ok l) (fun _ h => absurd h List.not_mem_nil)))))) True.intro (by decide +kernel)
-- FarMachineModel.test
noncomputable def k378 : ckCtr := (86, ([(0, (1, 0))], [], dC671, dT608, dG600, [], [], [(1, 0, 0, 0, [])], 0, 0), [([], [(0, 21)], dP672, [], [], [(0, 1), (27, 30), (0, 1)], [], [], dZ508, [(1, 0, 0, 0, [])], 0, 0)], 8, 235, 0, 0)
noncomputable def k378_a : ckAs := []
noncomputable def k378_c : List (Nat × ckCtr) := [(3, k370), (10, k377), (23, k374), (28, k369), (75, k374)]
theorem k378_ok (l : Launch) : ckCtrOk l ckMT ckTW ckCL k378 := mt_86 (as := k378_a) (cs := k378_c) (gx := []) (f := 200000) rfl (ckHc (k370_ok l) (ckHc (k377_ok l) (ckHc (k374_ok l) (ckHc (k369_ok l) (ckHc (k374_ok l) (fun _ h => absurd h List.not_mem_nil)))))) True.intro (by decide +kernel)
-- FarMachineModel.test
noncomputable def k379 : ckCtr := (86, ([(0, (1, 0))], [], dC671, dT609, dG600, [], [], [(1, 0, 0, 0, [])], 0, 0), [([], [(0, 21)], dP672, [], [], [(0, 1), (26, 30), (0, 1)], [], [], dZ510, [(1, 0, 0, 0, [])], 0, 0)], 9, 258, 0, 0)
noncomputable def k379_a : ckAs := []
noncomputable def k379_c : List (Nat × ckCtr) := [(3, k370), (10, k378), (23, k374), (28, k369), (75, k374)]
theorem k379_ok (l : Launch) : ckCtrOk l ckMT ckTW ckCL k379 := mt_86 (as := k379_a) (cs := k379_c) (gx := []) (f := 200000) rfl (ckHc (k370_ok l) (ckHc (k378_ok l) (ckHc (k374_ok l) (ckHc (k369_ok l) (ckHc (k374_ok l) (fun _ h => absurd h List.not_mem_nil)))))) True.intro (by decide +kernel)
