/-! THE CHECKER: contracts with their certificates (printed by wip/gen2/p14gen.py) -/
noncomputable def dT88 : List ckI := [(1, 1), (0, 7), (0, 1), (0, 1), (0, 8), (0, 40), (0, 6), (0, 8), (0, 10), (0, 126000), ckTop, ckTop, ckTop, ckTop, (0, 30), ckTop, ckTop, ckTop, (0, 1), ckTop, (0, 1), (318, 318), (1, 99), (0, 126000), ckTop, ckTop, ckTop, ckTop, ckTop, ckTop, ckTop, ckTop]
noncomputable def dG89 : List ckG := [([(48, ckTop), (49, (0, 47)), (50, ckTop), (51, ckTop), (52, ckTop), (54, ckTop), (55, ckTop), (56, ckTop), (57, ckTop), (58, ckTop), (59, ckTop), (60, ckTop), (61, ckTop), (62, (0, 7)), (63, ckTop), (64, ckTop), (65, ckTop), (66, ckTop), (67, ckTop), (68, ckTop), (69, ckTop), (70, (1, 1)), (76, ckTop), (77, (0, 30)), (197, ckTop), (198, (0, 60)), (318, ckTop)], [(55, 22), (58, 23), (60, 24), (61, 1), (62, 26), (63, 27), (64, 28), (65, 29), (66, 30), (67, 31), (69, 0)], [])]
-- FarMachineModel.box
noncomputable def k44 : ckCtr := (63, ([(0, (1, 0)), (1, (0, 0)), (2, (0, 1)), (3, (0, 0))], [], dC84, dT88, dG86, [], [], [(1, 0, 0, 0, [])], 0, 0), [([], [(0, 25)], [(1, .inr (0, 21, 1))], [], [], [], dG89, [], [], [(1, 1, 0, 0, []), (1, 0, 0, 0, [])], 0, 0)], 2, 101, 0, 0)
noncomputable def k44_a : ckAs := []
noncomputable def k44_c : List (Nat × ckCtr) := [(3, k32), (18, k32)]
theorem k44_ok (l : Launch) : ckCtrOk l ckMT ckTW ckCL k44 := mt_63 (as := k44_a) (cs := k44_c) (gx := []) (f := 200000) rfl (ckHc (k32_ok l) (ckHc (k32_ok l) (fun _ h => absurd h List.not_mem_nil))) True.intro (by decide +kernel)
noncomputable def dT90 : List ckI := [(1, 1), (0, 7), (0, 0), (0, 1), (0, 1), (0, 8), (0, 40), (0, 6), (0, 8), (0, 10), (0, 126000), ckTop, ckTop, ckTop, ckTop, (0, 30), ckTop, ckTop, ckTop, (0, 1), ckTop, (0, 1), (318, 318), (1, 99), (0, 126000), ckTop, ckTop, ckTop, ckTop, ckTop, ckTop, ckTop, ckTop]
noncomputable def dG91 : List ckG := [([(48, ckTop), (49, (0, 47)), (50, ckTop), (51, ckTop), (52, ckTop), (54, ckTop), (55, ckTop), (56, ckTop), (57, ckTop), (58, ckTop), (59, ckTop), (60, ckTop), (61, ckTop), (62, (0, 7)), (63, ckTop), (64, ckTop), (65, ckTop), (66, ckTop), (67, ckTop), (68, ckTop), (69, ckTop), (70, (0, 0)), (76, ckTop), (77, (0, 30)), (197, ckTop), (198, (0, 60)), (318, ckTop)], [(55, 23), (58, 24), (60, 25), (61, 1), (62, 27), (63, 28), (64, 29), (65, 30), (66, 31), (67, 32), (69, 2)], [])]
-- FarMachineModel.box
noncomputable def k45 : ckCtr := (63, ([(0, (1, 0)), (1, (0, 0)), (2, (0, 1)), (3, (0, 2))], [], dC80, dT90, dG82, [], [], [(1, 0, 0, 0, [])], 0, 0), [([], [(0, 26)], [(1, .inr (0, 22, 1))], [], [], [], dG91, [], [], [(1, 1, 0, 0, []), (1, 0, 0, 0, [])], 0, 0)], 2, 101, 0, 0)
noncomputable def k45_a : ckAs := []
noncomputable def k45_c : List (Nat × ckCtr) := [(3, k32), (18, k32)]
theorem k45_ok (l : Launch) : ckCtrOk l ckMT ckTW ckCL k45 := mt_63 (as := k45_a) (cs := k45_c) (gx := []) (f := 200000) rfl (ckHc (k32_ok l) (ckHc (k32_ok l) (fun _ h => absurd h List.not_mem_nil))) True.intro (by decide +kernel)
noncomputable def dT92 : List ckI := [(2, 2), (0, 7), (1, 1), (0, 1), (0, 1), (0, 8), (0, 40), (0, 6), (0, 8), (0, 10), (0, 126000), ckTop, ckTop, ckTop, ckTop, (0, 30), ckTop, ckTop, ckTop, (0, 1), ckTop, (0, 1), (318, 318), (1, 99), (0, 126000), ckTop, ckTop, ckTop, ckTop, ckTop, ckTop, ckTop, ckTop]
noncomputable def dG93 : List ckG := [([(48, ckTop), (49, (0, 47)), (50, ckTop), (51, ckTop), (52, ckTop), (54, ckTop), (55, ckTop), (56, ckTop), (57, ckTop), (58, ckTop), (59, ckTop), (60, ckTop), (61, ckTop), (62, ckTop), (63, (0, 7)), (64, ckTop), (65, ckTop), (66, ckTop), (67, ckTop), (68, ckTop), (70, ckTop), (71, (1, 1)), (76, ckTop), (77, (0, 30)), (197, ckTop), (198, (0, 60)), (318, ckTop)], [(55, 23), (58, 24), (60, 25), (61, 26), (62, 1), (63, 28), (64, 29), (65, 30), (66, 31), (67, 32), (70, 2)], [])]
-- FarMachineModel.box
noncomputable def k46 : ckCtr := (63, ([(0, (1, 0)), (1, (0, 0)), (2, (0, 1)), (3, (0, 2))], [], dC80, dT92, dG82, [], [], [(1, 0, 0, 0, [])], 0, 0), [([], [(0, 27)], [(1, .inr (0, 22, 1))], [], [], [], dG93, [], [], [(1, 1, 0, 0, []), (1, 0, 0, 0, [])], 0, 0)], 2, 101, 0, 0)
noncomputable def k46_a : ckAs := []
noncomputable def k46_c : List (Nat × ckCtr) := [(3, k32), (18, k32)]
theorem k46_ok (l : Launch) : ckCtrOk l ckMT ckTW ckCL k46 := mt_63 (as := k46_a) (cs := k46_c) (gx := []) (f := 200000) rfl (ckHc (k32_ok l) (ckHc (k32_ok l) (fun _ h => absurd h List.not_mem_nil))) True.intro (by decide +kernel)
noncomputable def dT94 : List ckI := [(2, 2), (0, 7), (0, 0), (0, 1), (0, 1), (0, 8), (0, 40), (0, 6), (0, 8), (0, 10), (0, 126000), ckTop, ckTop, ckTop, ckTop, (0, 30), ckTop, ckTop, ckTop, (0, 1), ckTop, (0, 1), (318, 318), (1, 99), (0, 126000), ckTop, ckTop, ckTop, ckTop, ckTop, ckTop, ckTop, ckTop]
noncomputable def dG95 : List ckG := [([(48, ckTop), (49, (0, 47)), (50, ckTop), (51, ckTop), (52, ckTop), (54, ckTop), (55, ckTop), (56, ckTop), (57, ckTop), (58, ckTop), (59, ckTop), (60, ckTop), (61, ckTop), (62, ckTop), (63, (0, 7)), (64, ckTop), (65, ckTop), (66, ckTop), (67, ckTop), (68, ckTop), (70, ckTop), (71, (0, 0)), (76, ckTop), (77, (0, 30)), (197, ckTop), (198, (0, 60)), (318, ckTop)], [(55, 23), (58, 24), (60, 25), (61, 26), (62, 1), (63, 28), (64, 29), (65, 30), (66, 31), (67, 32), (70, 2)], [])]
-- FarMachineModel.box
noncomputable def k47 : ckCtr := (63, ([(0, (1, 0)), (1, (0, 0)), (2, (0, 1)), (3, (0, 2))], [], dC80, dT94, dG82, [], [], [(1, 0, 0, 0, [])], 0, 0), [([], [(0, 27)], [(1, .inr (0, 22, 1))], [], [], [], dG95, [], [], [(1, 1, 0, 0, []), (1, 0, 0, 0, [])], 0, 0)], 2, 101, 0, 0)
noncomputable def k47_a : ckAs := []
noncomputable def k47_c : List (Nat × ckCtr) := [(3, k32), (18, k32)]
theorem k47_ok (l : Launch) : ckCtrOk l ckMT ckTW ckCL k47 := mt_63 (as := k47_a) (cs := k47_c) (gx := []) (f := 200000) rfl (ckHc (k32_ok l) (ckHc (k32_ok l) (fun _ h => absurd h List.not_mem_nil))) True.intro (by decide +kernel)
noncomputable def dT96 : List ckI := [(3, 3), (0, 7), (1, 1), (0, 1), (0, 1), (0, 8), (0, 40), (0, 6), (0, 8), (0, 10), (0, 126000), ckTop, ckTop, ckTop, ckTop, (0, 30), ckTop, ckTop, ckTop, (0, 1), ckTop, (0, 1), (318, 318), (1, 99), (0, 126000), ckTop, ckTop, ckTop, ckTop, ckTop, ckTop, ckTop, ckTop]
noncomputable def dG97 : List ckG := [([(48, ckTop), (49, (0, 47)), (50, ckTop), (51, ckTop), (52, ckTop), (54, ckTop), (55, ckTop), (56, ckTop), (57, ckTop), (58, ckTop), (59, ckTop), (60, ckTop), (61, ckTop), (62, ckTop), (63, ckTop), (64, (0, 7)), (65, ckTop), (66, ckTop), (67, ckTop), (68, ckTop), (71, ckTop), (72, (1, 1)), (76, ckTop), (77, (0, 30)), (197, ckTop), (198, (0, 60)), (318, ckTop)], [(55, 23), (58, 24), (60, 25), (61, 26), (62, 27), (63, 1), (64, 29), (65, 30), (66, 31), (67, 32), (71, 2)], [])]
-- FarMachineModel.box
noncomputable def k48 : ckCtr := (63, ([(0, (1, 0)), (1, (0, 0)), (2, (0, 1)), (3, (0, 2))], [], dC80, dT96, dG82, [], [], [(1, 0, 0, 0, [])], 0, 0), [([], [(0, 28)], [(1, .inr (0, 22, 1))], [], [], [], dG97, [], [], [(1, 1, 0, 0, []), (1, 0, 0, 0, [])], 0, 0)], 2, 101, 0, 0)
noncomputable def k48_a : ckAs := []
noncomputable def k48_c : List (Nat × ckCtr) := [(3, k32), (18, k32)]
theorem k48_ok (l : Launch) : ckCtrOk l ckMT ckTW ckCL k48 := mt_63 (as := k48_a) (cs := k48_c) (gx := []) (f := 200000) rfl (ckHc (k32_ok l) (ckHc (k32_ok l) (fun _ h => absurd h List.not_mem_nil))) True.intro (by decide +kernel)
noncomputable def dT98 : List ckI := [(3, 3), (0, 7), (0, 0), (0, 1), (0, 1), (0, 8), (0, 40), (0, 6), (0, 8), (0, 10), (0, 126000), ckTop, ckTop, ckTop, ckTop, (0, 30), ckTop, ckTop, ckTop, (0, 1), ckTop, (0, 1), (318, 318), (1, 99), (0, 126000), ckTop, ckTop, ckTop, ckTop, ckTop, ckTop, ckTop, ckTop]
noncomputable def dG99 : List ckG := [([(48, ckTop), (49, (0, 47)), (50, ckTop), (51, ckTop), (52, ckTop), (54, ckTop), (55, ckTop), (56, ckTop), (57, ckTop), (58, ckTop), (59, ckTop), (60, ckTop), (61, ckTop), (62, ckTop), (63, ckTop), (64, (0, 7)), (65, ckTop), (66, ckTop), (67, ckTop), (68, ckTop), (71, ckTop), (72, (0, 0)), (76, ckTop), (77, (0, 30)), (197, ckTop), (198, (0, 60)), (318, ckTop)], [(55, 23), (58, 24), (60, 25), (61, 26), (62, 27), (63, 1), (64, 29), (65, 30), (66, 31), (67, 32), (71, 2)], [])]
-- FarMachineModel.box
noncomputable def k49 : ckCtr := (63, ([(0, (1, 0)), (1, (0, 0)), (2, (0, 1)), (3, (0, 2))], [], dC80, dT98, dG82, [], [], [(1, 0, 0, 0, [])], 0, 0), [([], [(0, 28)], [(1, .inr (0, 22, 1))], [], [], [], dG99, [], [], [(1, 1, 0, 0, []), (1, 0, 0, 0, [])], 0, 0)], 2, 101, 0, 0)
noncomputable def k49_a : ckAs := []
noncomputable def k49_c : List (Nat × ckCtr) := [(3, k32), (18, k32)]
theorem k49_ok (l : Launch) : ckCtrOk l ckMT ckTW ckCL k49 := mt_63 (as := k49_a) (cs := k49_c) (gx := []) (f := 200000) rfl (ckHc (k32_ok l) (ckHc (k32_ok l) (fun _ h => absurd h List.not_mem_nil))) True.intro (by decide +kernel)
noncomputable def dT100 : List ckI := [(4, 4), (0, 7), (1, 1), (0, 1), (0, 1), (0, 8), (0, 40), (0, 6), (0, 8), (0, 10), (0, 126000), ckTop, ckTop, ckTop, ckTop, (0, 30), ckTop, ckTop, ckTop, (0, 1), ckTop, (0, 1), (318, 318), (1, 99), (0, 126000), ckTop, ckTop, ckTop, ckTop, ckTop, ckTop, ckTop, ckTop]
noncomputable def dG101 : List ckG := [([(48, ckTop), (49, (0, 47)), (50, ckTop), (51, ckTop), (52, ckTop), (54, ckTop), (55, ckTop), (56, ckTop), (57, ckTop), (58, ckTop), (59, ckTop), (60, ckTop), (61, ckTop), (62, ckTop), (63, ckTop), (64, ckTop), (65, (0, 7)), (66, ckTop), (67, ckTop), (68, ckTop), (72, ckTop), (73, (1, 1)), (76, ckTop), (77, (0, 30)), (197, ckTop), (198, (0, 60)), (318, ckTop)], [(55, 23), (58, 24), (60, 25), (61, 26), (62, 27), (63, 28), (64, 1), (65, 30), (66, 31), (67, 32), (72, 2)], [])]
-- FarMachineModel.box
noncomputable def k50 : ckCtr := (63, ([(0, (1, 0)), (1, (0, 0)), (2, (0, 1)), (3, (0, 2))], [], dC80, dT100, dG82, [], [], [(1, 0, 0, 0, [])], 0, 0), [([], [(0, 29)], [(1, .inr (0, 22, 1))], [], [], [], dG101, [], [], [(1, 1, 0, 0, []), (1, 0, 0, 0, [])], 0, 0)], 2, 101, 0, 0)
noncomputable def k50_a : ckAs := []
noncomputable def k50_c : List (Nat × ckCtr) := [(3, k32), (18, k32)]
theorem k50_ok (l : Launch) : ckCtrOk l ckMT ckTW ckCL k50 := mt_63 (as := k50_a) (cs := k50_c) (gx := []) (f := 200000) rfl (ckHc (k32_ok l) (ckHc (k32_ok l) (fun _ h => absurd h List.not_mem_nil))) True.intro (by decide +kernel)
noncomputable def dT102 : List ckI := [(4, 4), (0, 7), (0, 0), (0, 1), (0, 1), (0, 8), (0, 40), (0, 6), (0, 8), (0, 10), (0, 126000), ckTop, ckTop, ckTop, ckTop, (0, 30), ckTop, ckTop, ckTop, (0, 1), ckTop, (0, 1), (318, 318), (1, 99), (0, 126000), ckTop, ckTop, ckTop, ckTop, ckTop, ckTop, ckTop, ckTop]
noncomputable def dG103 : List ckG := [([(48, ckTop), (49, (0, 47)), (50, ckTop), (51, ckTop), (52, ckTop), (54, ckTop), (55, ckTop), (56, ckTop), (57, ckTop), (58, ckTop), (59, ckTop), (60, ckTop), (61, ckTop), (62, ckTop), (63, ckTop), (64, ckTop), (65, (0, 7)), (66, ckTop), (67, ckTop), (68, ckTop), (72, ckTop), (73, (0, 0)), (76, ckTop), (77, (0, 30)), (197, ckTop), (198, (0, 60)), (318, ckTop)], [(55, 23), (58, 24), (60, 25), (61, 26), (62, 27), (63, 28), (64, 1), (65, 30), (66, 31), (67, 32), (72, 2)], [])]
-- FarMachineModel.box
noncomputable def k51 : ckCtr := (63, ([(0, (1, 0)), (1, (0, 0)), (2, (0, 1)), (3, (0, 2))], [], dC80, dT102, dG82, [], [], [(1, 0, 0, 0, [])], 0, 0), [([], [(0, 29)], [(1, .inr (0, 22, 1))], [], [], [], dG103, [], [], [(1, 1, 0, 0, []), (1, 0, 0, 0, [])], 0, 0)], 2, 101, 0, 0)
noncomputable def k51_a : ckAs := []
noncomputable def k51_c : List (Nat × ckCtr) := [(3, k32), (18, k32)]
theorem k51_ok (l : Launch) : ckCtrOk l ckMT ckTW ckCL k51 := mt_63 (as := k51_a) (cs := k51_c) (gx := []) (f := 200000) rfl (ckHc (k32_ok l) (ckHc (k32_ok l) (fun _ h => absurd h List.not_mem_nil))) True.intro (by decide +kernel)
noncomputable def dT104 : List ckI := [(5, 5), (0, 7), (1, 1), (0, 1), (0, 1), (0, 8), (0, 40), (0, 6), (0, 8), (0, 10), (0, 126000), ckTop, ckTop, ckTop, ckTop, (0, 30), ckTop, ckTop, ckTop, (0, 1), ckTop, (0, 1), (318, 318), (1, 99), (0, 126000), ckTop, ckTop, ckTop, ckTop, ckTop, ckTop, ckTop, ckTop]
noncomputable def dG105 : List ckG := [([(48, ckTop), (49, (0, 47)), (50, ckTop), (51, ckTop), (52, ckTop), (54, ckTop), (55, ckTop), (56, ckTop), (57, ckTop), (58, ckTop), (59, ckTop), (60, ckTop), (61, ckTop), (62, ckTop), (63, ckTop), (64, ckTop), (65, ckTop), (66, (0, 7)), (67, ckTop), (68, ckTop), (73, ckTop), (74, (1, 1)), (76, ckTop), (77, (0, 30)), (197, ckTop), (198, (0, 60)), (318, ckTop)], [(55, 23), (58, 24), (60, 25), (61, 26), (62, 27), (63, 28), (64, 29), (65, 1), (66, 31), (67, 32), (73, 2)], [])]
-- FarMachineModel.box
noncomputable def k52 : ckCtr := (63, ([(0, (1, 0)), (1, (0, 0)), (2, (0, 1)), (3, (0, 2))], [], dC80, dT104, dG82, [], [], [(1, 0, 0, 0, [])], 0, 0), [([], [(0, 30)], [(1, .inr (0, 22, 1))], [], [], [], dG105, [], [], [(1, 1, 0, 0, []), (1, 0, 0, 0, [])], 0, 0)], 2, 101, 0, 0)
noncomputable def k52_a : ckAs := []
noncomputable def k52_c : List (Nat × ckCtr) := [(3, k32), (18, k32)]
theorem k52_ok (l : Launch) : ckCtrOk l ckMT ckTW ckCL k52 := mt_63 (as := k52_a) (cs := k52_c) (gx := []) (f := 200000) rfl (ckHc (k32_ok l) (ckHc (k32_ok l) (fun _ h => absurd h List.not_mem_nil))) True.intro (by decide +kernel)
noncomputable def dT106 : List ckI := [(5, 5), (0, 7), (0, 0), (0, 1), (0, 1), (0, 8), (0, 40), (0, 6), (0, 8), (0, 10), (0, 126000), ckTop, ckTop, ckTop, ckTop, (0, 30), ckTop, ckTop, ckTop, (0, 1), ckTop, (0, 1), (318, 318), (1, 99), (0, 126000), ckTop, ckTop, ckTop, ckTop, ckTop, ckTop, ckTop, ckTop]
noncomputable def dG107 : List ckG := [([(48, ckTop), (49, (0, 47)), (50, ckTop), (51, ckTop), (52, ckTop), (54, ckTop), (55, ckTop), (56, ckTop), (57, ckTop), (58, ckTop), (59, ckTop), (60, ckTop), (61, ckTop), (62, ckTop), (63, ckTop), (64, ckTop), (65, ckTop), (66, (0, 7)), (67, ckTop), (68, ckTop), (73, ckTop), (74, (0, 0)), (76, ckTop), (77, (0, 30)), (197, ckTop), (198, (0, 60)), (318, ckTop)], [(55, 23), (58, 24), (60, 25), (61, 26), (62, 27), (63, 28), (64, 29), (65, 1), (66, 31), (67, 32), (73, 2)], [])]
-- FarMachineModel.box
noncomputable def k53 : ckCtr := (63, ([(0, (1, 0)), (1, (0, 0)), (2, (0, 1)), (3, (0, 2))], [], dC80, dT106, dG82, [], [], [(1, 0, 0, 0, [])], 0, 0), [([], [(0, 30)], [(1, .inr (0, 22, 1))], [], [], [], dG107, [], [], [(1, 1, 0, 0, []), (1, 0, 0, 0, [])], 0, 0)], 2, 101, 0, 0)
noncomputable def k53_a : ckAs := []
noncomputable def k53_c : List (Nat × ckCtr) := [(3, k32), (18, k32)]
theorem k53_ok (l : Launch) : ckCtrOk l ckMT ckTW ckCL k53 := mt_63 (as := k53_a) (cs := k53_c) (gx := []) (f := 200000) rfl (ckHc (k32_ok l) (ckHc (k32_ok l) (fun _ h => absurd h List.not_mem_nil))) True.intro (by decide +kernel)
noncomputable def dT108 : List ckI := [(6, 6), (0, 7), (1, 1), (0, 1), (0, 1), (0, 8), (0, 40), (0, 6), (0, 8), (0, 10), (0, 126000), ckTop, ckTop, ckTop, ckTop, (0, 30), ckTop, ckTop, ckTop, (0, 1), ckTop, (0, 1), (318, 318), (1, 99), (0, 126000), ckTop, ckTop, ckTop, ckTop, ckTop, ckTop, ckTop, ckTop]
noncomputable def dG109 : List ckG := [([(48, ckTop), (49, (0, 47)), (50, ckTop), (51, ckTop), (52, ckTop), (54, ckTop), (55, ckTop), (56, ckTop), (57, ckTop), (58, ckTop), (59, ckTop), (60, ckTop), (61, ckTop), (62, ckTop), (63, ckTop), (64, ckTop), (65, ckTop), (66, ckTop), (67, (0, 7)), (68, ckTop), (74, ckTop), (75, (1, 1)), (76, ckTop), (77, (0, 30)), (197, ckTop), (198, (0, 60)), (318, ckTop)], [(55, 23), (58, 24), (60, 25), (61, 26), (62, 27), (63, 28), (64, 29), (65, 30), (66, 1), (67, 32), (74, 2)], [])]
-- FarMachineModel.box
noncomputable def k54 : ckCtr := (63, ([(0, (1, 0)), (1, (0, 0)), (2, (0, 1)), (3, (0, 2))], [], dC80, dT108, dG82, [], [], [(1, 0, 0, 0, [])], 0, 0), [([], [(0, 31)], [(1, .inr (0, 22, 1))], [], [], [], dG109, [], [], [(1, 1, 0, 0, []), (1, 0, 0, 0, [])], 0, 0)], 2, 101, 0, 0)
noncomputable def k54_a : ckAs := []
noncomputable def k54_c : List (Nat × ckCtr) := [(3, k32), (18, k32)]
theorem k54_ok (l : Launch) : ckCtrOk l ckMT ckTW ckCL k54 := mt_63 (as := k54_a) (cs := k54_c) (gx := []) (f := 200000) rfl (ckHc (k32_ok l) (ckHc (k32_ok l) (fun _ h => absurd h List.not_mem_nil))) True.intro (by decide +kernel)
noncomputable def dT110 : List ckI := [(6, 6), (0, 7), (0, 0), (0, 1), (0, 1), (0, 8), (0, 40), (0, 6), (0, 8), (0, 10), (0, 126000), ckTop, ckTop, ckTop, ckTop, (0, 30), ckTop, ckTop, ckTop, (0, 1), ckTop, (0, 1), (318, 318), (1, 99), (0, 126000), ckTop, ckTop, ckTop, ckTop, ckTop, ckTop, ckTop, ckTop]
noncomputable def dG111 : List ckG := [([(48, ckTop), (49, (0, 47)), (50, ckTop), (51, ckTop), (52, ckTop), (54, ckTop), (55, ckTop), (56, ckTop), (57, ckTop), (58, ckTop), (59, ckTop), (60, ckTop), (61, ckTop), (62, ckTop), (63, ckTop), (64, ckTop), (65, ckTop), (66, ckTop), (67, (0, 7)), (68, ckTop), (74, ckTop), (75, (0, 0)), (76, ckTop), (77, (0, 30)), (197, ckTop), (198, (0, 60)), (318, ckTop)], [(55, 23), (58, 24), (60, 25), (61, 26), (62, 27), (63, 28), (64, 29), (65, 30), (66, 1), (67, 32), (74, 2)], [])]
-- FarMachineModel.box
noncomputable def k55 : ckCtr := (63, ([(0, (1, 0)), (1, (0, 0)), (2, (0, 1)), (3, (0, 2))], [], dC80, dT110, dG82, [], [], [(1, 0, 0, 0, [])], 0, 0), [([], [(0, 31)], [(1, .inr (0, 22, 1))], [], [], [], dG111, [], [], [(1, 1, 0, 0, []), (1, 0, 0, 0, [])], 0, 0)], 2, 101, 0, 0)
noncomputable def k55_a : ckAs := []
noncomputable def k55_c : List (Nat × ckCtr) := [(3, k32), (18, k32)]
theorem k55_ok (l : Launch) : ckCtrOk l ckMT ckTW ckCL k55 := mt_63 (as := k55_a) (cs := k55_c) (gx := []) (f := 200000) rfl (ckHc (k32_ok l) (ckHc (k32_ok l) (fun _ h => absurd h List.not_mem_nil))) True.intro (by decide +kernel)
noncomputable def dT112 : List ckI := [(7, 7), (0, 7), (1, 1), (0, 1), (0, 1), (0, 8), (0, 40), (0, 6), (0, 8), (0, 10), (0, 126000), ckTop, ckTop, ckTop, ckTop, (0, 30), ckTop, ckTop, ckTop, (0, 1), ckTop, (0, 1), (318, 318), (1, 99), (0, 126000), ckTop, ckTop, ckTop, ckTop, ckTop, ckTop, ckTop, ckTop]
noncomputable def dG113 : List ckG := [([(48, ckTop), (49, (0, 47)), (50, ckTop), (51, ckTop), (52, ckTop), (54, ckTop), (55, ckTop), (56, ckTop), (57, ckTop), (58, ckTop), (59, ckTop), (60, ckTop), (61, ckTop), (62, ckTop), (63, ckTop), (64, ckTop), (65, ckTop), (66, ckTop), (67, ckTop), (68, (0, 7)), (75, ckTop), (76, (1, 1)), (77, (0, 30)), (197, ckTop), (198, (0, 60)), (318, ckTop)], [(55, 23), (58, 24), (60, 25), (61, 26), (62, 27), (63, 28), (64, 29), (65, 30), (66, 31), (67, 1), (75, 2)], [])]
-- FarMachineModel.box
noncomputable def k56 : ckCtr := (63, ([(0, (1, 0)), (1, (0, 0)), (2, (0, 1)), (3, (0, 2))], [], dC80, dT112, dG82, [], [], [(1, 0, 0, 0, [])], 0, 0), [([], [(0, 32)], [(1, .inr (0, 22, 1))], [], [], [], dG113, [], [], [(1, 1, 0, 0, []), (1, 0, 0, 0, [])], 0, 0)], 2, 101, 0, 0)
noncomputable def k56_a : ckAs := []
noncomputable def k56_c : List (Nat × ckCtr) := [(3, k32), (18, k32)]
theorem k56_ok (l : Launch) : ckCtrOk l ckMT ckTW ckCL k56 := mt_63 (as := k56_a) (cs := k56_c) (gx := []) (f := 200000) rfl (ckHc (k32_ok l) (ckHc (k32_ok l) (fun _ h => absurd h List.not_mem_nil))) True.intro (by decide +kernel)
noncomputable def dT114 : List ckI := [(7, 7), (0, 7), (0, 0), (0, 1), (0, 1), (0, 8), (0, 40), (0, 6), (0, 8), (0, 10), (0, 126000), ckTop, ckTop, ckTop, ckTop, (0, 30), ckTop, ckTop, ckTop, (0, 1), ckTop, (0, 1), (318, 318), (1, 99), (0, 126000), ckTop, ckTop, ckTop, ckTop, ckTop, ckTop, ckTop, ckTop]
noncomputable def dG115 : List ckG := [([(48, ckTop), (49, (0, 47)), (50, ckTop), (51, ckTop), (52, ckTop), (54, ckTop), (55, ckTop), (56, ckTop), (57, ckTop), (58, ckTop), (59, ckTop), (60, ckTop), (61, ckTop), (62, ckTop), (63, ckTop), (64, ckTop), (65, ckTop), (66, ckTop), (67, ckTop), (68, (0, 7)), (75, ckTop), (76, (0, 0)), (77, (0, 30)), (197, ckTop), (198, (0, 60)), (318, ckTop)], [(55, 23), (58, 24), (60, 25), (61, 26), (62, 27), (63, 28), (64, 29), (65, 30), (66, 31), (67, 1), (75, 2)], [])]
-- FarMachineModel.box
noncomputable def k57 : ckCtr := (63, ([(0, (1, 0)), (1, (0, 0)), (2, (0, 1)), (3, (0, 2))], [], dC80, dT114, dG82, [], [], [(1, 0, 0, 0, [])], 0, 0), [([], [(0, 32)], [(1, .inr (0, 22, 1))], [], [], [], dG115, [], [], [(1, 1, 0, 0, []), (1, 0, 0, 0, [])], 0, 0)], 2, 101, 0, 0)
noncomputable def k57_a : ckAs := []
noncomputable def k57_c : List (Nat × ckCtr) := [(3, k32), (18, k32)]
theorem k57_ok (l : Launch) : ckCtrOk l ckMT ckTW ckCL k57 := mt_63 (as := k57_a) (cs := k57_c) (gx := []) (f := 200000) rfl (ckHc (k32_ok l) (ckHc (k32_ok l) (fun _ h => absurd h List.not_mem_nil))) True.intro (by decide +kernel)
noncomputable def dT116 : List ckI := [ckTop, ckTop, ckTop, ckTop, ckTop, ckTop, ckTop, ckTop, ckTop, ckTop, ckTop, ckTop, ckTop, ckTop, ckTop]
noncomputable def dP117 : List (Nat × ckC) := [(0, .inl (2, [(4, 10), (4, 11), (4, 12), (0, 2), (0, 15), (0, 16), (0, 17), (0, 18), (0, 19), (0, 20), (0, 21), (0, 22), (0, 23), (0, 24), (0, 13), (0, 14)]))]
noncomputable def dT118 : List ckI := [ckTop, ckTop, ckTop, ckTop, ckTop, ckTop, ckTop, ckTop, ckTop, ckTop]
-- FarMachine$Machine.tell
noncomputable def k58 : ckCtr := (130, ([(0, (1, 0)), (1, (0, 0)), (2, (0, 1))], [], dC54, dT116, [], [], [], [], 0, 0), [([], [], dP117, [], [], dT118, [], [], [], [], 0, 0)], 1, 80, 0, 0)
noncomputable def k58_a : ckAs := []
noncomputable def k58_c : List (Nat × ckCtr) := []
theorem k58_ok (l : Launch) : ckCtrOk l ckMT ckTW ckCL k58 := mt_130 (as := k58_a) (cs := k58_c) (gx := []) (f := 200000) rfl (fun _ h => absurd h List.not_mem_nil) True.intro (by decide +kernel)
noncomputable def dC119 : List ckC := [.inl (8, [(1, 1), (4, 10), (0, 2), (4, 11), (4, 12), (4, 13), (4, 14), (1, 2)]), .inl (7, [(1, 3), (4, 15), (0, 3), (4, 16), (4, 17), (4, 18), (4, 19), (4, 20), (4, 21), (4, 22)]), .inr (0, 4, 0), .inl (2, [(4, 23), (4, 24), (4, 25), (0, 5), (0, 6), (0, 7), (0, 8), (0, 9), (0, 10), (0, 11), (0, 12), (0, 13), (0, 14), (0, 15), (0, 16), (0, 17)])]
noncomputable def dT120 : List ckI := [ckTop, ckTop, (0, 1), (0, 1), (7, 7), ckTop, ckTop, ckTop, ckTop, ckTop, ckTop, ckTop, ckTop, ckTop, ckTop, ckTop, ckTop, ckTop]
noncomputable def dP121 : List (Nat × ckC) := [(2, .inr (0, 4, 1)), (3, .inl (2, [(4, 23), (4, 24), (4, 25), (0, 5), (0, 19), (0, 20), (0, 21), (0, 22), (0, 23), (0, 24), (0, 25), (0, 26), (0, 27), (0, 28), (0, 16), (0, 17)]))]
noncomputable def dT122 : List ckI := [(-6, 1), ckTop, ckTop, ckTop, ckTop, ckTop, ckTop, ckTop, ckTop, ckTop, ckTop]
noncomputable def dG123 : List ckG := [([(2, ckTop), (3, ckTop), (4, ckTop), (5, ckTop), (6, ckTop), (7, ckTop)], [], [])]
-- FarMachine.set
noncomputable def k59 : ckCtr := (4, ([(0, (1, 0)), (1, (0, 0)), (2, (0, 1))], [], dC119, dT120, [([(7, ckTop)], [], [])], [], [], [], 0, 0), [([], [(0, 18)], dP121, [], [], dT122, dG123, [], [], [], 0, 0)], 2, 102, 0, 0)
noncomputable def k59_a : ckAs := []
noncomputable def k59_c : List (Nat × ckCtr) := [(23, k28), (39, k15), (55, k16), (68, k58)]
theorem k59_ok (l : Launch) : ckCtrOk l ckMT ckTW ckCL k59 := mt_4 (as := k59_a) (cs := k59_c) (gx := []) (f := 200000) rfl (ckHc (k28_ok l) (ckHc (k15_ok l) (ckHc (k16_ok l) (ckHc (k58_ok l) (fun _ h => absurd h List.not_mem_nil))))) True.intro (by decide +kernel)
-- FarMachineModel.within
noncomputable def k60 : ckCtr := (46, ([(0, (0, 0)), (1, (0, 1)), (2, (0, 2))], [], [], [ckTop, (0, 0), (47, 47)], [], [], [], [], 0, 0), [([], [(0, 3)], [], [], [(0, (-2147483648, -1))], [(-4, -4)], [], [], [], [], 0, 0), ([], [(0, 3)], [], [], [(0, (48, 2147483647))], [(-6, -6)], [], [], [], [], 0, 0), ([], [(0, 1)], [], [], [(0, (0, 47))], [], [], [], [], [], 0, 0)], 1, 80, 0, 0)
noncomputable def k60_a : ckAs := []
noncomputable def k60_c : List (Nat × ckCtr) := []
theorem k60_ok (l : Launch) : ckCtrOk l ckMT ckTW ckCL k60 := mt_46 (as := k60_a) (cs := k60_c) (gx := []) (f := 200000) rfl (fun _ h => absurd h List.not_mem_nil) True.intro (by decide +kernel)
-- FarMachineModel.within
noncomputable def k61 : ckCtr := (46, ([(0, (0, 0)), (1, (0, 1)), (2, (0, 2))], [], [], [ckTop, (-128, -128), (127, 127)], [], [], [], [], 0, 0), [([], [(0, 3)], [], [], [(0, (-2147483648, -129))], [(-4, -4)], [], [], [], [], 0, 0), ([], [(0, 3)], [], [], [(0, (128, 2147483647))], [(-6, -6)], [], [], [], [], 0, 0), ([], [(0, 3)], [], [], [(0, (-128, 127))], [(0, 0)], [], [], [], [], 0, 0)], 1, 80, 0, 0)
noncomputable def k61_a : ckAs := []
noncomputable def k61_c : List (Nat × ckCtr) := []
theorem k61_ok (l : Launch) : ckCtrOk l ckMT ckTW ckCL k61 := mt_46 (as := k61_a) (cs := k61_c) (gx := []) (f := 200000) rfl (fun _ h => absurd h List.not_mem_nil) True.intro (by decide +kernel)
-- FarMachineModel.within
noncomputable def k62 : ckCtr := (46, ([(0, (0, 0)), (1, (0, 1)), (2, (0, 2))], [], [], [ckTop, (0, 0), (99, 99)], [], [], [], [], 0, 0), [([], [(0, 3)], [], [], [(0, (-2147483648, -1))], [(-4, -4)], [], [], [], [], 0, 0), ([], [(0, 3)], [], [], [(0, (100, 2147483647))], [(-6, -6)], [], [], [], [], 0, 0), ([], [(0, 1)], [], [], [(0, (0, 99))], [], [], [], [], [], 0, 0)], 1, 80, 0, 0)
noncomputable def k62_a : ckAs := []
noncomputable def k62_c : List (Nat × ckCtr) := []
theorem k62_ok (l : Launch) : ckCtrOk l ckMT ckTW ckCL k62 := mt_46 (as := k62_a) (cs := k62_c) (gx := []) (f := 200000) rfl (fun _ h => absurd h List.not_mem_nil) True.intro (by decide +kernel)
-- FarMachineModel.within
noncomputable def k63 : ckCtr := (46, ([(0, (0, 0)), (1, (0, 1)), (2, (0, 2))], [], [], [ckTop, (-20, -20), (20, 20)], [], [], [], [], 0, 0), [([], [(0, 3)], [], [], [(0, (-2147483648, -21))], [(-4, -4)], [], [], [], [], 0, 0), ([], [(0, 3)], [], [], [(0, (21, 2147483647))], [(-6, -6)], [], [], [], [], 0, 0), ([], [(0, 3)], [], [], [(0, (-20, 20))], [(0, 0)], [], [], [], [], 0, 0)], 1, 80, 0, 0)
noncomputable def k63_a : ckAs := []
noncomputable def k63_c : List (Nat × ckCtr) := []
theorem k63_ok (l : Launch) : ckCtrOk l ckMT ckTW ckCL k63 := mt_46 (as := k63_a) (cs := k63_c) (gx := []) (f := 200000) rfl (fun _ h => absurd h List.not_mem_nil) True.intro (by decide +kernel)
-- FarMachineModel.within
noncomputable def k64 : ckCtr := (46, ([(0, (0, 0)), (1, (0, 1)), (2, (0, 2))], [], [], [ckTop, (0, 0), (31, 31)], [], [], [], [], 0, 0), [([], [(0, 3)], [], [], [(0, (-2147483648, -1))], [(-4, -4)], [], [], [], [], 0, 0), ([], [(0, 3)], [], [], [(0, (32, 2147483647))], [(-6, -6)], [], [], [], [], 0, 0), ([], [(0, 1)], [], [], [(0, (0, 31))], [], [], [], [], [], 0, 0)], 1, 80, 0, 0)
noncomputable def k64_a : ckAs := []
noncomputable def k64_c : List (Nat × ckCtr) := []
theorem k64_ok (l : Launch) : ckCtrOk l ckMT ckTW ckCL k64 := mt_46 (as := k64_a) (cs := k64_c) (gx := []) (f := 200000) rfl (fun _ h => absurd h List.not_mem_nil) True.intro (by decide +kernel)
-- FarMachineModel.within
noncomputable def k65 : ckCtr := (46, ([(0, (0, 0)), (1, (0, 1)), (2, (0, 2))], [], [], [ckTop, (1, 1), (99, 99)], [], [], [], [], 0, 0), [([], [(0, 3)], [], [], [(0, (-2147483648, 0))], [(-4, -4)], [], [], [], [], 0, 0), ([], [(0, 3)], [], [], [(0, (100, 2147483647))], [(-6, -6)], [], [], [], [], 0, 0), ([], [(0, 3)], [], [], [(0, (1, 99))], [(0, 0)], [], [], [], [], 0, 0)], 1, 80, 0, 0)
noncomputable def k65_a : ckAs := []
noncomputable def k65_c : List (Nat × ckCtr) := []
theorem k65_ok (l : Launch) : ckCtrOk l ckMT ckTW ckCL k65 := mt_46 (as := k65_a) (cs := k65_c) (gx := []) (f := 200000) rfl (fun _ h => absurd h List.not_mem_nil) True.intro (by decide +kernel)
-- FarMachineModel.within
noncomputable def k66 : ckCtr := (46, ([(0, (0, 0)), (1, (0, 1)), (2, (0, 2))], [], [], [ckTop, (1, 1), (999, 999)], [], [], [], [], 0, 0), [([], [(0, 3)], [], [], [(0, (-2147483648, 0))], [(-4, -4)], [], [], [], [], 0, 0), ([], [(0, 3)], [], [], [(0, (1000, 2147483647))], [(-6, -6)], [], [], [], [], 0, 0), ([], [(0, 3)], [], [], [(0, (1, 999))], [(0, 0)], [], [], [], [], 0, 0)], 1, 80, 0, 0)
noncomputable def k66_a : ckAs := []
noncomputable def k66_c : List (Nat × ckCtr) := []
theorem k66_ok (l : Launch) : ckCtrOk l ckMT ckTW ckCL k66 := mt_46 (as := k66_a) (cs := k66_c) (gx := []) (f := 200000) rfl (fun _ h => absurd h List.not_mem_nil) True.intro (by decide +kernel)
-- FarMachineModel.within
noncomputable def k67 : ckCtr := (46, ([(0, (0, 0)), (1, (0, 1)), (2, (0, 2))], [], [], [ckTop, (0, 0), (20, 20)], [], [], [], [], 0, 0), [([], [(0, 3)], [], [], [(0, (-2147483648, -1))], [(-4, -4)], [], [], [], [], 0, 0), ([], [(0, 3)], [], [], [(0, (21, 2147483647))], [(-6, -6)], [], [], [], [], 0, 0), ([], [(0, 1)], [], [], [(0, (0, 20))], [], [], [], [], [], 0, 0)], 1, 80, 0, 0)
noncomputable def k67_a : ckAs := []
noncomputable def k67_c : List (Nat × ckCtr) := []
theorem k67_ok (l : Launch) : ckCtrOk l ckMT ckTW ckCL k67 := mt_46 (as := k67_a) (cs := k67_c) (gx := []) (f := 200000) rfl (fun _ h => absurd h List.not_mem_nil) True.intro (by decide +kernel)
noncomputable def dG124 : List ckG := [([(2, ckTop), (3, ckTop), (4, ckTop), (5, ckTop), (6, ckTop), (7, ckTop)], [], []), ([(48, ckTop), (49, (0, 47)), (50, ckTop), (51, ckTop), (52, ckTop), (53, ckTop), (54, ckTop), (55, ckTop), (56, ckTop), (57, ckTop), (58, ckTop), (59, ckTop), (60, ckTop), (61, ckTop), (62, ckTop), (63, ckTop), (64, ckTop), (65, ckTop), (66, ckTop), (67, ckTop), (68, ckTop), (76, ckTop), (77, (0, 30)), (197, ckTop), (198, (0, 60)), (318, ckTop)], [(55, 34), (58, 24), (60, 25), (61, 26), (62, 27), (63, 28), (64, 29), (65, 30), (66, 31), (67, 32)], [])]
-- FarMachineModel.set
noncomputable def k68 : ckCtr := (64, ([(0, (1, 0)), (1, (0, 0)), (2, (0, 1))], [], dC45, dT46, dG47, [], [], [(1, 1, 0, 0, [])], 0, 0), [([], [(0, 33)], [(1, .inr (0, 21, 2)), (2, .inr (0, 22, 3))], [], [], [(-6, 1), (1, 99)], dG124, [], [], [(1, 1, 0, 0, []), (1, 3, 0, 0, [])], 0, 0)], 2, 102, 0, 0)
noncomputable def k68_a : ckAs := []
noncomputable def k68_c : List (Nat × ckCtr) := [(60, k60), (72, k61), (83, k62), (95, k63), (106, k64), (117, k65), (129, k66), (140, k67), (156, k33), (156, k23), (156, k24)]
theorem k68_ok (l : Launch) : ckCtrOk l ckMT ckTW ckCL k68 := mt_64 (as := k68_a) (cs := k68_c) (gx := []) (f := 200000) rfl (ckHc (k60_ok l) (ckHc (k61_ok l) (ckHc (k62_ok l) (ckHc (k63_ok l) (ckHc (k64_ok l) (ckHc (k65_ok l) (ckHc (k66_ok l) (ckHc (k67_ok l) (ckHc (k33_ok l) (ckHc (k23_ok l) (ckHc (k24_ok l) (fun _ h => absurd h List.not_mem_nil)))))))))))) True.intro (by decide +kernel)
noncomputable def dC125 : List ckC := [.inl (2, [(4, 10), (1, 1), (4, 11), (0, 1), (0, 2), (0, 3), (0, 4), (0, 5), (0, 6), (0, 7), (0, 8), (0, 9), (0, 10), (0, 11), (0, 12), (0, 13)]), .inr (0, 14, 0)]
noncomputable def dT126 : List ckI := [ckTop, ckTop, ckTop, ckTop, ckTop, ckTop, ckTop, ckTop, ckTop, ckTop, ckTop, ckTop, ckTop, ckTop, (8, 8)]
-- FarMachine$Machine.sumOf
noncomputable def k69 : ckCtr := (135, ([(0, (1, 0)), (1, (4, 0)), (2, (0, 0))], [], dC125, dT126, [([(8, ckTop)], [], [])], [], [], [], 0, 0), [([], [(0, 15)], [], [], [], [ckTop], [], [], [], [], 0, 0)], 1, 80, 0, 0)
noncomputable def k69_a : ckAs := [(5, [(297720, [(1, 0, 1, ([(0, (1, 0)), (1, (4, 0)), (2, (0, 0)), (3, (0, 17)), (4, (0, 18))], [], [], [], [], [ckTop, (0, 8)], [], [], [], [], 0, 0))])])]
noncomputable def k69_c : List (Nat × ckCtr) := []
theorem k69_ok (l : Launch) : ckCtrOk l ckMT ckTW ckCL k69 := mt_135 (as := k69_a) (cs := k69_c) (gx := []) (f := 200000) rfl (fun _ h => absurd h List.not_mem_nil) True.intro (by decide +kernel)
noncomputable def dC127 : List ckC := [.inl (2, [(4, 10), (1, 1), (4, 11), (0, 0), (0, 1), (0, 2), (0, 3), (0, 4), (0, 5), (0, 6), (0, 7), (0, 8), (0, 9), (0, 10), (0, 11), (0, 12)]), .inr (0, 13, 0)]
noncomputable def dT128 : List ckI := [ckTop, ckTop, ckTop, ckTop, ckTop, ckTop, ckTop, ckTop, ckTop, ckTop, ckTop, ckTop, ckTop, (8, 8)]
-- FarMachine$Machine.sumOn
noncomputable def k70 : ckCtr := (134, ([(0, (1, 0)), (1, (4, 0))], [], dC127, dT128, [([(8, ckTop)], [], [])], [], [], [], 0, 0), [([], [(0, 14)], [], [], [], [ckTop], [], [], [], [], 0, 0)], 2, 105, 0, 0)
noncomputable def k70_a : ckAs := []
noncomputable def k70_c : List (Nat × ckCtr) := [(6, k69)]
theorem k70_ok (l : Launch) : ckCtrOk l ckMT ckTW ckCL k70 := mt_134 (as := k70_a) (cs := k70_c) (gx := []) (f := 200000) rfl (ckHc (k69_ok l) (fun _ h => absurd h List.not_mem_nil)) True.intro (by decide +kernel)
-- FarMachine.refuseFar
noncomputable def k71 : ckCtr := (35, ([(0, (1, 0)), (1, (0, 0))], [], dC33, [(-2, -2), (0, 1), (7, 7)], [([(7, ckTop)], [], [])], [], [], [], 0, 0), [([], [(0, 3)], [(1, .inr (0, 2, 1))], [], [], [(1002, 1002), ckTop], [([(2, ckTop), (3, ckTop), (7, ckTop)], [(2, 4)], [])], [], [], [], 0, 0)], 2, 101, 0, 0)
noncomputable def k71_a : ckAs := []
noncomputable def k71_c : List (Nat × ckCtr) := [(5, k28)]
theorem k71_ok (l : Launch) : ckCtrOk l ckMT ckTW ckCL k71 := mt_35 (as := k71_a) (cs := k71_c) (gx := []) (f := 200000) rfl (ckHc (k28_ok l) (fun _ h => absurd h List.not_mem_nil)) True.intro (by decide +kernel)
noncomputable def dC129 : List ckC := [.inl (8, [(1, 1), (4, 10), (0, 1), (4, 11), (4, 12), (4, 13), (4, 14), (1, 2)]), .inl (7, [(1, 3), (4, 15), (0, 2), (4, 16), (4, 17), (4, 18), (4, 19), (4, 20), (4, 21), (4, 22)]), .inr (0, 3, 0), .inl (2, [(4, 23), (1, 4), (4, 24), (0, 4), (0, 5), (0, 6), (0, 7), (0, 8), (0, 9), (0, 10), (0, 11), (0, 12), (0, 13), (0, 14), (0, 15), (0, 16)]), .inr (0, 17, 1)]
noncomputable def dT130 : List ckI := [ckTop, (0, 1), (0, 1), (7, 7), ckTop, ckTop, ckTop, ckTop, ckTop, ckTop, ckTop, ckTop, ckTop, ckTop, ckTop, ckTop, ckTop, (8, 8), ckTop, ckTop, ckTop, ckTop, ckTop, ckTop, ckTop, ckTop]
noncomputable def dG131 : List ckG := [([(7, ckTop)], [], []), ([(1, ckTop), (2, ckTop), (3, ckTop), (4, ckTop), (5, ckTop), (6, ckTop), (7, ckTop), (8, ckTop)], [(0, 18), (1, 19), (2, 20), (3, 21), (4, 22), (5, 23), (6, 24), (7, 25)], [])]
-- FarMachine.state
noncomputable def k72 : ckCtr := (5, ([(0, (1, 0)), (1, (0, 0))], [], dC129, dT130, dG131, [], [], [], 0, 0), [([], [(0, 26)], [(2, .inr (0, 3, 2))], [], [], [ckTop], [([(2, ckTop), (3, ckTop), (7, ckTop)], [], [])], [], [], [], 0, 0)], 3, 126, 0, 0)
noncomputable def k72_a : ckAs := []
noncomputable def k72_c : List (Nat × ckCtr) := [(103, k70), (120, k71)]
theorem k72_ok (l : Launch) : ckCtrOk l ckMT ckTW ckCL k72 := mt_5 (as := k72_a) (cs := k72_c) (gx := []) (f := 200000) rfl (ckHc (k70_ok l) (ckHc (k71_ok l) (fun _ h => absurd h List.not_mem_nil))) True.intro (by decide +kernel)
-- FarMachineModel.isIn
noncomputable def k73 : ckCtr := (45, ([(0, (0, 0)), (1, (0, 1))], [], [], [ckTop, (10, 10)], [], [], [], [], 0, 0), [([], [(0, 2)], [], [], [(0, (0, 9))], [(1, 1)], [], [], [], [], 0, 0), ([], [(0, 2)], [], [], [(0, (10, 2147483647))], [(0, 0)], [], [], [], [], 0, 0), ([], [(0, 2)], [], [], [(0, (-2147483648, -1))], [(0, 0)], [], [], [], [], 0, 0)], 1, 80, 0, 0)
noncomputable def k73_a : ckAs := []
noncomputable def k73_c : List (Nat × ckCtr) := []
theorem k73_ok (l : Launch) : ckCtrOk l ckMT ckTW ckCL k73 := mt_45 (as := k73_a) (cs := k73_c) (gx := []) (f := 200000) rfl (fun _ h => absurd h List.not_mem_nil) True.intro (by decide +kernel)
-- FarMachineModel.powerOf
noncomputable def k74 : ckCtr := (49, ([(0, (0, 0))], [], [], [ckTop], [], [], [], [], 0, 0), [([], [(0, 1)], [], [], [], [(0, 5)], [], [], [], [], 0, 0)], 1, 80, 0, 0)
noncomputable def k74_a : ckAs := []
noncomputable def k74_c : List (Nat × ckCtr) := []
theorem k74_ok (l : Launch) : ckCtrOk l ckMT ckTW ckCL k74 := mt_49 (as := k74_a) (cs := k74_c) (gx := []) (f := 200000) rfl (fun _ h => absurd h List.not_mem_nil) True.intro (by decide +kernel)
noncomputable def dT132 : List ckI := [(318, 318), (1, 99), (0, 128000), ckTop, ckTop, ckTop, ckTop, ckTop, ckTop, ckTop, ckTop]
noncomputable def dG133 : List ckG := [([(48, ckTop), (49, (0, 47)), (55, ckTop), (56, ckTop), (58, ckTop), (59, ckTop), (60, ckTop), (61, ckTop), (62, ckTop), (63, ckTop), (64, ckTop), (65, ckTop), (66, ckTop), (67, ckTop), (68, ckTop), (76, ckTop), (77, (0, 30)), (197, ckTop), (198, (0, 60)), (318, ckTop)], [(55, 1), (58, 2), (60, 3), (61, 4), (62, 5), (63, 6), (64, 7), (65, 8), (66, 9), (67, 10)], [])]
-- FarMachineModel.power
noncomputable def k75 : ckCtr := (50, ([(0, (1, 0))], [], [.inr (0, 0, 0)], dT132, dG133, [], [], [(1, 0, 0, 0, [])], 0, 0), [([], [(0, 11)], [], [], [], [ckTop], [], [], [], [(1, 0, 0, 0, [])], 0, 0)], 2, 100, 0, 0)
noncomputable def k75_a : ckAs := [(4, [(88009, [(1, 0, 1, ([(0, (1, 0)), (1, (0, 13)), (2, (0, 14))], [], [], [], [], [ckTop, (0, 8)], [], [], [], [(1, 0, 0, 0, [])], 0, 0))])])]
noncomputable def k75_c : List (Nat × ckCtr) := [(23, k74)]
theorem k75_ok (l : Launch) : ckCtrOk l ckMT ckTW ckCL k75 := mt_50 (as := k75_a) (cs := k75_c) (gx := []) (f := 200000) rfl (ckHc (k74_ok l) (fun _ h => absurd h List.not_mem_nil)) True.intro (by decide +kernel)
-- FarMachineModel.ons
noncomputable def k76 : ckCtr := (52, ([(0, (1, 0))], [], [.inr (0, 0, 0)], dT132, dG133, [], [], [(1, 0, 0, 0, [])], 0, 0), [([], [(0, 11)], [], [], [], [ckTop], [], [], [], [(1, 0, 0, 0, [])], 0, 0)], 1, 80, 0, 0)
noncomputable def k76_a : ckAs := [(4, [(88009, [(1, 0, 1, ([(0, (1, 0)), (1, (0, 13)), (2, (0, 14))], [], [], [], [], [ckTop, (0, 8)], [], [], [], [(1, 0, 0, 0, [])], 0, 0))])])]
noncomputable def k76_c : List (Nat × ckCtr) := []
theorem k76_ok (l : Launch) : ckCtrOk l ckMT ckTW ckCL k76 := mt_52 (as := k76_a) (cs := k76_c) (gx := []) (f := 200000) rfl (fun _ h => absurd h List.not_mem_nil) True.intro (by decide +kernel)
-- FarMachineModel.state
noncomputable def k77 : ckCtr := (65, ([(0, (1, 0)), (1, (0, 0))], [], dC51, dT52, dG53, [], [], [(1, 1, 0, 0, [])], 0, 0), [([], [(0, 32)], [(1, .inr (0, 20, 2))], [], [], [ckTop], [([(2, ckTop), (3, ckTop), (7, ckTop)], [], [])], [], [], [(1, 1, 0, 0, [])], 0, 0)], 3, 122, 0, 0)
noncomputable def k77_a : ckAs := []
noncomputable def k77_c : List (Nat × ckCtr) := [(3, k73), (15, k33), (64, k75), (80, k76)]
theorem k77_ok (l : Launch) : ckCtrOk l ckMT ckTW ckCL k77 := mt_65 (as := k77_a) (cs := k77_c) (gx := []) (f := 200000) rfl (ckHc (k73_ok l) (ckHc (k33_ok l) (ckHc (k75_ok l) (ckHc (k76_ok l) (fun _ h => absurd h List.not_mem_nil))))) True.intro (by decide +kernel)
-- FarMachine.refuseFar
noncomputable def k78 : ckCtr := (35, ([(0, (1, 0)), (1, (0, 0))], [], dC33, [(-4, -4), (0, 1), (7, 7)], [([(7, ckTop)], [], [])], [], [], [], 0, 0), [([], [(0, 3)], [(1, .inr (0, 2, 1))], [], [], [(1004, 1004), ckTop], [([(4, ckTop), (5, ckTop), (7, ckTop)], [(4, 4)], [])], [], [], [], 0, 0)], 2, 101, 0, 0)
noncomputable def k78_a : ckAs := []
noncomputable def k78_c : List (Nat × ckCtr) := [(5, k15)]
theorem k78_ok (l : Launch) : ckCtrOk l ckMT ckTW ckCL k78 := mt_35 (as := k78_a) (cs := k78_c) (gx := []) (f := 200000) rfl (ckHc (k15_ok l) (fun _ h => absurd h List.not_mem_nil)) True.intro (by decide +kernel)
-- FarMachine.refuseFar
noncomputable def k79 : ckCtr := (35, ([(0, (1, 0)), (1, (0, 0))], [], dC33, [(-6, -6), (0, 1), (7, 7)], [([(7, ckTop)], [], [])], [], [], [], 0, 0), [([], [(0, 3)], [(1, .inr (0, 2, 1))], [], [], [(1006, 1006), ckTop], [([(6, ckTop), (7, ckTop)], [(6, 4)], [])], [], [], [], 0, 0)], 2, 101, 0, 0)
noncomputable def k79_a : ckAs := []
noncomputable def k79_c : List (Nat × ckCtr) := [(5, k16)]
theorem k79_ok (l : Launch) : ckCtrOk l ckMT ckTW ckCL k79 := mt_35 (as := k79_a) (cs := k79_c) (gx := []) (f := 200000) rfl (ckHc (k16_ok l) (fun _ h => absurd h List.not_mem_nil)) True.intro (by decide +kernel)
noncomputable def dC134 : List ckC := [.inl (2, [(4, 10), (4, 11), (4, 12), (0, 1), (0, 2), (0, 3), (0, 4), (0, 5), (0, 6), (0, 7), (0, 8), (0, 9), (0, 10), (0, 11), (0, 12), (0, 13)])]
noncomputable def dT135 : List ckI := [ckTop, ckTop, ckTop, ckTop, ckTop, ckTop, ckTop, ckTop, ckTop, ckTop, ckTop, ckTop, ckTop, ckTop]
-- FarMachine$Machine.isOn
noncomputable def k80 : ckCtr := (131, ([(0, (1, 0)), (1, (0, 0))], [], dC134, dT135, [], [], [], [], 0, 0), [([], [(0, 14)], [], [], [], [(1, 1)], [], [], [], [], 0, 0), ([], [(0, 14)], [], [], [], [(0, 0)], [], [], [], [], 0, 0)], 1, 80, 0, 0)
noncomputable def k80_a : ckAs := []
noncomputable def k80_c : List (Nat × ckCtr) := []
theorem k80_ok (l : Launch) : ckCtrOk l ckMT ckTW ckCL k80 := mt_131 (as := k80_a) (cs := k80_c) (gx := []) (f := 200000) rfl (fun _ h => absurd h List.not_mem_nil) True.intro (by decide +kernel)
-- FarMachine$Machine.feelHeat
noncomputable def k81 : ckCtr := (142, ([(0, (1, 0))], [], dC127, dT128, [([(8, ckTop)], [], [])], [], [], [], 0, 0), [([], [(0, 14)], [], [], [], [ckTop], [], [], [], [], 0, 0)], 2, 101, 0, 0)
noncomputable def k81_a : ckAs := [(2, [(798748, [(1, 0, 0, ([(0, (1, 0)), (1, (0, 15))], [], [], [], [], [(0, 8)], [], [], [], [], 0, 0))])])]
noncomputable def k81_c : List (Nat × ckCtr) := [(13, k80), (36, k80)]
theorem k81_ok (l : Launch) : ckCtrOk l ckMT ckTW ckCL k81 := mt_142 (as := k81_a) (cs := k81_c) (gx := []) (f := 200000) rfl (ckHc (k80_ok l) (ckHc (k80_ok l) (fun _ h => absurd h List.not_mem_nil))) True.intro (by decide +kernel)
-- java/lang/Integer.bitCount
noncomputable def k82 : ckCtr := (193, ([(0, (0, 0))], [], [], [ckTop], [], [], [], [], 0, 0), [([], [(0, 1)], [], [], [], [(0, 63)], [], [], [], [], 0, 0)], 1, 80, 0, 0)
noncomputable def k82_a : ckAs := []
noncomputable def k82_c : List (Nat × ckCtr) := []
theorem k82_ok (l : Launch) : ckCtrOk l ckMT ckTW ckCL k82 := mt_193 (as := k82_a) (cs := k82_c) (gx := []) (f := 200000) rfl (fun _ h => absurd h List.not_mem_nil) True.intro (by decide +kernel)
noncomputable def dC136 : List ckC := [.inl (2, [(1, 1), (1, 2), (4, 10), (0, 1), (0, 2), (0, 3), (0, 4), (0, 5), (0, 6), (0, 7), (0, 8), (0, 9), (0, 10), (0, 11), (0, 12), (0, 13)]), .inr (0, 14, 0), .inr (0, 15, 1)]
noncomputable def dT137 : List ckI := [ckTop, ckTop, ckTop, ckTop, ckTop, ckTop, ckTop, ckTop, ckTop, ckTop, ckTop, ckTop, ckTop, ckTop, (48, 48), (8, 8)]
-- FarMachine$Machine.feel
noncomputable def k83 : ckCtr := (141, ([(0, (1, 0)), (1, (0, 0))], [], dC136, dT137, [([(48, ckTop)], [], []), ([(8, ckTop)], [], [])], [], [], [], 0, 0), [([], [(0, 16)], [], [], [], [ckTop], [], [], [], [], 0, 0)], 3, 126, 0, 0)
noncomputable def k83_a : ckAs := []
noncomputable def k83_c : List (Nat × ckCtr) := [(49, k81), (75, k82), (93, k70), (102, k17)]
theorem k83_ok (l : Launch) : ckCtrOk l ckMT ckTW ckCL k83 := mt_141 (as := k83_a) (cs := k83_c) (gx := []) (f := 200000) rfl (ckHc (k81_ok l) (ckHc (k82_ok l) (ckHc (k70_ok l) (ckHc (k17_ok l) (fun _ h => absurd h List.not_mem_nil))))) True.intro (by decide +kernel)
noncomputable def dC138 : List ckC := [.inl (8, [(1, 1), (4, 10), (0, 1), (4, 11), (4, 12), (4, 13), (4, 14), (1, 2)]), .inl (7, [(1, 3), (4, 15), (0, 2), (4, 16), (4, 17), (4, 18), (4, 19), (4, 20), (4, 21), (4, 22)]), .inr (0, 3, 0), .inl (2, [(1, 4), (1, 5), (4, 23), (0, 4), (0, 5), (0, 6), (0, 7), (0, 8), (0, 9), (0, 10), (0, 11), (0, 12), (0, 13), (0, 14), (0, 15), (0, 16)]), .inr (0, 17, 1), .inr (0, 18, 2)]
noncomputable def dT139 : List ckI := [ckTop, (0, 1), (0, 1), (7, 7), ckTop, ckTop, ckTop, ckTop, ckTop, ckTop, ckTop, ckTop, ckTop, ckTop, ckTop, ckTop, ckTop, (48, 48), (8, 8), ckTop, ckTop, ckTop, ckTop, ckTop, ckTop, ckTop, ckTop]
noncomputable def dG140 : List ckG := [([(7, ckTop)], [], []), ([(48, ckTop)], [], []), ([(1, ckTop), (2, ckTop), (3, ckTop), (4, ckTop), (5, ckTop), (6, ckTop), (7, ckTop), (8, ckTop)], [(0, 19), (1, 20), (2, 21), (3, 22), (4, 23), (5, 24), (6, 25), (7, 26)], [])]
noncomputable def dG141 : List ckG := [([(4, ckTop), (5, ckTop), (6, ckTop), (7, ckTop)], [], [])]
-- FarMachine.felt
noncomputable def k84 : ckCtr := (6, ([(0, (1, 0)), (1, (0, 0))], [], dC138, dT139, dG140, [], [], [], 0, 0), [([], [(0, 27)], [(2, .inr (0, 3, 3))], [], [], [ckTop], dG141, [], [], [], 0, 0)], 4, 147, 0, 0)
noncomputable def k84_a : ckAs := []
noncomputable def k84_c : List (Nat × ckCtr) := [(7, k78), (20, k79), (34, k83)]
theorem k84_ok (l : Launch) : ckCtrOk l ckMT ckTW ckCL k84 := mt_6 (as := k84_a) (cs := k84_c) (gx := []) (f := 200000) rfl (ckHc (k78_ok l) (ckHc (k79_ok l) (ckHc (k83_ok l) (fun _ h => absurd h List.not_mem_nil)))) True.intro (by decide +kernel)
-- FarMachineModel.warmth
noncomputable def k85 : ckCtr := (54, ([(0, (1, 0))], [], [.inr (0, 0, 0)], dT132, dG133, [], [], [(1, 0, 0, 0, [])], 0, 0), [([], [(0, 11)], [], [], [], [ckTop], [], [], [], [(1, 0, 0, 0, [])], 0, 0), ([], [(0, 11)], [], [], [], [(0, 0)], [], [], [], [(1, 0, 0, 0, [])], 0, 0)], 1, 80, 0, 0)
noncomputable def k85_a : ckAs := [(2, [(718401, [(1, 0, 0, ([(0, (1, 0)), (1, (0, 12))], [], [], [], [], [(0, 8)], [], [], [], [(1, 0, 0, 0, [])], 0, 0))])])]
noncomputable def k85_c : List (Nat × ckCtr) := []
theorem k85_ok (l : Launch) : ckCtrOk l ckMT ckTW ckCL k85 := mt_54 (as := k85_a) (cs := k85_c) (gx := []) (f := 200000) rfl (fun _ h => absurd h List.not_mem_nil) True.intro (by decide +kernel)
-- FarMachineModel.bits
noncomputable def k86 : ckCtr := (48, ([(0, (0, 0))], [], [], [ckTop], [], [], [], [], 0, 0), [([], [(0, 1)], [], [], [], [ckTop], [], [], [], [], 0, 0)], 1, 80, 0, 0)
noncomputable def k86_a : ckAs := [(4, [(404360, [(2, 0, 1, ([(0, (0, 0)), (1, (0, 2)), (2, (0, 3))], [], [], [], [], [ckTop, ckTop], [], [], [(3, 0, 0)], [], 0, 0))])])]
noncomputable def k86_c : List (Nat × ckCtr) := []
theorem k86_ok (l : Launch) : ckCtrOk l ckMT ckTW ckCL k86 := mt_48 (as := k86_a) (cs := k86_c) (gx := []) (f := 200000) rfl (fun _ h => absurd h List.not_mem_nil) True.intro (by decide +kernel)
noncomputable def dT142 : List ckI := [(0, 31), (318, 318), (1, 99), (0, 128000), ckTop, ckTop, ckTop, ckTop, ckTop, ckTop, ckTop, ckTop]
noncomputable def dG143 : List ckG := [([(48, ckTop), (49, (0, 47)), (55, ckTop), (56, ckTop), (58, ckTop), (59, ckTop), (60, ckTop), (61, ckTop), (62, ckTop), (63, ckTop), (64, ckTop), (65, ckTop), (66, ckTop), (67, ckTop), (68, ckTop), (76, ckTop), (77, (0, 30)), (197, ckTop), (198, (0, 60)), (318, ckTop)], [(55, 2), (58, 3), (60, 4), (61, 5), (62, 6), (63, 7), (64, 8), (65, 9), (66, 10), (67, 11)], [])]
-- FarMachineModel.feels
noncomputable def k87 : ckCtr := (55, ([(0, (1, 0)), (1, (0, 0))], [], [.inr (0, 1, 0)], dT142, dG143, [], [], [(1, 0, 0, 0, [])], 0, 0), [([], [(0, 12)], [], [], [], [ckTop], [], [], [], [(1, 0, 0, 0, [])], 0, 0)], 3, 122, 0, 0)
noncomputable def k87_a : ckAs := []
noncomputable def k87_c : List (Nat × ckCtr) := [(49, k85), (72, k76), (75, k86), (90, k75)]
theorem k87_ok (l : Launch) : ckCtrOk l ckMT ckTW ckCL k87 := mt_55 (as := k87_a) (cs := k87_c) (gx := []) (f := 200000) rfl (ckHc (k85_ok l) (ckHc (k76_ok l) (ckHc (k86_ok l) (ckHc (k75_ok l) (fun _ h => absurd h List.not_mem_nil))))) True.intro (by decide +kernel)
-- FarMachineModel.felt
noncomputable def k88 : ckCtr := (66, ([(0, (1, 0)), (1, (0, 0))], [], dC51, dT52, dG53, [], [], [(1, 1, 0, 0, [])], 0, 0), [([], [(0, 32)], [(1, .inr (0, 20, 2))], [], [], [ckTop], dG141, [], [], [(1, 1, 0, 0, [])], 0, 0)], 4, 143, 0, 0)
noncomputable def k88_a : ckAs := []
noncomputable def k88_c : List (Nat × ckCtr) := [(4, k64), (17, k23), (17, k24), (29, k87)]
theorem k88_ok (l : Launch) : ckCtrOk l ckMT ckTW ckCL k88 := mt_66 (as := k88_a) (cs := k88_c) (gx := []) (f := 200000) rfl (ckHc (k64_ok l) (ckHc (k23_ok l) (ckHc (k24_ok l) (ckHc (k87_ok l) (fun _ h => absurd h List.not_mem_nil))))) True.intro (by decide +kernel)
noncomputable def dC144 : List ckC := [.inl (1, [(1, 1), (4, 10), (4, 11), (4, 12), (0, 1)]), .inr (0, 2, 0)]
-- FarMachine$Commands.has
noncomputable def k89 : ckCtr := (119, ([(0, (1, 0)), (1, (0, 0))], [], dC144, [ckTop, ckTop, (30, 30)], [([(30, ckTop)], [], [])], [], [], [], 0, 0), [([], [(0, 3)], [], [], [(0, (0, 29)), (1, (1, 2147483647))], [(1, 1)], [], [], [(0, 1, (-1))], [], 0, 0), ([], [(0, 3)], [], [], [], [(0, 0)], [], [], [], [], 0, 0)], 1, 80, 0, 0)
noncomputable def k89_a : ckAs := []
noncomputable def k89_c : List (Nat × ckCtr) := []
theorem k89_ok (l : Launch) : ckCtrOk l ckMT ckTW ckCL k89 := mt_119 (as := k89_a) (cs := k89_c) (gx := []) (f := 200000) rfl (fun _ h => absurd h List.not_mem_nil) True.intro (by decide +kernel)
noncomputable def dC145 : List ckC := [.inl (1, [(1, 1), (4, 10), (4, 11), (1, 2), (0, 1)]), .inr (0, 2, 0), .inr (0, 2, 1)]
-- FarMachine$Commands.comesNow
noncomputable def k90 : ckCtr := (121, ([(0, (1, 0)), (1, (0, 0))], [], dC145, [ckTop, ckTop, (30, 30)], [([(30, ckTop)], [], []), ([(30, ckTop)], [], [])], [], [], [], 0, 0), [([], [(0, 3)], [], [], [], [(0, 0)], [], [], [], [], 0, 0), ([], [(0, 3)], [], [], [(0, (0, 29)), (1, (1, 2147483647))], [(1, 1)], [], [], [(0, 1, (-1))], [], 0, 0)], 2, 101, 0, 0)
noncomputable def k90_a : ckAs := []
noncomputable def k90_c : List (Nat × ckCtr) := [(2, k89)]
theorem k90_ok (l : Launch) : ckCtrOk l ckMT ckTW ckCL k90 := mt_121 (as := k90_a) (cs := k90_c) (gx := []) (f := 200000) rfl (ckHc (k89_ok l) (fun _ h => absurd h List.not_mem_nil)) True.intro (by decide +kernel)
noncomputable def dP146 : List (Nat × ckC) := [(0, .inl (2, [(4, 10), (4, 11), (4, 12), (0, 1), (0, 0), (0, 3), (0, 4), (0, 5), (0, 6), (0, 14), (0, 8), (0, 9), (0, 10), (0, 11), (0, 12), (0, 13)]))]
-- FarMachine$Machine.goTo
noncomputable def k91 : ckCtr := (129, ([(0, (1, 0)), (1, (0, 0))], [], dC134, dT135, [], [], [], [], 0, 0), [([], [], dP146, [], [], [(0, 0)], [], [], [], [], 0, 0)], 1, 80, 0, 0)
noncomputable def k91_a : ckAs := []
noncomputable def k91_c : List (Nat × ckCtr) := []
theorem k91_ok (l : Launch) : ckCtrOk l ckMT ckTW ckCL k91 := mt_129 (as := k91_a) (cs := k91_c) (gx := []) (f := 200000) rfl (fun _ h => absurd h List.not_mem_nil) True.intro (by decide +kernel)
noncomputable def dC147 : List ckC := [.inl (1, [(1, 2), (1, 3), (1, 4), (4, 10), (0, 1)]), .inl (2, [(1, 5), (4, 11), (1, 0), (0, 2), (0, 3), (0, 4), (0, 5), (0, 6), (0, 7), (0, 8), (0, 9), (0, 10), (0, 11), (0, 12), (0, 13), (0, 14)]), .inr (0, 15, 0), .inr (0, 15, 1), .inr (0, 15, 2), .inr (0, 16, 3)]
noncomputable def dT148 : List ckI := [ckTop, ckTop, ckTop, ckTop, ckTop, ckTop, ckTop, ckTop, ckTop, ckTop, ckTop, ckTop, ckTop, ckTop, ckTop, (30, 30), (48, 48)]
noncomputable def dG149 : List ckG := [([(30, ckTop)], [], []), ([(30, ckTop)], [], []), ([(30, ckTop)], [], []), ([(48, ckTop)], [], [])]
noncomputable def dP150 : List (Nat × ckC) := [(1, .inl (2, [(1, 5), (4, 11), (1, 0), (0, 2), (0, 17), (0, 4), (0, 5), (0, 6), (0, 7), (0, 18), (0, 9), (0, 10), (0, 11), (0, 12), (0, 13), (0, 14)])), (5, .inr (0, 16, 4))]
-- FarMachine$Commands.doTo
noncomputable def k92 : ckCtr := (122, ([(0, (1, 0)), (1, (1, 1)), (2, (0, 0))], [], dC147, dT148, dG149, [], [], [], 0, 0), [([], [], dP150, [], [], [ckTop, ckTop], [([(48, ckTop)], [], [])], [], [], [], 0, 0)], 3, 122, 0, 0)
noncomputable def k92_a : ckAs := []
noncomputable def k92_c : List (Nat × ckCtr) := [(2, k89), (30, k18), (38, k89), (61, k91)]
theorem k92_ok (l : Launch) : ckCtrOk l ckMT ckTW ckCL k92 := mt_122 (as := k92_a) (cs := k92_c) (gx := []) (f := 200000) rfl (ckHc (k89_ok l) (ckHc (k18_ok l) (ckHc (k89_ok l) (ckHc (k91_ok l) (fun _ h => absurd h List.not_mem_nil))))) True.intro (by decide +kernel)
noncomputable def dC151 : List ckC := [.inl (1, [(1, 1), (1, 2), (1, 3), (1, 4), (0, 4)]), .inr (0, 5, 0), .inr (0, 5, 1), .inr (0, 5, 2), .inr (0, 5, 3)]
noncomputable def dG152 : List ckG := [([(30, ckTop)], [], []), ([(30, ckTop)], [], []), ([(30, ckTop)], [], []), ([(30, ckTop)], [], [])]
noncomputable def dP153 : List (Nat × ckC) := [(0, .inl (1, [(1, 1), (1, 2), (1, 3), (1, 4), (0, 6)])), (1, .inr (0, 5, 4)), (2, .inr (0, 5, 5)), (3, .inr (0, 5, 6)), (4, .inr (0, 5, 7))]
-- FarMachine$Commands.add
noncomputable def k93 : ckCtr := (120, ([(0, (1, 0)), (1, (0, 0)), (2, (0, 1)), (3, (0, 2)), (4, (0, 3))], [], dC151, [ckTop, ckTop, ckTop, ckTop, ckTop, (30, 30)], dG152, [], [], [], 0, 0), [([], [], dP153, [], [(4, (0, 29))], [(1, 30)], dG152, [], [(4, 6, (-1)), (6, 4, 1)], [], 0, 0), ([], [], [], [], [(4, (30, 2147483647))], [], [], [], [], [], 0, 0), ([], [], [], [], [(4, (-2147483648, -1))], [], [], [], [], [], 0, 0)], 1, 80, 0, 0)
noncomputable def k93_a : ckAs := []
noncomputable def k93_c : List (Nat × ckCtr) := []
theorem k93_ok (l : Launch) : ckCtrOk l ckMT ckTW ckCL k93 := mt_120 (as := k93_a) (cs := k93_c) (gx := []) (f := 200000) rfl (fun _ h => absurd h List.not_mem_nil) True.intro (by decide +kernel)
noncomputable def dC154 : List ckC := [.inl (1, [(1, 1), (1, 2), (1, 3), (1, 4), (0, 0)]), .inr (0, 1, 0), .inr (0, 1, 1), .inr (0, 1, 2), .inr (0, 1, 3)]
noncomputable def dP155 : List (Nat × ckC) := [(0, .inl (1, [(1, 1), (1, 2), (1, 3), (1, 4), (0, 3)])), (1, .inr (0, 1, 4)), (2, .inr (0, 1, 5)), (3, .inr (0, 1, 6)), (4, .inr (0, 1, 7))]
noncomputable def dP156 : List (Nat × ckC) := [(0, .inl (1, [(1, 1), (1, 2), (1, 3), (1, 4), (0, 6)])), (1, .inr (0, 1, 4)), (2, .inr (0, 1, 5)), (3, .inr (0, 1, 6)), (4, .inr (0, 1, 7))]
-- FarMachine$Commands.passHour
noncomputable def k94 : ckCtr := (123, ([(0, (1, 0))], [], dC154, [ckTop, (30, 30)], dG152, [], [], [], 0, 0), [([], [(0, 2)], dP155, [], [], [ckTop, (0, 30)], dG152, [], [], [], 0, 0)], 2, 104, 0, 0)
noncomputable def k94_a : ckAs := [(20, [(709030, [(1, 0, 0, ([(0, (1, 0)), (1, (0, 2)), (2, (0, 5))], [], dP156, [], [], [(0, 30), (0, 30)], dG152, [], [(2, 0, 0), (6, 5, 0)], [], 0, 0))])])]
noncomputable def k94_c : List (Nat × ckCtr) := [(61, k93)]
theorem k94_ok (l : Launch) : ckCtrOk l ckMT ckTW ckCL k94 := mt_123 (as := k94_a) (cs := k94_c) (gx := []) (f := 200000) rfl (ckHc (k93_ok l) (fun _ h => absurd h List.not_mem_nil)) True.intro (by decide +kernel)
noncomputable def dC157 : List ckC := [.inl (2, [(1, 1), (4, 10), (1, 2), (0, 0), (0, 1), (0, 2), (0, 3), (0, 4), (0, 5), (0, 6), (0, 7), (0, 8), (0, 9), (0, 10), (0, 11), (0, 12)]), .inr (0, 13, 0), .inl (1, [(1, 3), (1, 4), (1, 5), (1, 6), (0, 14)]), .inr (0, 15, 1), .inr (0, 15, 2), .inr (0, 15, 3), .inr (0, 15, 4)]
noncomputable def dT158 : List ckI := [ckTop, ckTop, ckTop, ckTop, ckTop, ckTop, ckTop, ckTop, ckTop, ckTop, ckTop, ckTop, ckTop, (48, 48), ckTop, (30, 30)]
noncomputable def dG159 : List ckG := [([(48, ckTop)], [], []), ([(30, ckTop)], [], []), ([(30, ckTop)], [], []), ([(30, ckTop)], [], []), ([(30, ckTop)], [], [])]
noncomputable def dP160 : List (Nat × ckC) := [(0, .inl (2, [(1, 1), (4, 10), (1, 2), (0, 0), (0, 17), (0, 2), (0, 3), (0, 4), (0, 5), (0, 18), (0, 7), (0, 8), (0, 9), (0, 10), (0, 11), (0, 12)])), (1, .inr (0, 13, 5)), (2, .inl (1, [(1, 3), (1, 4), (1, 5), (1, 6), (0, 19)])), (3, .inr (0, 15, 6)), (4, .inr (0, 15, 7)), (5, .inr (0, 15, 8)), (6, .inr (0, 15, 9))]
noncomputable def dP161 : List (Nat × ckC) := [(0, .inl (2, [(1, 1), (4, 10), (1, 2), (0, 0), (0, 18), (0, 2), (0, 3), (0, 4), (0, 5), (0, 19), (0, 7), (0, 8), (0, 9), (0, 10), (0, 11), (0, 12)])), (1, .inr (0, 13, 5))]
-- FarMachine$Machine.receive
noncomputable def k95 : ckCtr := (138, ([(0, (1, 0))], [], dC157, dT158, dG159, [], [], [], 0, 0), [([], [(0, 16)], dP160, [], [], [(1, 1), ckTop, ckTop, (0, 30)], dG159, [], [], [], 0, 0), ([], [(0, 16)], dP160, [], [], [(0, 0), ckTop, ckTop, (0, 30)], dG159, [], [], [], 0, 0)], 4, 144, 0, 0)
noncomputable def k95_a : ckAs := [(2, [(784582, [(1, 0, 0, ([(0, (1, 0)), (1, (0, 17))], [], dP161, [], [], [(0, 2147483647), ckTop, ckTop], [([(48, ckTop)], [], [])], [], [], [], 0, 0))])])]
noncomputable def k95_c : List (Nat × ckCtr) := [(18, k90), (30, k92), (43, k94)]
theorem k95_ok (l : Launch) : ckCtrOk l ckMT ckTW ckCL k95 := mt_138 (as := k95_a) (cs := k95_c) (gx := []) (f := 200000) rfl (ckHc (k90_ok l) (ckHc (k92_ok l) (ckHc (k94_ok l) (fun _ h => absurd h List.not_mem_nil)))) True.intro (by decide +kernel)
-- FarMachine.held
noncomputable def k96 : ckCtr := (41, ([(0, (0, 0)), (1, (0, 1)), (2, (0, 2))], [], [], [ckTop, ckTop, (127, 127)], [], [], [], [], 0, 0), [([], [(0, 3)], [], [], [], [ckTop], [], [], [(0, 3, 0)], [], 0, 0)], 1, 80, 0, 0)
noncomputable def k96_a : ckAs := []
noncomputable def k96_c : List (Nat × ckCtr) := []
theorem k96_ok (l : Launch) : ckCtrOk l ckMT ckTW ckCL k96 := mt_41 (as := k96_a) (cs := k96_c) (gx := []) (f := 200000) rfl (fun _ h => absurd h List.not_mem_nil) True.intro (by decide +kernel)
-- FarMachine$Machine.hasOn
noncomputable def k97 : ckCtr := (133, ([(0, (1, 0)), (1, (0, 0))], [], dC125, dT126, [([(8, ckTop)], [], [])], [], [], [], 0, 0), [([], [(0, 15)], [], [], [], [(1, 1)], [], [], [], [], 0, 0), ([], [(0, 15)], [], [], [], [(0, 0)], [], [], [], [], 0, 0)], 2, 101, 0, 0)
noncomputable def k97_a : ckAs := [(2, [(950973, [(1, 0, 0, ([(0, (1, 0)), (1, (0, 0)), (2, (0, 16))], [], [], [], [], [(0, 8)], [], [], [], [], 0, 0))])])]
noncomputable def k97_c : List (Nat × ckCtr) := [(13, k80)]
theorem k97_ok (l : Launch) : ckCtrOk l ckMT ckTW ckCL k97 := mt_133 (as := k97_a) (cs := k97_c) (gx := []) (f := 200000) rfl (ckHc (k80_ok l) (fun _ h => absurd h List.not_mem_nil)) True.intro (by decide +kernel)
-- FarMachine.held
noncomputable def k98 : ckCtr := (41, ([(0, (0, 0)), (1, (0, 1)), (2, (0, 2))], [], [], [ckTop, ckTop, (20, 20)], [], [], [], [], 0, 0), [([], [(0, 3)], [], [], [], [ckTop], [], [], [(0, 3, 0)], [], 0, 0)], 1, 80, 0, 0)
noncomputable def k98_a : ckAs := []
noncomputable def k98_c : List (Nat × ckCtr) := []
theorem k98_ok (l : Launch) : ckCtrOk l ckMT ckTW ckCL k98 := mt_41 (as := k98_a) (cs := k98_c) (gx := []) (f := 200000) rfl (fun _ h => absurd h List.not_mem_nil) True.intro (by decide +kernel)
noncomputable def dP162 : List (Nat × ckC) := [(0, .inl (2, [(4, 10), (1, 1), (4, 11), (0, 1), (0, 2), (0, 3), (0, 4), (0, 15), (0, 16), (0, 7), (0, 8), (0, 9), (0, 10), (0, 11), (0, 12), (0, 13)]))]
-- FarMachine$Machine.turnDish
noncomputable def k99 : ckCtr := (140, ([(0, (1, 0)), (1, (0, 0))], [], dC125, dT126, [([(8, ckTop)], [], [])], [], [], [], 0, 0), [([], [], dP162, [], [], [ckTop, ckTop], [], [], [], [], 0, 0), ([], [], [], [], [(5, (-2147483648, 2147483646))], [], [], [], [], [], 0, 0)], 3, 123, 0, 0)
noncomputable def k99_a : ckAs := []
noncomputable def k99_c : List (Nat × ckCtr) := [(7, k97), (32, k98)]
theorem k99_ok (l : Launch) : ckCtrOk l ckMT ckTW ckCL k99 := mt_140 (as := k99_a) (cs := k99_c) (gx := []) (f := 200000) rfl (ckHc (k97_ok l) (ckHc (k98_ok l) (fun _ h => absurd h List.not_mem_nil))) True.intro (by decide +kernel)
-- FarMachine$Machine.isAimed
noncomputable def k100 : ckCtr := (136, ([(0, (0, 0))], [], [], [ckTop], [], [], [], [], 0, 0), [([], [(0, 1)], [], [], [(0, (-2, 2))], [(1, 1)], [], [], [], [], 0, 0), ([], [(0, 1)], [], [], [], [(0, 0)], [], [], [], [], 0, 0)], 1, 80, 0, 0)
noncomputable def k100_a : ckAs := []
noncomputable def k100_c : List (Nat × ckCtr) := []
theorem k100_ok (l : Launch) : ckCtrOk l ckMT ckTW ckCL k100 := mt_136 (as := k100_a) (cs := k100_c) (gx := []) (f := 200000) rfl (fun _ h => absurd h List.not_mem_nil) True.intro (by decide +kernel)
noncomputable def dC163 : List ckC := [.inl (2, [(1, 1), (1, 2), (4, 10), (0, 0), (0, 1), (0, 2), (0, 3), (0, 4), (0, 5), (0, 6), (0, 7), (0, 8), (0, 9), (0, 10), (0, 11), (0, 12)]), .inr (0, 13, 0), .inr (0, 14, 1)]
noncomputable def dT164 : List ckI := [ckTop, ckTop, ckTop, ckTop, ckTop, ckTop, ckTop, ckTop, ckTop, ckTop, ckTop, ckTop, ckTop, (48, 48), (8, 8)]
noncomputable def dP165 : List (Nat × ckC) := [(0, .inl (2, [(1, 1), (1, 2), (4, 10), (0, 16), (0, 17), (0, 18), (0, 3), (0, 19), (0, 20), (0, 21), (0, 7), (0, 8), (0, 9), (0, 10), (0, 11), (0, 12)]))]
noncomputable def dP166 : List (Nat × ckC) := [(0, .inl (2, [(1, 1), (1, 2), (4, 10), (0, 0), (0, 16), (0, 2), (0, 3), (0, 4), (0, 5), (0, 6), (0, 7), (0, 8), (0, 9), (0, 10), (0, 11), (0, 12)]))]
-- FarMachine$Machine.act
noncomputable def k101 : ckCtr := (139, ([(0, (1, 0))], [], dC163, dT164, [([(48, ckTop)], [], []), ([(8, ckTop)], [], [])], [], [], [], 0, 0), [([], [(0, 15)], dP165, [], [], [(1000, 1000), ckTop, ckTop, ckTop, ckTop, ckTop, ckTop], [], [], [(1, 17, 47), (17, 1, 31)], [], 0, 0), ([], [(0, 15)], dP166, [], [(1, (0, 47)), (5, (-2, 2))], [ckTop, (0, 47)], [], [], [(16, 1, 1)], [], 0, 0)], 4, 147, 0, 0)
noncomputable def k101_a : ckAs := []
noncomputable def k101_c : List (Nat × ckCtr) := [(5, k17), (127, k96), (153, k29), (164, k99), (189, k83), (200, k97), (210, k100), (218, k83)]
theorem k101_ok (l : Launch) : ckCtrOk l ckMT ckTW ckCL k101 := mt_139 (as := k101_a) (cs := k101_c) (gx := []) (f := 200000) rfl (ckHc (k17_ok l) (ckHc (k96_ok l) (ckHc (k29_ok l) (ckHc (k99_ok l) (ckHc (k83_ok l) (ckHc (k97_ok l) (ckHc (k100_ok l) (ckHc (k83_ok l) (fun _ h => absurd h List.not_mem_nil))))))))) True.intro (by decide +kernel)
-- FarMachine$Machine.sumOf
noncomputable def k102 : ckCtr := (135, ([(0, (1, 0)), (1, (4, 1)), (2, (0, 0))], [], dC125, dT126, [([(8, ckTop)], [], [])], [], [], [], 0, 0), [([], [(0, 15)], [], [], [], [ckTop], [], [], [], [], 0, 0)], 1, 80, 0, 0)
noncomputable def k102_a : ckAs := [(5, [(297720, [(1, 0, 1, ([(0, (1, 0)), (1, (4, 1)), (2, (0, 0)), (3, (0, 17)), (4, (0, 18))], [], [], [], [], [ckTop, (0, 8)], [], [], [], [], 0, 0))])])]
noncomputable def k102_c : List (Nat × ckCtr) := []
theorem k102_ok (l : Launch) : ckCtrOk l ckMT ckTW ckCL k102 := mt_135 (as := k102_a) (cs := k102_c) (gx := []) (f := 200000) rfl (fun _ h => absurd h List.not_mem_nil) True.intro (by decide +kernel)
