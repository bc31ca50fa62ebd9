/-! THE CHECKER: contracts with their certificates (printed by wip/gen2/p16gen.py) -/
noncomputable def dT91 : List ckI := [(1, 1), (-2147483648, -1), (0, 1), (0, 1), (0, 8), (0, 40), (0, 6), (0, 8), (0, 10), (0, 126000), ckTop, ckTop, ckTop, ckTop, (0, 30), ckTop, ckTop, ckTop, (0, 1), ckTop, (0, 1), (7, 7)]
-- FarMachineModel.box
noncomputable def k48 : ckCtr := (63, ([(0, (1, 0)), (1, (0, 0)), (2, (0, 1)), (3, (0, 0))], [], dC73, dT91, [([(7, ckTop)], [], [])], [], [], [], 0, 0), [([], [(0, 22)], [(1, .inr (0, 21, 1))], [], [], [(-2, -2), ckTop], [([(2, ckTop), (3, ckTop), (7, ckTop)], [(2, 23)], [])], [], [], [], 0, 0)], 2, 101, 0, 0)
noncomputable def k48_a : ckAs := []
noncomputable def k48_c : List (Nat × ckCtr) := [(3, k30), (18, k30), (27, k37)]
theorem k48_ok (l : Launch) : ckCtrOk l ckMT ckTW ckCL k48 := mt_63 (as := k48_a) (cs := k48_c) (gx := []) (f := 200000) rfl (ckHc (k30_ok l) (ckHc (k30_ok l) (ckHc (k37_ok l) (fun _ h => absurd h List.not_mem_nil)))) True.intro (by decide +kernel)
noncomputable def dT92 : List ckI := [(1, 1), (-2147483648, -1), (0, 0), (0, 1), (0, 1), (0, 8), (0, 40), (0, 6), (0, 8), (0, 10), (0, 126000), ckTop, ckTop, ckTop, ckTop, (0, 30), ckTop, ckTop, ckTop, (0, 1), ckTop, (0, 1), (7, 7)]
-- FarMachineModel.box
noncomputable def k49 : ckCtr := (63, ([(0, (1, 0)), (1, (0, 0)), (2, (0, 1)), (3, (0, 2))], [], dC55, dT92, [([(7, ckTop)], [], [])], [], [], [], 0, 0), [([], [(0, 23)], [(1, .inr (0, 22, 1))], [], [], [(-2, -2), ckTop], [([(2, ckTop), (3, ckTop), (7, ckTop)], [(2, 24)], [])], [], [], [], 0, 0)], 2, 101, 0, 0)
noncomputable def k49_a : ckAs := []
noncomputable def k49_c : List (Nat × ckCtr) := [(3, k30), (18, k30), (27, k37)]
theorem k49_ok (l : Launch) : ckCtrOk l ckMT ckTW ckCL k49 := mt_63 (as := k49_a) (cs := k49_c) (gx := []) (f := 200000) rfl (ckHc (k30_ok l) (ckHc (k30_ok l) (ckHc (k37_ok l) (fun _ h => absurd h List.not_mem_nil)))) True.intro (by decide +kernel)
noncomputable def dT93 : List ckI := [(1, 1), (0, 7), (0, 1), (0, 1), (0, 8), (0, 40), (0, 6), (0, 8), (0, 10), (0, 126000), ckTop, ckTop, ckTop, ckTop, (0, 30), ckTop, ckTop, ckTop, (0, 1), ckTop, (0, 1), (318, 318), (1, 99), (0, 126000), ckTop, ckTop, ckTop, ckTop, ckTop, ckTop, ckTop, ckTop]
noncomputable def dG94 : List ckG := [([(48, ckTop), (49, (0, 47)), (50, ckTop), (51, ckTop), (52, ckTop), (54, ckTop), (55, ckTop), (56, ckTop), (57, ckTop), (58, ckTop), (59, ckTop), (60, ckTop), (61, ckTop), (62, (0, 7)), (63, ckTop), (64, ckTop), (65, ckTop), (66, ckTop), (67, ckTop), (68, ckTop), (69, ckTop), (70, (1, 1)), (76, ckTop), (77, (0, 30)), (197, ckTop), (198, (0, 60)), (318, ckTop)], [(55, 22), (58, 23), (60, 24), (61, 1), (62, 26), (63, 27), (64, 28), (65, 29), (66, 30), (67, 31), (69, 0)], [])]
-- FarMachineModel.box
noncomputable def k50 : ckCtr := (63, ([(0, (1, 0)), (1, (0, 0)), (2, (0, 1)), (3, (0, 0))], [], dC81, dT93, dG83, [], [], [(1, 0, 0, 0, [])], 0, 0), [([], [(0, 25)], [(1, .inr (0, 21, 1))], [], [], [], dG94, [], [], [(1, 1, 0, 0, []), (1, 0, 0, 0, [])], 0, 0)], 2, 101, 0, 0)
noncomputable def k50_a : ckAs := []
noncomputable def k50_c : List (Nat × ckCtr) := [(3, k30), (18, k30)]
theorem k50_ok (l : Launch) : ckCtrOk l ckMT ckTW ckCL k50 := mt_63 (as := k50_a) (cs := k50_c) (gx := []) (f := 200000) rfl (ckHc (k30_ok l) (ckHc (k30_ok l) (fun _ h => absurd h List.not_mem_nil))) True.intro (by decide +kernel)
noncomputable def dT95 : List ckI := [(1, 1), (0, 7), (0, 0), (0, 1), (0, 1), (0, 8), (0, 40), (0, 6), (0, 8), (0, 10), (0, 126000), ckTop, ckTop, ckTop, ckTop, (0, 30), ckTop, ckTop, ckTop, (0, 1), ckTop, (0, 1), (318, 318), (1, 99), (0, 126000), ckTop, ckTop, ckTop, ckTop, ckTop, ckTop, ckTop, ckTop]
noncomputable def dG96 : List ckG := [([(48, ckTop), (49, (0, 47)), (50, ckTop), (51, ckTop), (52, ckTop), (54, ckTop), (55, ckTop), (56, ckTop), (57, ckTop), (58, ckTop), (59, ckTop), (60, ckTop), (61, ckTop), (62, (0, 7)), (63, ckTop), (64, ckTop), (65, ckTop), (66, ckTop), (67, ckTop), (68, ckTop), (69, ckTop), (70, (0, 0)), (76, ckTop), (77, (0, 30)), (197, ckTop), (198, (0, 60)), (318, ckTop)], [(55, 23), (58, 24), (60, 25), (61, 1), (62, 27), (63, 28), (64, 29), (65, 30), (66, 31), (67, 32), (69, 2)], [])]
-- FarMachineModel.box
noncomputable def k51 : ckCtr := (63, ([(0, (1, 0)), (1, (0, 0)), (2, (0, 1)), (3, (0, 2))], [], dC77, dT95, dG79, [], [], [(1, 0, 0, 0, [])], 0, 0), [([], [(0, 26)], [(1, .inr (0, 22, 1))], [], [], [], dG96, [], [], [(1, 1, 0, 0, []), (1, 0, 0, 0, [])], 0, 0)], 2, 101, 0, 0)
noncomputable def k51_a : ckAs := []
noncomputable def k51_c : List (Nat × ckCtr) := [(3, k30), (18, k30)]
theorem k51_ok (l : Launch) : ckCtrOk l ckMT ckTW ckCL k51 := mt_63 (as := k51_a) (cs := k51_c) (gx := []) (f := 200000) rfl (ckHc (k30_ok l) (ckHc (k30_ok l) (fun _ h => absurd h List.not_mem_nil))) True.intro (by decide +kernel)
noncomputable def dT97 : List ckI := [(2, 2), ckTop, (1, 1), (0, 1), (0, 1), (7, 7), ckTop, ckTop, ckTop, ckTop, ckTop, ckTop, ckTop, ckTop, ckTop, ckTop, ckTop, ckTop, ckTop, (8, 8), ckTop, ckTop, ckTop, ckTop, ckTop, ckTop, ckTop, ckTop]
noncomputable def dG98 : List ckG := [([(1, ckTop), (2, ckTop), (3, (0, 7)), (4, ckTop), (5, ckTop), (6, ckTop), (7, ckTop), (8, ckTop)], [(0, 20), (1, 21), (2, 1), (3, 23), (4, 24), (5, 25), (6, 26), (7, 27)], [])]
-- FarMachine.box
noncomputable def k52 : ckCtr := (3, ([(0, (1, 0)), (1, (0, 0)), (2, (0, 1)), (3, (0, 2))], [], dC61, dT97, dG63, [], [], [], 0, 0), [([], [(0, 28)], [(2, .inr (0, 5, 2))], [], [(1, (8, 2147483647))], [(-2, -2), ckTop], [([(2, ckTop), (3, ckTop), (7, ckTop)], [(2, 29)], [])], [], [], [], 0, 0), ([], [(0, 22)], dP64, [], [(1, (0, 7))], [ckTop], dG98, [], [], [], 0, 0), ([], [(0, 28)], [(2, .inr (0, 5, 2))], [], [(1, (-2147483648, -1))], [(-2, -2), ckTop], [([(2, ckTop), (3, ckTop), (7, ckTop)], [(2, 29)], [])], [], [], [], 0, 0)], 2, 102, 0, 0)
noncomputable def k52_a : ckAs := []
noncomputable def k52_c : List (Nat × ckCtr) := [(29, k33), (69, k34)]
theorem k52_ok (l : Launch) : ckCtrOk l ckMT ckTW ckCL k52 := mt_3 (as := k52_a) (cs := k52_c) (gx := []) (f := 200000) rfl (ckHc (k33_ok l) (ckHc (k34_ok l) (fun _ h => absurd h List.not_mem_nil))) True.intro (by decide +kernel)
noncomputable def dT99 : List ckI := [(2, 2), ckTop, (0, 0), (0, 1), (0, 1), (7, 7), ckTop, ckTop, ckTop, ckTop, ckTop, ckTop, ckTop, ckTop, ckTop, ckTop, ckTop, ckTop, ckTop, (8, 8), ckTop, ckTop, ckTop, ckTop, ckTop, ckTop, ckTop, ckTop]
-- FarMachine.box
noncomputable def k53 : ckCtr := (3, ([(0, (1, 0)), (1, (0, 0)), (2, (0, 1)), (3, (0, 2))], [], dC61, dT99, dG63, [], [], [], 0, 0), [([], [(0, 28)], [(2, .inr (0, 5, 2))], [], [(1, (8, 2147483647))], [(-2, -2), ckTop], [([(2, ckTop), (3, ckTop), (7, ckTop)], [(2, 29)], [])], [], [], [], 0, 0), ([], [(0, 22)], dP64, [], [(1, (0, 7))], [ckTop], dG98, [], [], [], 0, 0), ([], [(0, 28)], [(2, .inr (0, 5, 2))], [], [(1, (-2147483648, -1))], [(-2, -2), ckTop], [([(2, ckTop), (3, ckTop), (7, ckTop)], [(2, 29)], [])], [], [], [], 0, 0)], 2, 102, 0, 0)
noncomputable def k53_a : ckAs := []
noncomputable def k53_c : List (Nat × ckCtr) := [(29, k33), (69, k34)]
theorem k53_ok (l : Launch) : ckCtrOk l ckMT ckTW ckCL k53 := mt_3 (as := k53_a) (cs := k53_c) (gx := []) (f := 200000) rfl (ckHc (k33_ok l) (ckHc (k34_ok l) (fun _ h => absurd h List.not_mem_nil))) True.intro (by decide +kernel)
noncomputable def dT100 : List ckI := [(2, 2), (8, 2147483647), (1, 1), (0, 1), (0, 1), (0, 8), (0, 40), (0, 6), (0, 8), (0, 10), (0, 126000), ckTop, ckTop, ckTop, ckTop, (0, 30), ckTop, ckTop, ckTop, (0, 1), ckTop, (0, 1), (7, 7)]
-- FarMachineModel.box
noncomputable def k54 : ckCtr := (63, ([(0, (1, 0)), (1, (0, 0)), (2, (0, 1)), (3, (0, 2))], [], dC55, dT100, [([(7, ckTop)], [], [])], [], [], [], 0, 0), [([], [(0, 23)], [(1, .inr (0, 22, 1))], [], [], [(-2, -2), ckTop], [([(2, ckTop), (3, ckTop), (7, ckTop)], [(2, 24)], [])], [], [], [], 0, 0)], 2, 101, 0, 0)
noncomputable def k54_a : ckAs := []
noncomputable def k54_c : List (Nat × ckCtr) := [(3, k30), (18, k30), (27, k37)]
theorem k54_ok (l : Launch) : ckCtrOk l ckMT ckTW ckCL k54 := mt_63 (as := k54_a) (cs := k54_c) (gx := []) (f := 200000) rfl (ckHc (k30_ok l) (ckHc (k30_ok l) (ckHc (k37_ok l) (fun _ h => absurd h List.not_mem_nil)))) True.intro (by decide +kernel)
noncomputable def dT101 : List ckI := [(2, 2), (8, 2147483647), (0, 0), (0, 1), (0, 1), (0, 8), (0, 40), (0, 6), (0, 8), (0, 10), (0, 126000), ckTop, ckTop, ckTop, ckTop, (0, 30), ckTop, ckTop, ckTop, (0, 1), ckTop, (0, 1), (7, 7)]
-- FarMachineModel.box
noncomputable def k55 : ckCtr := (63, ([(0, (1, 0)), (1, (0, 0)), (2, (0, 1)), (3, (0, 2))], [], dC55, dT101, [([(7, ckTop)], [], [])], [], [], [], 0, 0), [([], [(0, 23)], [(1, .inr (0, 22, 1))], [], [], [(-2, -2), ckTop], [([(2, ckTop), (3, ckTop), (7, ckTop)], [(2, 24)], [])], [], [], [], 0, 0)], 2, 101, 0, 0)
noncomputable def k55_a : ckAs := []
noncomputable def k55_c : List (Nat × ckCtr) := [(3, k30), (18, k30), (27, k37)]
theorem k55_ok (l : Launch) : ckCtrOk l ckMT ckTW ckCL k55 := mt_63 (as := k55_a) (cs := k55_c) (gx := []) (f := 200000) rfl (ckHc (k30_ok l) (ckHc (k30_ok l) (ckHc (k37_ok l) (fun _ h => absurd h List.not_mem_nil)))) True.intro (by decide +kernel)
noncomputable def dT102 : List ckI := [(2, 2), (-2147483648, -1), (1, 1), (0, 1), (0, 1), (0, 8), (0, 40), (0, 6), (0, 8), (0, 10), (0, 126000), ckTop, ckTop, ckTop, ckTop, (0, 30), ckTop, ckTop, ckTop, (0, 1), ckTop, (0, 1), (7, 7)]
-- FarMachineModel.box
noncomputable def k56 : ckCtr := (63, ([(0, (1, 0)), (1, (0, 0)), (2, (0, 1)), (3, (0, 2))], [], dC55, dT102, [([(7, ckTop)], [], [])], [], [], [], 0, 0), [([], [(0, 23)], [(1, .inr (0, 22, 1))], [], [], [(-2, -2), ckTop], [([(2, ckTop), (3, ckTop), (7, ckTop)], [(2, 24)], [])], [], [], [], 0, 0)], 2, 101, 0, 0)
noncomputable def k56_a : ckAs := []
noncomputable def k56_c : List (Nat × ckCtr) := [(3, k30), (18, k30), (27, k37)]
theorem k56_ok (l : Launch) : ckCtrOk l ckMT ckTW ckCL k56 := mt_63 (as := k56_a) (cs := k56_c) (gx := []) (f := 200000) rfl (ckHc (k30_ok l) (ckHc (k30_ok l) (ckHc (k37_ok l) (fun _ h => absurd h List.not_mem_nil)))) True.intro (by decide +kernel)
noncomputable def dT103 : List ckI := [(2, 2), (-2147483648, -1), (0, 0), (0, 1), (0, 1), (0, 8), (0, 40), (0, 6), (0, 8), (0, 10), (0, 126000), ckTop, ckTop, ckTop, ckTop, (0, 30), ckTop, ckTop, ckTop, (0, 1), ckTop, (0, 1), (7, 7)]
-- FarMachineModel.box
noncomputable def k57 : ckCtr := (63, ([(0, (1, 0)), (1, (0, 0)), (2, (0, 1)), (3, (0, 2))], [], dC55, dT103, [([(7, ckTop)], [], [])], [], [], [], 0, 0), [([], [(0, 23)], [(1, .inr (0, 22, 1))], [], [], [(-2, -2), ckTop], [([(2, ckTop), (3, ckTop), (7, ckTop)], [(2, 24)], [])], [], [], [], 0, 0)], 2, 101, 0, 0)
noncomputable def k57_a : ckAs := []
noncomputable def k57_c : List (Nat × ckCtr) := [(3, k30), (18, k30), (27, k37)]
theorem k57_ok (l : Launch) : ckCtrOk l ckMT ckTW ckCL k57 := mt_63 (as := k57_a) (cs := k57_c) (gx := []) (f := 200000) rfl (ckHc (k30_ok l) (ckHc (k30_ok l) (ckHc (k37_ok l) (fun _ h => absurd h List.not_mem_nil)))) True.intro (by decide +kernel)
noncomputable def dT104 : List ckI := [(2, 2), (0, 7), (1, 1), (0, 1), (0, 1), (0, 8), (0, 40), (0, 6), (0, 8), (0, 10), (0, 126000), ckTop, ckTop, ckTop, ckTop, (0, 30), ckTop, ckTop, ckTop, (0, 1), ckTop, (0, 1), (318, 318), (1, 99), (0, 126000), ckTop, ckTop, ckTop, ckTop, ckTop, ckTop, ckTop, ckTop]
noncomputable def dG105 : List ckG := [([(48, ckTop), (49, (0, 47)), (50, ckTop), (51, ckTop), (52, ckTop), (54, ckTop), (55, ckTop), (56, ckTop), (57, ckTop), (58, ckTop), (59, ckTop), (60, ckTop), (61, ckTop), (62, ckTop), (63, (0, 7)), (64, ckTop), (65, ckTop), (66, ckTop), (67, ckTop), (68, ckTop), (70, ckTop), (71, (1, 1)), (76, ckTop), (77, (0, 30)), (197, ckTop), (198, (0, 60)), (318, ckTop)], [(55, 23), (58, 24), (60, 25), (61, 26), (62, 1), (63, 28), (64, 29), (65, 30), (66, 31), (67, 32), (70, 2)], [])]
-- FarMachineModel.box
noncomputable def k58 : ckCtr := (63, ([(0, (1, 0)), (1, (0, 0)), (2, (0, 1)), (3, (0, 2))], [], dC77, dT104, dG79, [], [], [(1, 0, 0, 0, [])], 0, 0), [([], [(0, 27)], [(1, .inr (0, 22, 1))], [], [], [], dG105, [], [], [(1, 1, 0, 0, []), (1, 0, 0, 0, [])], 0, 0)], 2, 101, 0, 0)
noncomputable def k58_a : ckAs := []
noncomputable def k58_c : List (Nat × ckCtr) := [(3, k30), (18, k30)]
theorem k58_ok (l : Launch) : ckCtrOk l ckMT ckTW ckCL k58 := mt_63 (as := k58_a) (cs := k58_c) (gx := []) (f := 200000) rfl (ckHc (k30_ok l) (ckHc (k30_ok l) (fun _ h => absurd h List.not_mem_nil))) True.intro (by decide +kernel)
noncomputable def dT106 : List ckI := [(2, 2), (0, 7), (0, 0), (0, 1), (0, 1), (0, 8), (0, 40), (0, 6), (0, 8), (0, 10), (0, 126000), ckTop, ckTop, ckTop, ckTop, (0, 30), ckTop, ckTop, ckTop, (0, 1), ckTop, (0, 1), (318, 318), (1, 99), (0, 126000), ckTop, ckTop, ckTop, ckTop, ckTop, ckTop, ckTop, ckTop]
noncomputable def dG107 : List ckG := [([(48, ckTop), (49, (0, 47)), (50, ckTop), (51, ckTop), (52, ckTop), (54, ckTop), (55, ckTop), (56, ckTop), (57, ckTop), (58, ckTop), (59, ckTop), (60, ckTop), (61, ckTop), (62, ckTop), (63, (0, 7)), (64, ckTop), (65, ckTop), (66, ckTop), (67, ckTop), (68, ckTop), (70, ckTop), (71, (0, 0)), (76, ckTop), (77, (0, 30)), (197, ckTop), (198, (0, 60)), (318, ckTop)], [(55, 23), (58, 24), (60, 25), (61, 26), (62, 1), (63, 28), (64, 29), (65, 30), (66, 31), (67, 32), (70, 2)], [])]
-- FarMachineModel.box
noncomputable def k59 : ckCtr := (63, ([(0, (1, 0)), (1, (0, 0)), (2, (0, 1)), (3, (0, 2))], [], dC77, dT106, dG79, [], [], [(1, 0, 0, 0, [])], 0, 0), [([], [(0, 27)], [(1, .inr (0, 22, 1))], [], [], [], dG107, [], [], [(1, 1, 0, 0, []), (1, 0, 0, 0, [])], 0, 0)], 2, 101, 0, 0)
noncomputable def k59_a : ckAs := []
noncomputable def k59_c : List (Nat × ckCtr) := [(3, k30), (18, k30)]
theorem k59_ok (l : Launch) : ckCtrOk l ckMT ckTW ckCL k59 := mt_63 (as := k59_a) (cs := k59_c) (gx := []) (f := 200000) rfl (ckHc (k30_ok l) (ckHc (k30_ok l) (fun _ h => absurd h List.not_mem_nil))) True.intro (by decide +kernel)
noncomputable def dT108 : List ckI := [(3, 3), ckTop, (1, 1), (0, 1), (0, 1), (7, 7), ckTop, ckTop, ckTop, ckTop, ckTop, ckTop, ckTop, ckTop, ckTop, ckTop, ckTop, ckTop, ckTop, (8, 8), ckTop, ckTop, ckTop, ckTop, ckTop, ckTop, ckTop, ckTop]
noncomputable def dG109 : List ckG := [([(1, ckTop), (2, ckTop), (3, ckTop), (4, (0, 7)), (5, ckTop), (6, ckTop), (7, ckTop), (8, ckTop)], [(0, 20), (1, 21), (2, 22), (3, 1), (4, 24), (5, 25), (6, 26), (7, 27)], [])]
-- FarMachine.box
noncomputable def k60 : ckCtr := (3, ([(0, (1, 0)), (1, (0, 0)), (2, (0, 1)), (3, (0, 2))], [], dC61, dT108, dG63, [], [], [], 0, 0), [([], [(0, 28)], [(2, .inr (0, 5, 2))], [], [(1, (8, 2147483647))], [(-2, -2), ckTop], [([(2, ckTop), (3, ckTop), (7, ckTop)], [(2, 29)], [])], [], [], [], 0, 0), ([], [(0, 23)], dP64, [], [(1, (0, 7))], [ckTop], dG109, [], [], [], 0, 0), ([], [(0, 28)], [(2, .inr (0, 5, 2))], [], [(1, (-2147483648, -1))], [(-2, -2), ckTop], [([(2, ckTop), (3, ckTop), (7, ckTop)], [(2, 29)], [])], [], [], [], 0, 0)], 2, 102, 0, 0)
noncomputable def k60_a : ckAs := []
noncomputable def k60_c : List (Nat × ckCtr) := [(29, k33), (69, k34)]
theorem k60_ok (l : Launch) : ckCtrOk l ckMT ckTW ckCL k60 := mt_3 (as := k60_a) (cs := k60_c) (gx := []) (f := 200000) rfl (ckHc (k33_ok l) (ckHc (k34_ok l) (fun _ h => absurd h List.not_mem_nil))) True.intro (by decide +kernel)
noncomputable def dT110 : List ckI := [(3, 3), ckTop, (0, 0), (0, 1), (0, 1), (7, 7), ckTop, ckTop, ckTop, ckTop, ckTop, ckTop, ckTop, ckTop, ckTop, ckTop, ckTop, ckTop, ckTop, (8, 8), ckTop, ckTop, ckTop, ckTop, ckTop, ckTop, ckTop, ckTop]
-- FarMachine.box
noncomputable def k61 : ckCtr := (3, ([(0, (1, 0)), (1, (0, 0)), (2, (0, 1)), (3, (0, 2))], [], dC61, dT110, dG63, [], [], [], 0, 0), [([], [(0, 28)], [(2, .inr (0, 5, 2))], [], [(1, (8, 2147483647))], [(-2, -2), ckTop], [([(2, ckTop), (3, ckTop), (7, ckTop)], [(2, 29)], [])], [], [], [], 0, 0), ([], [(0, 23)], dP64, [], [(1, (0, 7))], [ckTop], dG109, [], [], [], 0, 0), ([], [(0, 28)], [(2, .inr (0, 5, 2))], [], [(1, (-2147483648, -1))], [(-2, -2), ckTop], [([(2, ckTop), (3, ckTop), (7, ckTop)], [(2, 29)], [])], [], [], [], 0, 0)], 2, 102, 0, 0)
noncomputable def k61_a : ckAs := []
noncomputable def k61_c : List (Nat × ckCtr) := [(29, k33), (69, k34)]
theorem k61_ok (l : Launch) : ckCtrOk l ckMT ckTW ckCL k61 := mt_3 (as := k61_a) (cs := k61_c) (gx := []) (f := 200000) rfl (ckHc (k33_ok l) (ckHc (k34_ok l) (fun _ h => absurd h List.not_mem_nil))) True.intro (by decide +kernel)
noncomputable def dT111 : List ckI := [(3, 3), (8, 2147483647), (1, 1), (0, 1), (0, 1), (0, 8), (0, 40), (0, 6), (0, 8), (0, 10), (0, 126000), ckTop, ckTop, ckTop, ckTop, (0, 30), ckTop, ckTop, ckTop, (0, 1), ckTop, (0, 1), (7, 7)]
-- FarMachineModel.box
noncomputable def k62 : ckCtr := (63, ([(0, (1, 0)), (1, (0, 0)), (2, (0, 1)), (3, (0, 2))], [], dC55, dT111, [([(7, ckTop)], [], [])], [], [], [], 0, 0), [([], [(0, 23)], [(1, .inr (0, 22, 1))], [], [], [(-2, -2), ckTop], [([(2, ckTop), (3, ckTop), (7, ckTop)], [(2, 24)], [])], [], [], [], 0, 0)], 2, 101, 0, 0)
noncomputable def k62_a : ckAs := []
noncomputable def k62_c : List (Nat × ckCtr) := [(3, k30), (18, k30), (27, k37)]
theorem k62_ok (l : Launch) : ckCtrOk l ckMT ckTW ckCL k62 := mt_63 (as := k62_a) (cs := k62_c) (gx := []) (f := 200000) rfl (ckHc (k30_ok l) (ckHc (k30_ok l) (ckHc (k37_ok l) (fun _ h => absurd h List.not_mem_nil)))) True.intro (by decide +kernel)
noncomputable def dT112 : List ckI := [(3, 3), (8, 2147483647), (0, 0), (0, 1), (0, 1), (0, 8), (0, 40), (0, 6), (0, 8), (0, 10), (0, 126000), ckTop, ckTop, ckTop, ckTop, (0, 30), ckTop, ckTop, ckTop, (0, 1), ckTop, (0, 1), (7, 7)]
-- FarMachineModel.box
noncomputable def k63 : ckCtr := (63, ([(0, (1, 0)), (1, (0, 0)), (2, (0, 1)), (3, (0, 2))], [], dC55, dT112, [([(7, ckTop)], [], [])], [], [], [], 0, 0), [([], [(0, 23)], [(1, .inr (0, 22, 1))], [], [], [(-2, -2), ckTop], [([(2, ckTop), (3, ckTop), (7, ckTop)], [(2, 24)], [])], [], [], [], 0, 0)], 2, 101, 0, 0)
noncomputable def k63_a : ckAs := []
noncomputable def k63_c : List (Nat × ckCtr) := [(3, k30), (18, k30), (27, k37)]
theorem k63_ok (l : Launch) : ckCtrOk l ckMT ckTW ckCL k63 := mt_63 (as := k63_a) (cs := k63_c) (gx := []) (f := 200000) rfl (ckHc (k30_ok l) (ckHc (k30_ok l) (ckHc (k37_ok l) (fun _ h => absurd h List.not_mem_nil)))) True.intro (by decide +kernel)
noncomputable def dT113 : List ckI := [(3, 3), (-2147483648, -1), (1, 1), (0, 1), (0, 1), (0, 8), (0, 40), (0, 6), (0, 8), (0, 10), (0, 126000), ckTop, ckTop, ckTop, ckTop, (0, 30), ckTop, ckTop, ckTop, (0, 1), ckTop, (0, 1), (7, 7)]
-- FarMachineModel.box
noncomputable def k64 : ckCtr := (63, ([(0, (1, 0)), (1, (0, 0)), (2, (0, 1)), (3, (0, 2))], [], dC55, dT113, [([(7, ckTop)], [], [])], [], [], [], 0, 0), [([], [(0, 23)], [(1, .inr (0, 22, 1))], [], [], [(-2, -2), ckTop], [([(2, ckTop), (3, ckTop), (7, ckTop)], [(2, 24)], [])], [], [], [], 0, 0)], 2, 101, 0, 0)
noncomputable def k64_a : ckAs := []
noncomputable def k64_c : List (Nat × ckCtr) := [(3, k30), (18, k30), (27, k37)]
theorem k64_ok (l : Launch) : ckCtrOk l ckMT ckTW ckCL k64 := mt_63 (as := k64_a) (cs := k64_c) (gx := []) (f := 200000) rfl (ckHc (k30_ok l) (ckHc (k30_ok l) (ckHc (k37_ok l) (fun _ h => absurd h List.not_mem_nil)))) True.intro (by decide +kernel)
noncomputable def dT114 : List ckI := [(3, 3), (-2147483648, -1), (0, 0), (0, 1), (0, 1), (0, 8), (0, 40), (0, 6), (0, 8), (0, 10), (0, 126000), ckTop, ckTop, ckTop, ckTop, (0, 30), ckTop, ckTop, ckTop, (0, 1), ckTop, (0, 1), (7, 7)]
-- FarMachineModel.box
noncomputable def k65 : ckCtr := (63, ([(0, (1, 0)), (1, (0, 0)), (2, (0, 1)), (3, (0, 2))], [], dC55, dT114, [([(7, ckTop)], [], [])], [], [], [], 0, 0), [([], [(0, 23)], [(1, .inr (0, 22, 1))], [], [], [(-2, -2), ckTop], [([(2, ckTop), (3, ckTop), (7, ckTop)], [(2, 24)], [])], [], [], [], 0, 0)], 2, 101, 0, 0)
noncomputable def k65_a : ckAs := []
noncomputable def k65_c : List (Nat × ckCtr) := [(3, k30), (18, k30), (27, k37)]
theorem k65_ok (l : Launch) : ckCtrOk l ckMT ckTW ckCL k65 := mt_63 (as := k65_a) (cs := k65_c) (gx := []) (f := 200000) rfl (ckHc (k30_ok l) (ckHc (k30_ok l) (ckHc (k37_ok l) (fun _ h => absurd h List.not_mem_nil)))) True.intro (by decide +kernel)
noncomputable def dT115 : List ckI := [(3, 3), (0, 7), (1, 1), (0, 1), (0, 1), (0, 8), (0, 40), (0, 6), (0, 8), (0, 10), (0, 126000), ckTop, ckTop, ckTop, ckTop, (0, 30), ckTop, ckTop, ckTop, (0, 1), ckTop, (0, 1), (318, 318), (1, 99), (0, 126000), ckTop, ckTop, ckTop, ckTop, ckTop, ckTop, ckTop, ckTop]
noncomputable def dG116 : List ckG := [([(48, ckTop), (49, (0, 47)), (50, ckTop), (51, ckTop), (52, ckTop), (54, ckTop), (55, ckTop), (56, ckTop), (57, ckTop), (58, ckTop), (59, ckTop), (60, ckTop), (61, ckTop), (62, ckTop), (63, ckTop), (64, (0, 7)), (65, ckTop), (66, ckTop), (67, ckTop), (68, ckTop), (71, ckTop), (72, (1, 1)), (76, ckTop), (77, (0, 30)), (197, ckTop), (198, (0, 60)), (318, ckTop)], [(55, 23), (58, 24), (60, 25), (61, 26), (62, 27), (63, 1), (64, 29), (65, 30), (66, 31), (67, 32), (71, 2)], [])]
-- FarMachineModel.box
noncomputable def k66 : ckCtr := (63, ([(0, (1, 0)), (1, (0, 0)), (2, (0, 1)), (3, (0, 2))], [], dC77, dT115, dG79, [], [], [(1, 0, 0, 0, [])], 0, 0), [([], [(0, 28)], [(1, .inr (0, 22, 1))], [], [], [], dG116, [], [], [(1, 1, 0, 0, []), (1, 0, 0, 0, [])], 0, 0)], 2, 101, 0, 0)
noncomputable def k66_a : ckAs := []
noncomputable def k66_c : List (Nat × ckCtr) := [(3, k30), (18, k30)]
theorem k66_ok (l : Launch) : ckCtrOk l ckMT ckTW ckCL k66 := mt_63 (as := k66_a) (cs := k66_c) (gx := []) (f := 200000) rfl (ckHc (k30_ok l) (ckHc (k30_ok l) (fun _ h => absurd h List.not_mem_nil))) True.intro (by decide +kernel)
noncomputable def dT117 : List ckI := [(3, 3), (0, 7), (0, 0), (0, 1), (0, 1), (0, 8), (0, 40), (0, 6), (0, 8), (0, 10), (0, 126000), ckTop, ckTop, ckTop, ckTop, (0, 30), ckTop, ckTop, ckTop, (0, 1), ckTop, (0, 1), (318, 318), (1, 99), (0, 126000), ckTop, ckTop, ckTop, ckTop, ckTop, ckTop, ckTop, ckTop]
noncomputable def dG118 : List ckG := [([(48, ckTop), (49, (0, 47)), (50, ckTop), (51, ckTop), (52, ckTop), (54, ckTop), (55, ckTop), (56, ckTop), (57, ckTop), (58, ckTop), (59, ckTop), (60, ckTop), (61, ckTop), (62, ckTop), (63, ckTop), (64, (0, 7)), (65, ckTop), (66, ckTop), (67, ckTop), (68, ckTop), (71, ckTop), (72, (0, 0)), (76, ckTop), (77, (0, 30)), (197, ckTop), (198, (0, 60)), (318, ckTop)], [(55, 23), (58, 24), (60, 25), (61, 26), (62, 27), (63, 1), (64, 29), (65, 30), (66, 31), (67, 32), (71, 2)], [])]
-- FarMachineModel.box
noncomputable def k67 : ckCtr := (63, ([(0, (1, 0)), (1, (0, 0)), (2, (0, 1)), (3, (0, 2))], [], dC77, dT117, dG79, [], [], [(1, 0, 0, 0, [])], 0, 0), [([], [(0, 28)], [(1, .inr (0, 22, 1))], [], [], [], dG118, [], [], [(1, 1, 0, 0, []), (1, 0, 0, 0, [])], 0, 0)], 2, 101, 0, 0)
noncomputable def k67_a : ckAs := []
noncomputable def k67_c : List (Nat × ckCtr) := [(3, k30), (18, k30)]
theorem k67_ok (l : Launch) : ckCtrOk l ckMT ckTW ckCL k67 := mt_63 (as := k67_a) (cs := k67_c) (gx := []) (f := 200000) rfl (ckHc (k30_ok l) (ckHc (k30_ok l) (fun _ h => absurd h List.not_mem_nil))) True.intro (by decide +kernel)
noncomputable def dT119 : List ckI := [(4, 4), ckTop, (1, 1), (0, 1), (0, 1), (7, 7), ckTop, ckTop, ckTop, ckTop, ckTop, ckTop, ckTop, ckTop, ckTop, ckTop, ckTop, ckTop, ckTop, (8, 8), ckTop, ckTop, ckTop, ckTop, ckTop, ckTop, ckTop, ckTop]
noncomputable def dG120 : List ckG := [([(1, ckTop), (2, ckTop), (3, ckTop), (4, ckTop), (5, (0, 7)), (6, ckTop), (7, ckTop), (8, ckTop)], [(0, 20), (1, 21), (2, 22), (3, 23), (4, 1), (5, 25), (6, 26), (7, 27)], [])]
-- FarMachine.box
noncomputable def k68 : ckCtr := (3, ([(0, (1, 0)), (1, (0, 0)), (2, (0, 1)), (3, (0, 2))], [], dC61, dT119, dG63, [], [], [], 0, 0), [([], [(0, 28)], [(2, .inr (0, 5, 2))], [], [(1, (8, 2147483647))], [(-2, -2), ckTop], [([(2, ckTop), (3, ckTop), (7, ckTop)], [(2, 29)], [])], [], [], [], 0, 0), ([], [(0, 24)], dP64, [], [(1, (0, 7))], [ckTop], dG120, [], [], [], 0, 0), ([], [(0, 28)], [(2, .inr (0, 5, 2))], [], [(1, (-2147483648, -1))], [(-2, -2), ckTop], [([(2, ckTop), (3, ckTop), (7, ckTop)], [(2, 29)], [])], [], [], [], 0, 0)], 2, 102, 0, 0)
noncomputable def k68_a : ckAs := []
noncomputable def k68_c : List (Nat × ckCtr) := [(29, k33), (69, k34)]
theorem k68_ok (l : Launch) : ckCtrOk l ckMT ckTW ckCL k68 := mt_3 (as := k68_a) (cs := k68_c) (gx := []) (f := 200000) rfl (ckHc (k33_ok l) (ckHc (k34_ok l) (fun _ h => absurd h List.not_mem_nil))) True.intro (by decide +kernel)
noncomputable def dT121 : List ckI := [(4, 4), ckTop, (0, 0), (0, 1), (0, 1), (7, 7), ckTop, ckTop, ckTop, ckTop, ckTop, ckTop, ckTop, ckTop, ckTop, ckTop, ckTop, ckTop, ckTop, (8, 8), ckTop, ckTop, ckTop, ckTop, ckTop, ckTop, ckTop, ckTop]
-- FarMachine.box
noncomputable def k69 : ckCtr := (3, ([(0, (1, 0)), (1, (0, 0)), (2, (0, 1)), (3, (0, 2))], [], dC61, dT121, dG63, [], [], [], 0, 0), [([], [(0, 28)], [(2, .inr (0, 5, 2))], [], [(1, (8, 2147483647))], [(-2, -2), ckTop], [([(2, ckTop), (3, ckTop), (7, ckTop)], [(2, 29)], [])], [], [], [], 0, 0), ([], [(0, 24)], dP64, [], [(1, (0, 7))], [ckTop], dG120, [], [], [], 0, 0), ([], [(0, 28)], [(2, .inr (0, 5, 2))], [], [(1, (-2147483648, -1))], [(-2, -2), ckTop], [([(2, ckTop), (3, ckTop), (7, ckTop)], [(2, 29)], [])], [], [], [], 0, 0)], 2, 102, 0, 0)
noncomputable def k69_a : ckAs := []
noncomputable def k69_c : List (Nat × ckCtr) := [(29, k33), (69, k34)]
theorem k69_ok (l : Launch) : ckCtrOk l ckMT ckTW ckCL k69 := mt_3 (as := k69_a) (cs := k69_c) (gx := []) (f := 200000) rfl (ckHc (k33_ok l) (ckHc (k34_ok l) (fun _ h => absurd h List.not_mem_nil))) True.intro (by decide +kernel)
noncomputable def dT122 : List ckI := [(4, 4), (8, 2147483647), (1, 1), (0, 1), (0, 1), (0, 8), (0, 40), (0, 6), (0, 8), (0, 10), (0, 126000), ckTop, ckTop, ckTop, ckTop, (0, 30), ckTop, ckTop, ckTop, (0, 1), ckTop, (0, 1), (7, 7)]
-- FarMachineModel.box
noncomputable def k70 : ckCtr := (63, ([(0, (1, 0)), (1, (0, 0)), (2, (0, 1)), (3, (0, 2))], [], dC55, dT122, [([(7, ckTop)], [], [])], [], [], [], 0, 0), [([], [(0, 23)], [(1, .inr (0, 22, 1))], [], [], [(-2, -2), ckTop], [([(2, ckTop), (3, ckTop), (7, ckTop)], [(2, 24)], [])], [], [], [], 0, 0)], 2, 101, 0, 0)
noncomputable def k70_a : ckAs := []
noncomputable def k70_c : List (Nat × ckCtr) := [(3, k30), (18, k30), (27, k37)]
theorem k70_ok (l : Launch) : ckCtrOk l ckMT ckTW ckCL k70 := mt_63 (as := k70_a) (cs := k70_c) (gx := []) (f := 200000) rfl (ckHc (k30_ok l) (ckHc (k30_ok l) (ckHc (k37_ok l) (fun _ h => absurd h List.not_mem_nil)))) True.intro (by decide +kernel)
noncomputable def dT123 : List ckI := [(4, 4), (8, 2147483647), (0, 0), (0, 1), (0, 1), (0, 8), (0, 40), (0, 6), (0, 8), (0, 10), (0, 126000), ckTop, ckTop, ckTop, ckTop, (0, 30), ckTop, ckTop, ckTop, (0, 1), ckTop, (0, 1), (7, 7)]
-- FarMachineModel.box
noncomputable def k71 : ckCtr := (63, ([(0, (1, 0)), (1, (0, 0)), (2, (0, 1)), (3, (0, 2))], [], dC55, dT123, [([(7, ckTop)], [], [])], [], [], [], 0, 0), [([], [(0, 23)], [(1, .inr (0, 22, 1))], [], [], [(-2, -2), ckTop], [([(2, ckTop), (3, ckTop), (7, ckTop)], [(2, 24)], [])], [], [], [], 0, 0)], 2, 101, 0, 0)
noncomputable def k71_a : ckAs := []
noncomputable def k71_c : List (Nat × ckCtr) := [(3, k30), (18, k30), (27, k37)]
theorem k71_ok (l : Launch) : ckCtrOk l ckMT ckTW ckCL k71 := mt_63 (as := k71_a) (cs := k71_c) (gx := []) (f := 200000) rfl (ckHc (k30_ok l) (ckHc (k30_ok l) (ckHc (k37_ok l) (fun _ h => absurd h List.not_mem_nil)))) True.intro (by decide +kernel)
noncomputable def dT124 : List ckI := [(4, 4), (-2147483648, -1), (1, 1), (0, 1), (0, 1), (0, 8), (0, 40), (0, 6), (0, 8), (0, 10), (0, 126000), ckTop, ckTop, ckTop, ckTop, (0, 30), ckTop, ckTop, ckTop, (0, 1), ckTop, (0, 1), (7, 7)]
-- FarMachineModel.box
noncomputable def k72 : ckCtr := (63, ([(0, (1, 0)), (1, (0, 0)), (2, (0, 1)), (3, (0, 2))], [], dC55, dT124, [([(7, ckTop)], [], [])], [], [], [], 0, 0), [([], [(0, 23)], [(1, .inr (0, 22, 1))], [], [], [(-2, -2), ckTop], [([(2, ckTop), (3, ckTop), (7, ckTop)], [(2, 24)], [])], [], [], [], 0, 0)], 2, 101, 0, 0)
noncomputable def k72_a : ckAs := []
noncomputable def k72_c : List (Nat × ckCtr) := [(3, k30), (18, k30), (27, k37)]
theorem k72_ok (l : Launch) : ckCtrOk l ckMT ckTW ckCL k72 := mt_63 (as := k72_a) (cs := k72_c) (gx := []) (f := 200000) rfl (ckHc (k30_ok l) (ckHc (k30_ok l) (ckHc (k37_ok l) (fun _ h => absurd h List.not_mem_nil)))) True.intro (by decide +kernel)
noncomputable def dT125 : List ckI := [(4, 4), (-2147483648, -1), (0, 0), (0, 1), (0, 1), (0, 8), (0, 40), (0, 6), (0, 8), (0, 10), (0, 126000), ckTop, ckTop, ckTop, ckTop, (0, 30), ckTop, ckTop, ckTop, (0, 1), ckTop, (0, 1), (7, 7)]
-- FarMachineModel.box
noncomputable def k73 : ckCtr := (63, ([(0, (1, 0)), (1, (0, 0)), (2, (0, 1)), (3, (0, 2))], [], dC55, dT125, [([(7, ckTop)], [], [])], [], [], [], 0, 0), [([], [(0, 23)], [(1, .inr (0, 22, 1))], [], [], [(-2, -2), ckTop], [([(2, ckTop), (3, ckTop), (7, ckTop)], [(2, 24)], [])], [], [], [], 0, 0)], 2, 101, 0, 0)
noncomputable def k73_a : ckAs := []
noncomputable def k73_c : List (Nat × ckCtr) := [(3, k30), (18, k30), (27, k37)]
theorem k73_ok (l : Launch) : ckCtrOk l ckMT ckTW ckCL k73 := mt_63 (as := k73_a) (cs := k73_c) (gx := []) (f := 200000) rfl (ckHc (k30_ok l) (ckHc (k30_ok l) (ckHc (k37_ok l) (fun _ h => absurd h List.not_mem_nil)))) True.intro (by decide +kernel)
noncomputable def dT126 : List ckI := [(4, 4), (0, 7), (1, 1), (0, 1), (0, 1), (0, 8), (0, 40), (0, 6), (0, 8), (0, 10), (0, 126000), ckTop, ckTop, ckTop, ckTop, (0, 30), ckTop, ckTop, ckTop, (0, 1), ckTop, (0, 1), (318, 318), (1, 99), (0, 126000), ckTop, ckTop, ckTop, ckTop, ckTop, ckTop, ckTop, ckTop]
noncomputable def dG127 : List ckG := [([(48, ckTop), (49, (0, 47)), (50, ckTop), (51, ckTop), (52, ckTop), (54, ckTop), (55, ckTop), (56, ckTop), (57, ckTop), (58, ckTop), (59, ckTop), (60, ckTop), (61, ckTop), (62, ckTop), (63, ckTop), (64, ckTop), (65, (0, 7)), (66, ckTop), (67, ckTop), (68, ckTop), (72, ckTop), (73, (1, 1)), (76, ckTop), (77, (0, 30)), (197, ckTop), (198, (0, 60)), (318, ckTop)], [(55, 23), (58, 24), (60, 25), (61, 26), (62, 27), (63, 28), (64, 1), (65, 30), (66, 31), (67, 32), (72, 2)], [])]
-- FarMachineModel.box
noncomputable def k74 : ckCtr := (63, ([(0, (1, 0)), (1, (0, 0)), (2, (0, 1)), (3, (0, 2))], [], dC77, dT126, dG79, [], [], [(1, 0, 0, 0, [])], 0, 0), [([], [(0, 29)], [(1, .inr (0, 22, 1))], [], [], [], dG127, [], [], [(1, 1, 0, 0, []), (1, 0, 0, 0, [])], 0, 0)], 2, 101, 0, 0)
noncomputable def k74_a : ckAs := []
noncomputable def k74_c : List (Nat × ckCtr) := [(3, k30), (18, k30)]
theorem k74_ok (l : Launch) : ckCtrOk l ckMT ckTW ckCL k74 := mt_63 (as := k74_a) (cs := k74_c) (gx := []) (f := 200000) rfl (ckHc (k30_ok l) (ckHc (k30_ok l) (fun _ h => absurd h List.not_mem_nil))) True.intro (by decide +kernel)
noncomputable def dT128 : List ckI := [(4, 4), (0, 7), (0, 0), (0, 1), (0, 1), (0, 8), (0, 40), (0, 6), (0, 8), (0, 10), (0, 126000), ckTop, ckTop, ckTop, ckTop, (0, 30), ckTop, ckTop, ckTop, (0, 1), ckTop, (0, 1), (318, 318), (1, 99), (0, 126000), ckTop, ckTop, ckTop, ckTop, ckTop, ckTop, ckTop, ckTop]
noncomputable def dG129 : List ckG := [([(48, ckTop), (49, (0, 47)), (50, ckTop), (51, ckTop), (52, ckTop), (54, ckTop), (55, ckTop), (56, ckTop), (57, ckTop), (58, ckTop), (59, ckTop), (60, ckTop), (61, ckTop), (62, ckTop), (63, ckTop), (64, ckTop), (65, (0, 7)), (66, ckTop), (67, ckTop), (68, ckTop), (72, ckTop), (73, (0, 0)), (76, ckTop), (77, (0, 30)), (197, ckTop), (198, (0, 60)), (318, ckTop)], [(55, 23), (58, 24), (60, 25), (61, 26), (62, 27), (63, 28), (64, 1), (65, 30), (66, 31), (67, 32), (72, 2)], [])]
-- FarMachineModel.box
noncomputable def k75 : ckCtr := (63, ([(0, (1, 0)), (1, (0, 0)), (2, (0, 1)), (3, (0, 2))], [], dC77, dT128, dG79, [], [], [(1, 0, 0, 0, [])], 0, 0), [([], [(0, 29)], [(1, .inr (0, 22, 1))], [], [], [], dG129, [], [], [(1, 1, 0, 0, []), (1, 0, 0, 0, [])], 0, 0)], 2, 101, 0, 0)
noncomputable def k75_a : ckAs := []
noncomputable def k75_c : List (Nat × ckCtr) := [(3, k30), (18, k30)]
theorem k75_ok (l : Launch) : ckCtrOk l ckMT ckTW ckCL k75 := mt_63 (as := k75_a) (cs := k75_c) (gx := []) (f := 200000) rfl (ckHc (k30_ok l) (ckHc (k30_ok l) (fun _ h => absurd h List.not_mem_nil))) True.intro (by decide +kernel)
noncomputable def dT130 : List ckI := [(5, 5), ckTop, (1, 1), (0, 1), (0, 1), (7, 7), ckTop, ckTop, ckTop, ckTop, ckTop, ckTop, ckTop, ckTop, ckTop, ckTop, ckTop, ckTop, ckTop, (8, 8), ckTop, ckTop, ckTop, ckTop, ckTop, ckTop, ckTop, ckTop]
noncomputable def dG131 : List ckG := [([(1, ckTop), (2, ckTop), (3, ckTop), (4, ckTop), (5, ckTop), (6, (0, 7)), (7, ckTop), (8, ckTop)], [(0, 20), (1, 21), (2, 22), (3, 23), (4, 24), (5, 1), (6, 26), (7, 27)], [])]
-- FarMachine.box
noncomputable def k76 : ckCtr := (3, ([(0, (1, 0)), (1, (0, 0)), (2, (0, 1)), (3, (0, 2))], [], dC61, dT130, dG63, [], [], [], 0, 0), [([], [(0, 28)], [(2, .inr (0, 5, 2))], [], [(1, (8, 2147483647))], [(-2, -2), ckTop], [([(2, ckTop), (3, ckTop), (7, ckTop)], [(2, 29)], [])], [], [], [], 0, 0), ([], [(0, 25)], dP64, [], [(1, (0, 7))], [ckTop], dG131, [], [], [], 0, 0), ([], [(0, 28)], [(2, .inr (0, 5, 2))], [], [(1, (-2147483648, -1))], [(-2, -2), ckTop], [([(2, ckTop), (3, ckTop), (7, ckTop)], [(2, 29)], [])], [], [], [], 0, 0)], 2, 102, 0, 0)
noncomputable def k76_a : ckAs := []
noncomputable def k76_c : List (Nat × ckCtr) := [(29, k33), (69, k34)]
theorem k76_ok (l : Launch) : ckCtrOk l ckMT ckTW ckCL k76 := mt_3 (as := k76_a) (cs := k76_c) (gx := []) (f := 200000) rfl (ckHc (k33_ok l) (ckHc (k34_ok l) (fun _ h => absurd h List.not_mem_nil))) True.intro (by decide +kernel)
noncomputable def dT132 : List ckI := [(5, 5), ckTop, (0, 0), (0, 1), (0, 1), (7, 7), ckTop, ckTop, ckTop, ckTop, ckTop, ckTop, ckTop, ckTop, ckTop, ckTop, ckTop, ckTop, ckTop, (8, 8), ckTop, ckTop, ckTop, ckTop, ckTop, ckTop, ckTop, ckTop]
-- FarMachine.box
noncomputable def k77 : ckCtr := (3, ([(0, (1, 0)), (1, (0, 0)), (2, (0, 1)), (3, (0, 2))], [], dC61, dT132, dG63, [], [], [], 0, 0), [([], [(0, 28)], [(2, .inr (0, 5, 2))], [], [(1, (8, 2147483647))], [(-2, -2), ckTop], [([(2, ckTop), (3, ckTop), (7, ckTop)], [(2, 29)], [])], [], [], [], 0, 0), ([], [(0, 25)], dP64, [], [(1, (0, 7))], [ckTop], dG131, [], [], [], 0, 0), ([], [(0, 28)], [(2, .inr (0, 5, 2))], [], [(1, (-2147483648, -1))], [(-2, -2), ckTop], [([(2, ckTop), (3, ckTop), (7, ckTop)], [(2, 29)], [])], [], [], [], 0, 0)], 2, 102, 0, 0)
noncomputable def k77_a : ckAs := []
noncomputable def k77_c : List (Nat × ckCtr) := [(29, k33), (69, k34)]
theorem k77_ok (l : Launch) : ckCtrOk l ckMT ckTW ckCL k77 := mt_3 (as := k77_a) (cs := k77_c) (gx := []) (f := 200000) rfl (ckHc (k33_ok l) (ckHc (k34_ok l) (fun _ h => absurd h List.not_mem_nil))) True.intro (by decide +kernel)
noncomputable def dT133 : List ckI := [(5, 5), (8, 2147483647), (1, 1), (0, 1), (0, 1), (0, 8), (0, 40), (0, 6), (0, 8), (0, 10), (0, 126000), ckTop, ckTop, ckTop, ckTop, (0, 30), ckTop, ckTop, ckTop, (0, 1), ckTop, (0, 1), (7, 7)]
-- FarMachineModel.box
noncomputable def k78 : ckCtr := (63, ([(0, (1, 0)), (1, (0, 0)), (2, (0, 1)), (3, (0, 2))], [], dC55, dT133, [([(7, ckTop)], [], [])], [], [], [], 0, 0), [([], [(0, 23)], [(1, .inr (0, 22, 1))], [], [], [(-2, -2), ckTop], [([(2, ckTop), (3, ckTop), (7, ckTop)], [(2, 24)], [])], [], [], [], 0, 0)], 2, 101, 0, 0)
noncomputable def k78_a : ckAs := []
noncomputable def k78_c : List (Nat × ckCtr) := [(3, k30), (18, k30), (27, k37)]
theorem k78_ok (l : Launch) : ckCtrOk l ckMT ckTW ckCL k78 := mt_63 (as := k78_a) (cs := k78_c) (gx := []) (f := 200000) rfl (ckHc (k30_ok l) (ckHc (k30_ok l) (ckHc (k37_ok l) (fun _ h => absurd h List.not_mem_nil)))) True.intro (by decide +kernel)
noncomputable def dT134 : List ckI := [(5, 5), (8, 2147483647), (0, 0), (0, 1), (0, 1), (0, 8), (0, 40), (0, 6), (0, 8), (0, 10), (0, 126000), ckTop, ckTop, ckTop, ckTop, (0, 30), ckTop, ckTop, ckTop, (0, 1), ckTop, (0, 1), (7, 7)]
-- FarMachineModel.box
noncomputable def k79 : ckCtr := (63, ([(0, (1, 0)), (1, (0, 0)), (2, (0, 1)), (3, (0, 2))], [], dC55, dT134, [([(7, ckTop)], [], [])], [], [], [], 0, 0), [([], [(0, 23)], [(1, .inr (0, 22, 1))], [], [], [(-2, -2), ckTop], [([(2, ckTop), (3, ckTop), (7, ckTop)], [(2, 24)], [])], [], [], [], 0, 0)], 2, 101, 0, 0)
noncomputable def k79_a : ckAs := []
noncomputable def k79_c : List (Nat × ckCtr) := [(3, k30), (18, k30), (27, k37)]
theorem k79_ok (l : Launch) : ckCtrOk l ckMT ckTW ckCL k79 := mt_63 (as := k79_a) (cs := k79_c) (gx := []) (f := 200000) rfl (ckHc (k30_ok l) (ckHc (k30_ok l) (ckHc (k37_ok l) (fun _ h => absurd h List.not_mem_nil)))) True.intro (by decide +kernel)
noncomputable def dT135 : List ckI := [(5, 5), (-2147483648, -1), (1, 1), (0, 1), (0, 1), (0, 8), (0, 40), (0, 6), (0, 8), (0, 10), (0, 126000), ckTop, ckTop, ckTop, ckTop, (0, 30), ckTop, ckTop, ckTop, (0, 1), ckTop, (0, 1), (7, 7)]
-- FarMachineModel.box
noncomputable def k80 : ckCtr := (63, ([(0, (1, 0)), (1, (0, 0)), (2, (0, 1)), (3, (0, 2))], [], dC55, dT135, [([(7, ckTop)], [], [])], [], [], [], 0, 0), [([], [(0, 23)], [(1, .inr (0, 22, 1))], [], [], [(-2, -2), ckTop], [([(2, ckTop), (3, ckTop), (7, ckTop)], [(2, 24)], [])], [], [], [], 0, 0)], 2, 101, 0, 0)
noncomputable def k80_a : ckAs := []
noncomputable def k80_c : List (Nat × ckCtr) := [(3, k30), (18, k30), (27, k37)]
theorem k80_ok (l : Launch) : ckCtrOk l ckMT ckTW ckCL k80 := mt_63 (as := k80_a) (cs := k80_c) (gx := []) (f := 200000) rfl (ckHc (k30_ok l) (ckHc (k30_ok l) (ckHc (k37_ok l) (fun _ h => absurd h List.not_mem_nil)))) True.intro (by decide +kernel)
noncomputable def dT136 : List ckI := [(5, 5), (-2147483648, -1), (0, 0), (0, 1), (0, 1), (0, 8), (0, 40), (0, 6), (0, 8), (0, 10), (0, 126000), ckTop, ckTop, ckTop, ckTop, (0, 30), ckTop, ckTop, ckTop, (0, 1), ckTop, (0, 1), (7, 7)]
-- FarMachineModel.box
noncomputable def k81 : ckCtr := (63, ([(0, (1, 0)), (1, (0, 0)), (2, (0, 1)), (3, (0, 2))], [], dC55, dT136, [([(7, ckTop)], [], [])], [], [], [], 0, 0), [([], [(0, 23)], [(1, .inr (0, 22, 1))], [], [], [(-2, -2), ckTop], [([(2, ckTop), (3, ckTop), (7, ckTop)], [(2, 24)], [])], [], [], [], 0, 0)], 2, 101, 0, 0)
noncomputable def k81_a : ckAs := []
noncomputable def k81_c : List (Nat × ckCtr) := [(3, k30), (18, k30), (27, k37)]
theorem k81_ok (l : Launch) : ckCtrOk l ckMT ckTW ckCL k81 := mt_63 (as := k81_a) (cs := k81_c) (gx := []) (f := 200000) rfl (ckHc (k30_ok l) (ckHc (k30_ok l) (ckHc (k37_ok l) (fun _ h => absurd h List.not_mem_nil)))) True.intro (by decide +kernel)
noncomputable def dT137 : List ckI := [(5, 5), (0, 7), (1, 1), (0, 1), (0, 1), (0, 8), (0, 40), (0, 6), (0, 8), (0, 10), (0, 126000), ckTop, ckTop, ckTop, ckTop, (0, 30), ckTop, ckTop, ckTop, (0, 1), ckTop, (0, 1), (318, 318), (1, 99), (0, 126000), ckTop, ckTop, ckTop, ckTop, ckTop, ckTop, ckTop, ckTop]
noncomputable def dG138 : List ckG := [([(48, ckTop), (49, (0, 47)), (50, ckTop), (51, ckTop), (52, ckTop), (54, ckTop), (55, ckTop), (56, ckTop), (57, ckTop), (58, ckTop), (59, ckTop), (60, ckTop), (61, ckTop), (62, ckTop), (63, ckTop), (64, ckTop), (65, ckTop), (66, (0, 7)), (67, ckTop), (68, ckTop), (73, ckTop), (74, (1, 1)), (76, ckTop), (77, (0, 30)), (197, ckTop), (198, (0, 60)), (318, ckTop)], [(55, 23), (58, 24), (60, 25), (61, 26), (62, 27), (63, 28), (64, 29), (65, 1), (66, 31), (67, 32), (73, 2)], [])]
-- FarMachineModel.box
noncomputable def k82 : ckCtr := (63, ([(0, (1, 0)), (1, (0, 0)), (2, (0, 1)), (3, (0, 2))], [], dC77, dT137, dG79, [], [], [(1, 0, 0, 0, [])], 0, 0), [([], [(0, 30)], [(1, .inr (0, 22, 1))], [], [], [], dG138, [], [], [(1, 1, 0, 0, []), (1, 0, 0, 0, [])], 0, 0)], 2, 101, 0, 0)
noncomputable def k82_a : ckAs := []
noncomputable def k82_c : List (Nat × ckCtr) := [(3, k30), (18, k30)]
theorem k82_ok (l : Launch) : ckCtrOk l ckMT ckTW ckCL k82 := mt_63 (as := k82_a) (cs := k82_c) (gx := []) (f := 200000) rfl (ckHc (k30_ok l) (ckHc (k30_ok l) (fun _ h => absurd h List.not_mem_nil))) True.intro (by decide +kernel)
noncomputable def dT139 : List ckI := [(5, 5), (0, 7), (0, 0), (0, 1), (0, 1), (0, 8), (0, 40), (0, 6), (0, 8), (0, 10), (0, 126000), ckTop, ckTop, ckTop, ckTop, (0, 30), ckTop, ckTop, ckTop, (0, 1), ckTop, (0, 1), (318, 318), (1, 99), (0, 126000), ckTop, ckTop, ckTop, ckTop, ckTop, ckTop, ckTop, ckTop]
noncomputable def dG140 : List ckG := [([(48, ckTop), (49, (0, 47)), (50, ckTop), (51, ckTop), (52, ckTop), (54, ckTop), (55, ckTop), (56, ckTop), (57, ckTop), (58, ckTop), (59, ckTop), (60, ckTop), (61, ckTop), (62, ckTop), (63, ckTop), (64, ckTop), (65, ckTop), (66, (0, 7)), (67, ckTop), (68, ckTop), (73, ckTop), (74, (0, 0)), (76, ckTop), (77, (0, 30)), (197, ckTop), (198, (0, 60)), (318, ckTop)], [(55, 23), (58, 24), (60, 25), (61, 26), (62, 27), (63, 28), (64, 29), (65, 1), (66, 31), (67, 32), (73, 2)], [])]
-- FarMachineModel.box
noncomputable def k83 : ckCtr := (63, ([(0, (1, 0)), (1, (0, 0)), (2, (0, 1)), (3, (0, 2))], [], dC77, dT139, dG79, [], [], [(1, 0, 0, 0, [])], 0, 0), [([], [(0, 30)], [(1, .inr (0, 22, 1))], [], [], [], dG140, [], [], [(1, 1, 0, 0, []), (1, 0, 0, 0, [])], 0, 0)], 2, 101, 0, 0)
noncomputable def k83_a : ckAs := []
noncomputable def k83_c : List (Nat × ckCtr) := [(3, k30), (18, k30)]
theorem k83_ok (l : Launch) : ckCtrOk l ckMT ckTW ckCL k83 := mt_63 (as := k83_a) (cs := k83_c) (gx := []) (f := 200000) rfl (ckHc (k30_ok l) (ckHc (k30_ok l) (fun _ h => absurd h List.not_mem_nil))) True.intro (by decide +kernel)
noncomputable def dT141 : List ckI := [(6, 6), ckTop, (1, 1), (0, 1), (0, 1), (7, 7), ckTop, ckTop, ckTop, ckTop, ckTop, ckTop, ckTop, ckTop, ckTop, ckTop, ckTop, ckTop, ckTop, (8, 8), ckTop, ckTop, ckTop, ckTop, ckTop, ckTop, ckTop, ckTop]
noncomputable def dG142 : List ckG := [([(1, ckTop), (2, ckTop), (3, ckTop), (4, ckTop), (5, ckTop), (6, ckTop), (7, (0, 7)), (8, ckTop)], [(0, 20), (1, 21), (2, 22), (3, 23), (4, 24), (5, 25), (6, 1), (7, 27)], [])]
-- FarMachine.box
noncomputable def k84 : ckCtr := (3, ([(0, (1, 0)), (1, (0, 0)), (2, (0, 1)), (3, (0, 2))], [], dC61, dT141, dG63, [], [], [], 0, 0), [([], [(0, 28)], [(2, .inr (0, 5, 2))], [], [(1, (8, 2147483647))], [(-2, -2), ckTop], [([(2, ckTop), (3, ckTop), (7, ckTop)], [(2, 29)], [])], [], [], [], 0, 0), ([], [(0, 26)], dP64, [], [(1, (0, 7))], [ckTop], dG142, [], [], [], 0, 0), ([], [(0, 28)], [(2, .inr (0, 5, 2))], [], [(1, (-2147483648, -1))], [(-2, -2), ckTop], [([(2, ckTop), (3, ckTop), (7, ckTop)], [(2, 29)], [])], [], [], [], 0, 0)], 2, 102, 0, 0)
noncomputable def k84_a : ckAs := []
noncomputable def k84_c : List (Nat × ckCtr) := [(29, k33), (69, k34)]
theorem k84_ok (l : Launch) : ckCtrOk l ckMT ckTW ckCL k84 := mt_3 (as := k84_a) (cs := k84_c) (gx := []) (f := 200000) rfl (ckHc (k33_ok l) (ckHc (k34_ok l) (fun _ h => absurd h List.not_mem_nil))) True.intro (by decide +kernel)
noncomputable def dT143 : List ckI := [(6, 6), ckTop, (0, 0), (0, 1), (0, 1), (7, 7), ckTop, ckTop, ckTop, ckTop, ckTop, ckTop, ckTop, ckTop, ckTop, ckTop, ckTop, ckTop, ckTop, (8, 8), ckTop, ckTop, ckTop, ckTop, ckTop, ckTop, ckTop, ckTop]
-- FarMachine.box
noncomputable def k85 : ckCtr := (3, ([(0, (1, 0)), (1, (0, 0)), (2, (0, 1)), (3, (0, 2))], [], dC61, dT143, dG63, [], [], [], 0, 0), [([], [(0, 28)], [(2, .inr (0, 5, 2))], [], [(1, (8, 2147483647))], [(-2, -2), ckTop], [([(2, ckTop), (3, ckTop), (7, ckTop)], [(2, 29)], [])], [], [], [], 0, 0), ([], [(0, 26)], dP64, [], [(1, (0, 7))], [ckTop], dG142, [], [], [], 0, 0), ([], [(0, 28)], [(2, .inr (0, 5, 2))], [], [(1, (-2147483648, -1))], [(-2, -2), ckTop], [([(2, ckTop), (3, ckTop), (7, ckTop)], [(2, 29)], [])], [], [], [], 0, 0)], 2, 102, 0, 0)
noncomputable def k85_a : ckAs := []
noncomputable def k85_c : List (Nat × ckCtr) := [(29, k33), (69, k34)]
theorem k85_ok (l : Launch) : ckCtrOk l ckMT ckTW ckCL k85 := mt_3 (as := k85_a) (cs := k85_c) (gx := []) (f := 200000) rfl (ckHc (k33_ok l) (ckHc (k34_ok l) (fun _ h => absurd h List.not_mem_nil))) True.intro (by decide +kernel)
noncomputable def dT144 : List ckI := [(6, 6), (8, 2147483647), (1, 1), (0, 1), (0, 1), (0, 8), (0, 40), (0, 6), (0, 8), (0, 10), (0, 126000), ckTop, ckTop, ckTop, ckTop, (0, 30), ckTop, ckTop, ckTop, (0, 1), ckTop, (0, 1), (7, 7)]
-- FarMachineModel.box
noncomputable def k86 : ckCtr := (63, ([(0, (1, 0)), (1, (0, 0)), (2, (0, 1)), (3, (0, 2))], [], dC55, dT144, [([(7, ckTop)], [], [])], [], [], [], 0, 0), [([], [(0, 23)], [(1, .inr (0, 22, 1))], [], [], [(-2, -2), ckTop], [([(2, ckTop), (3, ckTop), (7, ckTop)], [(2, 24)], [])], [], [], [], 0, 0)], 2, 101, 0, 0)
noncomputable def k86_a : ckAs := []
noncomputable def k86_c : List (Nat × ckCtr) := [(3, k30), (18, k30), (27, k37)]
theorem k86_ok (l : Launch) : ckCtrOk l ckMT ckTW ckCL k86 := mt_63 (as := k86_a) (cs := k86_c) (gx := []) (f := 200000) rfl (ckHc (k30_ok l) (ckHc (k30_ok l) (ckHc (k37_ok l) (fun _ h => absurd h List.not_mem_nil)))) True.intro (by decide +kernel)
noncomputable def dT145 : List ckI := [(6, 6), (8, 2147483647), (0, 0), (0, 1), (0, 1), (0, 8), (0, 40), (0, 6), (0, 8), (0, 10), (0, 126000), ckTop, ckTop, ckTop, ckTop, (0, 30), ckTop, ckTop, ckTop, (0, 1), ckTop, (0, 1), (7, 7)]
-- FarMachineModel.box
noncomputable def k87 : ckCtr := (63, ([(0, (1, 0)), (1, (0, 0)), (2, (0, 1)), (3, (0, 2))], [], dC55, dT145, [([(7, ckTop)], [], [])], [], [], [], 0, 0), [([], [(0, 23)], [(1, .inr (0, 22, 1))], [], [], [(-2, -2), ckTop], [([(2, ckTop), (3, ckTop), (7, ckTop)], [(2, 24)], [])], [], [], [], 0, 0)], 2, 101, 0, 0)
noncomputable def k87_a : ckAs := []
noncomputable def k87_c : List (Nat × ckCtr) := [(3, k30), (18, k30), (27, k37)]
theorem k87_ok (l : Launch) : ckCtrOk l ckMT ckTW ckCL k87 := mt_63 (as := k87_a) (cs := k87_c) (gx := []) (f := 200000) rfl (ckHc (k30_ok l) (ckHc (k30_ok l) (ckHc (k37_ok l) (fun _ h => absurd h List.not_mem_nil)))) True.intro (by decide +kernel)
noncomputable def dT146 : List ckI := [(6, 6), (-2147483648, -1), (1, 1), (0, 1), (0, 1), (0, 8), (0, 40), (0, 6), (0, 8), (0, 10), (0, 126000), ckTop, ckTop, ckTop, ckTop, (0, 30), ckTop, ckTop, ckTop, (0, 1), ckTop, (0, 1), (7, 7)]
-- FarMachineModel.box
noncomputable def k88 : ckCtr := (63, ([(0, (1, 0)), (1, (0, 0)), (2, (0, 1)), (3, (0, 2))], [], dC55, dT146, [([(7, ckTop)], [], [])], [], [], [], 0, 0), [([], [(0, 23)], [(1, .inr (0, 22, 1))], [], [], [(-2, -2), ckTop], [([(2, ckTop), (3, ckTop), (7, ckTop)], [(2, 24)], [])], [], [], [], 0, 0)], 2, 101, 0, 0)
noncomputable def k88_a : ckAs := []
noncomputable def k88_c : List (Nat × ckCtr) := [(3, k30), (18, k30), (27, k37)]
theorem k88_ok (l : Launch) : ckCtrOk l ckMT ckTW ckCL k88 := mt_63 (as := k88_a) (cs := k88_c) (gx := []) (f := 200000) rfl (ckHc (k30_ok l) (ckHc (k30_ok l) (ckHc (k37_ok l) (fun _ h => absurd h List.not_mem_nil)))) True.intro (by decide +kernel)
noncomputable def dT147 : List ckI := [(6, 6), (-2147483648, -1), (0, 0), (0, 1), (0, 1), (0, 8), (0, 40), (0, 6), (0, 8), (0, 10), (0, 126000), ckTop, ckTop, ckTop, ckTop, (0, 30), ckTop, ckTop, ckTop, (0, 1), ckTop, (0, 1), (7, 7)]
-- FarMachineModel.box
noncomputable def k89 : ckCtr := (63, ([(0, (1, 0)), (1, (0, 0)), (2, (0, 1)), (3, (0, 2))], [], dC55, dT147, [([(7, ckTop)], [], [])], [], [], [], 0, 0), [([], [(0, 23)], [(1, .inr (0, 22, 1))], [], [], [(-2, -2), ckTop], [([(2, ckTop), (3, ckTop), (7, ckTop)], [(2, 24)], [])], [], [], [], 0, 0)], 2, 101, 0, 0)
noncomputable def k89_a : ckAs := []
noncomputable def k89_c : List (Nat × ckCtr) := [(3, k30), (18, k30), (27, k37)]
theorem k89_ok (l : Launch) : ckCtrOk l ckMT ckTW ckCL k89 := mt_63 (as := k89_a) (cs := k89_c) (gx := []) (f := 200000) rfl (ckHc (k30_ok l) (ckHc (k30_ok l) (ckHc (k37_ok l) (fun _ h => absurd h List.not_mem_nil)))) True.intro (by decide +kernel)
noncomputable def dT148 : List ckI := [(6, 6), (0, 7), (1, 1), (0, 1), (0, 1), (0, 8), (0, 40), (0, 6), (0, 8), (0, 10), (0, 126000), ckTop, ckTop, ckTop, ckTop, (0, 30), ckTop, ckTop, ckTop, (0, 1), ckTop, (0, 1), (318, 318), (1, 99), (0, 126000), ckTop, ckTop, ckTop, ckTop, ckTop, ckTop, ckTop, ckTop]
noncomputable def dG149 : List ckG := [([(48, ckTop), (49, (0, 47)), (50, ckTop), (51, ckTop), (52, ckTop), (54, ckTop), (55, ckTop), (56, ckTop), (57, ckTop), (58, ckTop), (59, ckTop), (60, ckTop), (61, ckTop), (62, ckTop), (63, ckTop), (64, ckTop), (65, ckTop), (66, ckTop), (67, (0, 7)), (68, ckTop), (74, ckTop), (75, (1, 1)), (76, ckTop), (77, (0, 30)), (197, ckTop), (198, (0, 60)), (318, ckTop)], [(55, 23), (58, 24), (60, 25), (61, 26), (62, 27), (63, 28), (64, 29), (65, 30), (66, 1), (67, 32), (74, 2)], [])]
-- FarMachineModel.box
noncomputable def k90 : ckCtr := (63, ([(0, (1, 0)), (1, (0, 0)), (2, (0, 1)), (3, (0, 2))], [], dC77, dT148, dG79, [], [], [(1, 0, 0, 0, [])], 0, 0), [([], [(0, 31)], [(1, .inr (0, 22, 1))], [], [], [], dG149, [], [], [(1, 1, 0, 0, []), (1, 0, 0, 0, [])], 0, 0)], 2, 101, 0, 0)
noncomputable def k90_a : ckAs := []
noncomputable def k90_c : List (Nat × ckCtr) := [(3, k30), (18, k30)]
theorem k90_ok (l : Launch) : ckCtrOk l ckMT ckTW ckCL k90 := mt_63 (as := k90_a) (cs := k90_c) (gx := []) (f := 200000) rfl (ckHc (k30_ok l) (ckHc (k30_ok l) (fun _ h => absurd h List.not_mem_nil))) True.intro (by decide +kernel)
noncomputable def dT150 : List ckI := [(6, 6), (0, 7), (0, 0), (0, 1), (0, 1), (0, 8), (0, 40), (0, 6), (0, 8), (0, 10), (0, 126000), ckTop, ckTop, ckTop, ckTop, (0, 30), ckTop, ckTop, ckTop, (0, 1), ckTop, (0, 1), (318, 318), (1, 99), (0, 126000), ckTop, ckTop, ckTop, ckTop, ckTop, ckTop, ckTop, ckTop]
noncomputable def dG151 : List ckG := [([(48, ckTop), (49, (0, 47)), (50, ckTop), (51, ckTop), (52, ckTop), (54, ckTop), (55, ckTop), (56, ckTop), (57, ckTop), (58, ckTop), (59, ckTop), (60, ckTop), (61, ckTop), (62, ckTop), (63, ckTop), (64, ckTop), (65, ckTop), (66, ckTop), (67, (0, 7)), (68, ckTop), (74, ckTop), (75, (0, 0)), (76, ckTop), (77, (0, 30)), (197, ckTop), (198, (0, 60)), (318, ckTop)], [(55, 23), (58, 24), (60, 25), (61, 26), (62, 27), (63, 28), (64, 29), (65, 30), (66, 1), (67, 32), (74, 2)], [])]
-- FarMachineModel.box
noncomputable def k91 : ckCtr := (63, ([(0, (1, 0)), (1, (0, 0)), (2, (0, 1)), (3, (0, 2))], [], dC77, dT150, dG79, [], [], [(1, 0, 0, 0, [])], 0, 0), [([], [(0, 31)], [(1, .inr (0, 22, 1))], [], [], [], dG151, [], [], [(1, 1, 0, 0, []), (1, 0, 0, 0, [])], 0, 0)], 2, 101, 0, 0)
noncomputable def k91_a : ckAs := []
noncomputable def k91_c : List (Nat × ckCtr) := [(3, k30), (18, k30)]
theorem k91_ok (l : Launch) : ckCtrOk l ckMT ckTW ckCL k91 := mt_63 (as := k91_a) (cs := k91_c) (gx := []) (f := 200000) rfl (ckHc (k30_ok l) (ckHc (k30_ok l) (fun _ h => absurd h List.not_mem_nil))) True.intro (by decide +kernel)
noncomputable def dC152 : List ckC := [.inl (8, [(1, 1), (4, 10), (0, 3), (4, 11), (4, 12), (4, 13), (4, 14), (1, 2)]), .inl (7, [(1, 3), (4, 15), (0, 4), (4, 16), (4, 17), (4, 18), (4, 19), (4, 20), (4, 21), (4, 22)]), .inr (0, 0, 0), .inl (2, [(4, 23), (1, 4), (4, 24), (0, 5), (0, 6), (0, 7), (0, 8), (0, 9), (0, 10), (0, 11), (0, 12), (0, 13), (0, 14), (0, 15), (0, 16), (0, 17)]), .inr (0, 18, 1)]
noncomputable def dT153 : List ckI := [(7, 7), ckTop, (1, 1), (0, 1), (0, 1), ckTop, ckTop, ckTop, ckTop, ckTop, ckTop, ckTop, ckTop, ckTop, ckTop, ckTop, ckTop, ckTop, (8, 8), ckTop, ckTop, ckTop, ckTop, ckTop, ckTop, ckTop, ckTop]
noncomputable def dG154 : List ckG := [([(1, ckTop), (2, ckTop), (3, ckTop), (4, ckTop), (5, ckTop), (6, ckTop), (7, ckTop), (8, (0, 7))], [(0, 19), (1, 20), (2, 21), (3, 22), (4, 23), (5, 24), (6, 25), (7, 1)], [])]
-- FarMachine.box
noncomputable def k92 : ckCtr := (3, ([(0, (1, 0)), (1, (0, 0)), (2, (0, 1)), (3, (0, 2))], [], dC152, dT153, dG68, [], [], [], 0, 0), [([], [(0, 27)], [(2, .inr (0, 0, 2))], [], [(1, (8, 2147483647))], [(-2, -2), ckTop], [([(2, ckTop), (3, ckTop), (7, ckTop)], [(2, 28)], [])], [], [], [], 0, 0), ([], [(0, 26)], dP69, [], [(1, (0, 7))], [ckTop], dG154, [], [], [], 0, 0), ([], [(0, 27)], [(2, .inr (0, 0, 2))], [], [(1, (-2147483648, -1))], [(-2, -2), ckTop], [([(2, ckTop), (3, ckTop), (7, ckTop)], [(2, 28)], [])], [], [], [], 0, 0)], 2, 102, 0, 0)
noncomputable def k92_a : ckAs := []
noncomputable def k92_c : List (Nat × ckCtr) := [(29, k33), (69, k34)]
theorem k92_ok (l : Launch) : ckCtrOk l ckMT ckTW ckCL k92 := mt_3 (as := k92_a) (cs := k92_c) (gx := []) (f := 200000) rfl (ckHc (k33_ok l) (ckHc (k34_ok l) (fun _ h => absurd h List.not_mem_nil))) True.intro (by decide +kernel)
noncomputable def dT155 : List ckI := [(7, 7), ckTop, (0, 0), (0, 1), (0, 1), ckTop, ckTop, ckTop, ckTop, ckTop, ckTop, ckTop, ckTop, ckTop, ckTop, ckTop, ckTop, ckTop, (8, 8), ckTop, ckTop, ckTop, ckTop, ckTop, ckTop, ckTop, ckTop]
-- FarMachine.box
noncomputable def k93 : ckCtr := (3, ([(0, (1, 0)), (1, (0, 0)), (2, (0, 1)), (3, (0, 2))], [], dC152, dT155, dG68, [], [], [], 0, 0), [([], [(0, 27)], [(2, .inr (0, 0, 2))], [], [(1, (8, 2147483647))], [(-2, -2), ckTop], [([(2, ckTop), (3, ckTop), (7, ckTop)], [(2, 28)], [])], [], [], [], 0, 0), ([], [(0, 26)], dP69, [], [(1, (0, 7))], [ckTop], dG154, [], [], [], 0, 0), ([], [(0, 27)], [(2, .inr (0, 0, 2))], [], [(1, (-2147483648, -1))], [(-2, -2), ckTop], [([(2, ckTop), (3, ckTop), (7, ckTop)], [(2, 28)], [])], [], [], [], 0, 0)], 2, 102, 0, 0)
noncomputable def k93_a : ckAs := []
noncomputable def k93_c : List (Nat × ckCtr) := [(29, k33), (69, k34)]
theorem k93_ok (l : Launch) : ckCtrOk l ckMT ckTW ckCL k93 := mt_3 (as := k93_a) (cs := k93_c) (gx := []) (f := 200000) rfl (ckHc (k33_ok l) (ckHc (k34_ok l) (fun _ h => absurd h List.not_mem_nil))) True.intro (by decide +kernel)
noncomputable def dC156 : List ckC := [.inl (9, [(1, 1), (4, 10), (4, 11), (4, 12), (4, 13), (4, 14), (4, 15), (4, 16), (4, 17), (4, 18), (4, 19), (4, 20), (4, 21), (4, 22), (4, 23), (4, 24), (0, 3), (0, 4), (0, 5), (0, 6), (0, 7), (0, 8), (0, 9), (4, 25), (0, 10), (4, 26), (0, 11), (0, 12), (0, 13), (0, 14), (4, 27), (0, 15), (0, 16), (0, 17), (0, 18), (5, 0), (5, 0), (0, 19), (4, 28), (4, 29), (0, 20), (0, 21)]), .inr (0, 0, 0)]
noncomputable def dT157 : List ckI := [(7, 7), (8, 2147483647), (1, 1), (0, 1), (0, 1), (0, 8), (0, 40), (0, 6), (0, 8), (0, 10), (0, 126000), ckTop, ckTop, ckTop, ckTop, (0, 30), ckTop, ckTop, ckTop, (0, 1), ckTop, (0, 1)]
-- FarMachineModel.box
noncomputable def k94 : ckCtr := (63, ([(0, (1, 0)), (1, (0, 0)), (2, (0, 1)), (3, (0, 2))], [], dC156, dT157, [([(7, ckTop)], [], [])], [], [], [], 0, 0), [([], [(0, 22)], [(1, .inr (0, 0, 1))], [], [], [(-2, -2), ckTop], [([(2, ckTop), (3, ckTop), (7, ckTop)], [(2, 23)], [])], [], [], [], 0, 0)], 2, 101, 0, 0)
noncomputable def k94_a : ckAs := []
noncomputable def k94_c : List (Nat × ckCtr) := [(3, k30), (18, k30), (27, k37)]
theorem k94_ok (l : Launch) : ckCtrOk l ckMT ckTW ckCL k94 := mt_63 (as := k94_a) (cs := k94_c) (gx := []) (f := 200000) rfl (ckHc (k30_ok l) (ckHc (k30_ok l) (ckHc (k37_ok l) (fun _ h => absurd h List.not_mem_nil)))) True.intro (by decide +kernel)
noncomputable def dT158 : List ckI := [(7, 7), (8, 2147483647), (0, 0), (0, 1), (0, 1), (0, 8), (0, 40), (0, 6), (0, 8), (0, 10), (0, 126000), ckTop, ckTop, ckTop, ckTop, (0, 30), ckTop, ckTop, ckTop, (0, 1), ckTop, (0, 1)]
-- FarMachineModel.box
noncomputable def k95 : ckCtr := (63, ([(0, (1, 0)), (1, (0, 0)), (2, (0, 1)), (3, (0, 2))], [], dC156, dT158, [([(7, ckTop)], [], [])], [], [], [], 0, 0), [([], [(0, 22)], [(1, .inr (0, 0, 1))], [], [], [(-2, -2), ckTop], [([(2, ckTop), (3, ckTop), (7, ckTop)], [(2, 23)], [])], [], [], [], 0, 0)], 2, 101, 0, 0)
noncomputable def k95_a : ckAs := []
noncomputable def k95_c : List (Nat × ckCtr) := [(3, k30), (18, k30), (27, k37)]
theorem k95_ok (l : Launch) : ckCtrOk l ckMT ckTW ckCL k95 := mt_63 (as := k95_a) (cs := k95_c) (gx := []) (f := 200000) rfl (ckHc (k30_ok l) (ckHc (k30_ok l) (ckHc (k37_ok l) (fun _ h => absurd h List.not_mem_nil)))) True.intro (by decide +kernel)
noncomputable def dT159 : List ckI := [(7, 7), (-2147483648, -1), (1, 1), (0, 1), (0, 1), (0, 8), (0, 40), (0, 6), (0, 8), (0, 10), (0, 126000), ckTop, ckTop, ckTop, ckTop, (0, 30), ckTop, ckTop, ckTop, (0, 1), ckTop, (0, 1)]
-- FarMachineModel.box
noncomputable def k96 : ckCtr := (63, ([(0, (1, 0)), (1, (0, 0)), (2, (0, 1)), (3, (0, 2))], [], dC156, dT159, [([(7, ckTop)], [], [])], [], [], [], 0, 0), [([], [(0, 22)], [(1, .inr (0, 0, 1))], [], [], [(-2, -2), ckTop], [([(2, ckTop), (3, ckTop), (7, ckTop)], [(2, 23)], [])], [], [], [], 0, 0)], 2, 101, 0, 0)
noncomputable def k96_a : ckAs := []
noncomputable def k96_c : List (Nat × ckCtr) := [(3, k30), (18, k30), (27, k37)]
theorem k96_ok (l : Launch) : ckCtrOk l ckMT ckTW ckCL k96 := mt_63 (as := k96_a) (cs := k96_c) (gx := []) (f := 200000) rfl (ckHc (k30_ok l) (ckHc (k30_ok l) (ckHc (k37_ok l) (fun _ h => absurd h List.not_mem_nil)))) True.intro (by decide +kernel)
noncomputable def dT160 : List ckI := [(7, 7), (-2147483648, -1), (0, 0), (0, 1), (0, 1), (0, 8), (0, 40), (0, 6), (0, 8), (0, 10), (0, 126000), ckTop, ckTop, ckTop, ckTop, (0, 30), ckTop, ckTop, ckTop, (0, 1), ckTop, (0, 1)]
-- FarMachineModel.box
noncomputable def k97 : ckCtr := (63, ([(0, (1, 0)), (1, (0, 0)), (2, (0, 1)), (3, (0, 2))], [], dC156, dT160, [([(7, ckTop)], [], [])], [], [], [], 0, 0), [([], [(0, 22)], [(1, .inr (0, 0, 1))], [], [], [(-2, -2), ckTop], [([(2, ckTop), (3, ckTop), (7, ckTop)], [(2, 23)], [])], [], [], [], 0, 0)], 2, 101, 0, 0)
noncomputable def k97_a : ckAs := []
noncomputable def k97_c : List (Nat × ckCtr) := [(3, k30), (18, k30), (27, k37)]
theorem k97_ok (l : Launch) : ckCtrOk l ckMT ckTW ckCL k97 := mt_63 (as := k97_a) (cs := k97_c) (gx := []) (f := 200000) rfl (ckHc (k30_ok l) (ckHc (k30_ok l) (ckHc (k37_ok l) (fun _ h => absurd h List.not_mem_nil)))) True.intro (by decide +kernel)
noncomputable def dT161 : List ckI := [(7, 7), (0, 7), (1, 1), (0, 1), (0, 1), (0, 8), (0, 40), (0, 6), (0, 8), (0, 10), (0, 126000), ckTop, ckTop, ckTop, ckTop, (0, 30), ckTop, ckTop, ckTop, (0, 1), ckTop, (0, 1), (318, 318), (1, 99), (0, 126000), ckTop, ckTop, ckTop, ckTop, ckTop, ckTop, ckTop, ckTop]
noncomputable def dG162 : List ckG := [([(48, ckTop), (49, (0, 47)), (50, ckTop), (51, ckTop), (52, ckTop), (54, ckTop), (55, ckTop), (56, ckTop), (57, ckTop), (58, ckTop), (59, ckTop), (60, ckTop), (61, ckTop), (62, ckTop), (63, ckTop), (64, ckTop), (65, ckTop), (66, ckTop), (67, ckTop), (68, (0, 7)), (75, ckTop), (76, (1, 1)), (77, (0, 30)), (197, ckTop), (198, (0, 60)), (318, ckTop)], [(55, 23), (58, 24), (60, 25), (61, 26), (62, 27), (63, 28), (64, 29), (65, 30), (66, 31), (67, 1), (75, 2)], [])]
-- FarMachineModel.box
noncomputable def k98 : ckCtr := (63, ([(0, (1, 0)), (1, (0, 0)), (2, (0, 1)), (3, (0, 2))], [], dC77, dT161, dG79, [], [], [(1, 0, 0, 0, [])], 0, 0), [([], [(0, 32)], [(1, .inr (0, 22, 1))], [], [], [], dG162, [], [], [(1, 1, 0, 0, []), (1, 0, 0, 0, [])], 0, 0)], 2, 101, 0, 0)
noncomputable def k98_a : ckAs := []
noncomputable def k98_c : List (Nat × ckCtr) := [(3, k30), (18, k30)]
theorem k98_ok (l : Launch) : ckCtrOk l ckMT ckTW ckCL k98 := mt_63 (as := k98_a) (cs := k98_c) (gx := []) (f := 200000) rfl (ckHc (k30_ok l) (ckHc (k30_ok l) (fun _ h => absurd h List.not_mem_nil))) True.intro (by decide +kernel)
noncomputable def dT163 : List ckI := [(7, 7), (0, 7), (0, 0), (0, 1), (0, 1), (0, 8), (0, 40), (0, 6), (0, 8), (0, 10), (0, 126000), ckTop, ckTop, ckTop, ckTop, (0, 30), ckTop, ckTop, ckTop, (0, 1), ckTop, (0, 1), (318, 318), (1, 99), (0, 126000), ckTop, ckTop, ckTop, ckTop, ckTop, ckTop, ckTop, ckTop]
noncomputable def dG164 : List ckG := [([(48, ckTop), (49, (0, 47)), (50, ckTop), (51, ckTop), (52, ckTop), (54, ckTop), (55, ckTop), (56, ckTop), (57, ckTop), (58, ckTop), (59, ckTop), (60, ckTop), (61, ckTop), (62, ckTop), (63, ckTop), (64, ckTop), (65, ckTop), (66, ckTop), (67, ckTop), (68, (0, 7)), (75, ckTop), (76, (0, 0)), (77, (0, 30)), (197, ckTop), (198, (0, 60)), (318, ckTop)], [(55, 23), (58, 24), (60, 25), (61, 26), (62, 27), (63, 28), (64, 29), (65, 30), (66, 31), (67, 1), (75, 2)], [])]
-- FarMachineModel.box
noncomputable def k99 : ckCtr := (63, ([(0, (1, 0)), (1, (0, 0)), (2, (0, 1)), (3, (0, 2))], [], dC77, dT163, dG79, [], [], [(1, 0, 0, 0, [])], 0, 0), [([], [(0, 32)], [(1, .inr (0, 22, 1))], [], [], [], dG164, [], [], [(1, 1, 0, 0, []), (1, 0, 0, 0, [])], 0, 0)], 2, 101, 0, 0)
noncomputable def k99_a : ckAs := []
noncomputable def k99_c : List (Nat × ckCtr) := [(3, k30), (18, k30)]
theorem k99_ok (l : Launch) : ckCtrOk l ckMT ckTW ckCL k99 := mt_63 (as := k99_a) (cs := k99_c) (gx := []) (f := 200000) rfl (ckHc (k30_ok l) (ckHc (k30_ok l) (fun _ h => absurd h List.not_mem_nil))) True.intro (by decide +kernel)
