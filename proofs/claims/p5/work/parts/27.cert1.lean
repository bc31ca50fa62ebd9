/-! THE CHECKER: contracts with their certificates (printed by wip/gen2/p16gen.py) -/
noncomputable def dT93 : List ckI := [(2, 2), (100, 2147483647), (0, 1), (0, 1), (0, 8), (0, 40), (0, 6), (0, 8), (0, 10), (0, 126000), ckTop, ckTop, ckTop, ckTop, (0, 30), ckTop, ckTop, ckTop, (0, 1), ckTop, (0, 1), (7, 7)]
-- FarMachineModel.set
noncomputable def k52 : ckCtr := (64, ([(0, (1, 0)), (1, (0, 0)), (2, (0, 1))], [], dC69, dT93, [([(7, ckTop)], [], [])], [], [], [], 0, 0), [([], [(0, 22)], [(1, .inr (0, 21, 1))], [], [], [(-6, -6), ckTop], [([(6, ckTop), (7, ckTop)], [(6, 23)], [])], [], [], [], 0, 0)], 2, 102, 0, 0)
noncomputable def k52_a : ckAs := []
noncomputable def k52_c : List (Nat × ckCtr) := [(83, k50), (156, k23)]
theorem k52_ok (l : Launch) : ckCtrOk l ckMT ckTW ckCL k52 := mt_64 (as := k52_a) (cs := k52_c) (gx := []) (f := 200000) rfl (ckHc (k50_ok l) (ckHc (k23_ok l) (fun _ h => absurd h List.not_mem_nil))) True.intro (by decide +kernel)
noncomputable def dT94 : List ckI := [(2, 2), (-2147483648, -1), (0, 1), (0, 1), (0, 8), (0, 40), (0, 6), (0, 8), (0, 10), (0, 126000), ckTop, ckTop, ckTop, ckTop, (0, 30), ckTop, ckTop, ckTop, (0, 1), ckTop, (0, 1), (7, 7)]
-- FarMachineModel.set
noncomputable def k53 : ckCtr := (64, ([(0, (1, 0)), (1, (0, 0)), (2, (0, 1))], [], dC69, dT94, [([(7, ckTop)], [], [])], [], [], [], 0, 0), [([], [(0, 22)], [(1, .inr (0, 21, 1))], [], [], [(-4, -4), ckTop], [([(4, ckTop), (5, ckTop), (7, ckTop)], [(4, 23)], [])], [], [], [], 0, 0)], 2, 102, 0, 0)
noncomputable def k53_a : ckAs := []
noncomputable def k53_c : List (Nat × ckCtr) := [(83, k50), (156, k24)]
theorem k53_ok (l : Launch) : ckCtrOk l ckMT ckTW ckCL k53 := mt_64 (as := k53_a) (cs := k53_c) (gx := []) (f := 200000) rfl (ckHc (k50_ok l) (ckHc (k24_ok l) (fun _ h => absurd h List.not_mem_nil))) True.intro (by decide +kernel)
noncomputable def dT95 : List ckI := [(3, 3), ckTop, (0, 1), (0, 1), (7, 7), ckTop, ckTop, ckTop, ckTop, ckTop, ckTop, ckTop, ckTop, ckTop, ckTop, ckTop, ckTop, ckTop]
-- FarMachine.set
noncomputable def k54 : ckCtr := (4, ([(0, (1, 0)), (1, (0, 0)), (2, (0, 1))], [], dC74, dT95, [([(7, ckTop)], [], [])], [], [], [], 0, 0), [([], [(0, 18)], [(2, .inr (0, 4, 1))], [], [(1, (-2147483648, -1))], [(-4, -4), ckTop], [([(4, ckTop), (5, ckTop), (7, ckTop)], [(4, 19)], [])], [], [], [], 0, 0), ([], [(0, 18)], [(2, .inr (0, 4, 1))], [], [(1, (100, 2147483647))], [(-6, -6), ckTop], [([(6, ckTop), (7, ckTop)], [(6, 19)], [])], [], [], [], 0, 0), ([], [(0, 18)], dP76, [], [(1, (0, 99))], dT77, [], [], [], [], 0, 0)], 2, 102, 0, 0)
noncomputable def k54_a : ckAs := []
noncomputable def k54_c : List (Nat × ckCtr) := [(39, k15), (55, k16), (68, k38)]
theorem k54_ok (l : Launch) : ckCtrOk l ckMT ckTW ckCL k54 := mt_4 (as := k54_a) (cs := k54_c) (gx := []) (f := 200000) rfl (ckHc (k15_ok l) (ckHc (k16_ok l) (ckHc (k38_ok l) (fun _ h => absurd h List.not_mem_nil)))) True.intro (by decide +kernel)
noncomputable def dT96 : List ckI := [(3, 3), (0, 99), (0, 1), (0, 1), (0, 8), (0, 40), (0, 6), (0, 8), (0, 10), (0, 126000), ckTop, ckTop, ckTop, ckTop, (0, 30), ckTop, ckTop, ckTop, (0, 1), ckTop, (0, 1), (318, 318), (1, 99), (0, 126000)]
noncomputable def dG97 : List ckG := [([(48, ckTop), (49, (0, 47)), (50, ckTop), (51, ckTop), (52, (0, 99)), (54, ckTop), (55, ckTop), (56, ckTop), (57, ckTop), (58, ckTop), (59, ckTop), (76, ckTop), (77, (0, 30)), (197, ckTop), (198, (0, 60)), (318, ckTop)], [(51, 1), (55, 22), (58, 23)], [])]
-- FarMachineModel.set
noncomputable def k55 : ckCtr := (64, ([(0, (1, 0)), (1, (0, 0)), (2, (0, 1))], [], dC78, dT96, dG80, [], [], [(1, 0, 0, 0, [])], 0, 0), [([], [(0, 24)], [(1, .inr (0, 21, 1))], [], [], [(1, 1)], dG97, [], [], [(1, 1, 0, 0, []), (1, 0, 0, 0, [])], 0, 0)], 2, 102, 0, 0)
noncomputable def k55_a : ckAs := []
noncomputable def k55_c : List (Nat × ckCtr) := [(83, k50)]
theorem k55_ok (l : Launch) : ckCtrOk l ckMT ckTW ckCL k55 := mt_64 (as := k55_a) (cs := k55_c) (gx := []) (f := 200000) rfl (ckHc (k50_ok l) (fun _ h => absurd h List.not_mem_nil)) True.intro (by decide +kernel)
noncomputable def dT98 : List ckI := [(3, 3), (100, 2147483647), (0, 1), (0, 1), (0, 8), (0, 40), (0, 6), (0, 8), (0, 10), (0, 126000), ckTop, ckTop, ckTop, ckTop, (0, 30), ckTop, ckTop, ckTop, (0, 1), ckTop, (0, 1), (7, 7)]
-- FarMachineModel.set
noncomputable def k56 : ckCtr := (64, ([(0, (1, 0)), (1, (0, 0)), (2, (0, 1))], [], dC69, dT98, [([(7, ckTop)], [], [])], [], [], [], 0, 0), [([], [(0, 22)], [(1, .inr (0, 21, 1))], [], [], [(-6, -6), ckTop], [([(6, ckTop), (7, ckTop)], [(6, 23)], [])], [], [], [], 0, 0)], 2, 102, 0, 0)
noncomputable def k56_a : ckAs := []
noncomputable def k56_c : List (Nat × ckCtr) := [(83, k50), (156, k23)]
theorem k56_ok (l : Launch) : ckCtrOk l ckMT ckTW ckCL k56 := mt_64 (as := k56_a) (cs := k56_c) (gx := []) (f := 200000) rfl (ckHc (k50_ok l) (ckHc (k23_ok l) (fun _ h => absurd h List.not_mem_nil))) True.intro (by decide +kernel)
noncomputable def dT99 : List ckI := [(3, 3), (-2147483648, -1), (0, 1), (0, 1), (0, 8), (0, 40), (0, 6), (0, 8), (0, 10), (0, 126000), ckTop, ckTop, ckTop, ckTop, (0, 30), ckTop, ckTop, ckTop, (0, 1), ckTop, (0, 1), (7, 7)]
-- FarMachineModel.set
noncomputable def k57 : ckCtr := (64, ([(0, (1, 0)), (1, (0, 0)), (2, (0, 1))], [], dC69, dT99, [([(7, ckTop)], [], [])], [], [], [], 0, 0), [([], [(0, 22)], [(1, .inr (0, 21, 1))], [], [], [(-4, -4), ckTop], [([(4, ckTop), (5, ckTop), (7, ckTop)], [(4, 23)], [])], [], [], [], 0, 0)], 2, 102, 0, 0)
noncomputable def k57_a : ckAs := []
noncomputable def k57_c : List (Nat × ckCtr) := [(83, k50), (156, k24)]
theorem k57_ok (l : Launch) : ckCtrOk l ckMT ckTW ckCL k57 := mt_64 (as := k57_a) (cs := k57_c) (gx := []) (f := 200000) rfl (ckHc (k50_ok l) (ckHc (k24_ok l) (fun _ h => absurd h List.not_mem_nil))) True.intro (by decide +kernel)
noncomputable def dT100 : List ckI := [(4, 4), ckTop, (0, 1), (0, 1), (7, 7), ckTop, ckTop, ckTop, ckTop, ckTop, ckTop, ckTop, ckTop, ckTop, ckTop, ckTop, ckTop, ckTop]
-- FarMachine.set
noncomputable def k58 : ckCtr := (4, ([(0, (1, 0)), (1, (0, 0)), (2, (0, 1))], [], dC74, dT100, [([(7, ckTop)], [], [])], [], [], [], 0, 0), [([], [(0, 18)], [(2, .inr (0, 4, 1))], [], [(1, (-2147483648, -21))], [(-4, -4), ckTop], [([(4, ckTop), (5, ckTop), (7, ckTop)], [(4, 19)], [])], [], [], [], 0, 0), ([], [(0, 18)], [(2, .inr (0, 4, 1))], [], [(1, (21, 2147483647))], [(-6, -6), ckTop], [([(6, ckTop), (7, ckTop)], [(6, 19)], [])], [], [], [], 0, 0), ([], [(0, 18)], dP76, [], [(1, (-20, 20))], dT77, [], [], [], [], 0, 0)], 2, 102, 0, 0)
noncomputable def k58_a : ckAs := []
noncomputable def k58_c : List (Nat × ckCtr) := [(39, k15), (55, k16), (68, k38)]
theorem k58_ok (l : Launch) : ckCtrOk l ckMT ckTW ckCL k58 := mt_4 (as := k58_a) (cs := k58_c) (gx := []) (f := 200000) rfl (ckHc (k15_ok l) (ckHc (k16_ok l) (ckHc (k38_ok l) (fun _ h => absurd h List.not_mem_nil)))) True.intro (by decide +kernel)
-- FarMachineModel.within
noncomputable def k59 : ckCtr := (46, ([(0, (0, 0)), (1, (0, 1)), (2, (0, 2))], [], [], [ckTop, (-20, -20), (20, 20)], [], [], [], [], 0, 0), [([], [(0, 3)], [], [], [(0, (-2147483648, -21))], [(-4, -4)], [], [], [], [], 0, 0), ([], [(0, 3)], [], [], [(0, (21, 2147483647))], [(-6, -6)], [], [], [], [], 0, 0), ([], [(0, 3)], [], [], [(0, (-20, 20))], [(0, 0)], [], [], [], [], 0, 0)], 1, 80, 0, 0)
noncomputable def k59_a : ckAs := []
noncomputable def k59_c : List (Nat × ckCtr) := []
theorem k59_ok (l : Launch) : ckCtrOk l ckMT ckTW ckCL k59 := mt_46 (as := k59_a) (cs := k59_c) (gx := []) (f := 200000) rfl (fun _ h => absurd h List.not_mem_nil) True.intro (by decide +kernel)
noncomputable def dT101 : List ckI := [(4, 4), (-20, 20), (0, 1), (0, 1), (0, 8), (0, 40), (0, 6), (0, 8), (0, 10), (0, 126000), ckTop, ckTop, ckTop, ckTop, (0, 30), ckTop, ckTop, ckTop, (0, 1), ckTop, (0, 1), (318, 318), (1, 99), (0, 126000)]
noncomputable def dG102 : List ckG := [([(48, ckTop), (49, (0, 47)), (50, ckTop), (51, ckTop), (52, ckTop), (53, (-20, 20)), (54, ckTop), (55, ckTop), (56, ckTop), (57, ckTop), (58, ckTop), (59, ckTop), (76, ckTop), (77, (0, 30)), (197, ckTop), (198, (0, 60)), (318, ckTop)], [(52, 1), (55, 22), (58, 23)], [])]
-- FarMachineModel.set
noncomputable def k60 : ckCtr := (64, ([(0, (1, 0)), (1, (0, 0)), (2, (0, 1))], [], dC78, dT101, dG80, [], [], [(1, 0, 0, 0, [])], 0, 0), [([], [(0, 24)], [(1, .inr (0, 21, 1))], [], [], [(1, 1)], dG102, [], [], [(1, 1, 0, 0, []), (1, 0, 0, 0, [])], 0, 0)], 2, 102, 0, 0)
noncomputable def k60_a : ckAs := []
noncomputable def k60_c : List (Nat × ckCtr) := [(95, k59)]
theorem k60_ok (l : Launch) : ckCtrOk l ckMT ckTW ckCL k60 := mt_64 (as := k60_a) (cs := k60_c) (gx := []) (f := 200000) rfl (ckHc (k59_ok l) (fun _ h => absurd h List.not_mem_nil)) True.intro (by decide +kernel)
noncomputable def dT103 : List ckI := [(4, 4), (21, 2147483647), (0, 1), (0, 1), (0, 8), (0, 40), (0, 6), (0, 8), (0, 10), (0, 126000), ckTop, ckTop, ckTop, ckTop, (0, 30), ckTop, ckTop, ckTop, (0, 1), ckTop, (0, 1), (7, 7)]
-- FarMachineModel.set
noncomputable def k61 : ckCtr := (64, ([(0, (1, 0)), (1, (0, 0)), (2, (0, 1))], [], dC69, dT103, [([(7, ckTop)], [], [])], [], [], [], 0, 0), [([], [(0, 22)], [(1, .inr (0, 21, 1))], [], [], [(-6, -6), ckTop], [([(6, ckTop), (7, ckTop)], [(6, 23)], [])], [], [], [], 0, 0)], 2, 102, 0, 0)
noncomputable def k61_a : ckAs := []
noncomputable def k61_c : List (Nat × ckCtr) := [(95, k59), (156, k23)]
theorem k61_ok (l : Launch) : ckCtrOk l ckMT ckTW ckCL k61 := mt_64 (as := k61_a) (cs := k61_c) (gx := []) (f := 200000) rfl (ckHc (k59_ok l) (ckHc (k23_ok l) (fun _ h => absurd h List.not_mem_nil))) True.intro (by decide +kernel)
noncomputable def dT104 : List ckI := [(4, 4), (-2147483648, -21), (0, 1), (0, 1), (0, 8), (0, 40), (0, 6), (0, 8), (0, 10), (0, 126000), ckTop, ckTop, ckTop, ckTop, (0, 30), ckTop, ckTop, ckTop, (0, 1), ckTop, (0, 1), (7, 7)]
-- FarMachineModel.set
noncomputable def k62 : ckCtr := (64, ([(0, (1, 0)), (1, (0, 0)), (2, (0, 1))], [], dC69, dT104, [([(7, ckTop)], [], [])], [], [], [], 0, 0), [([], [(0, 22)], [(1, .inr (0, 21, 1))], [], [], [(-4, -4), ckTop], [([(4, ckTop), (5, ckTop), (7, ckTop)], [(4, 23)], [])], [], [], [], 0, 0)], 2, 102, 0, 0)
noncomputable def k62_a : ckAs := []
noncomputable def k62_c : List (Nat × ckCtr) := [(95, k59), (156, k24)]
theorem k62_ok (l : Launch) : ckCtrOk l ckMT ckTW ckCL k62 := mt_64 (as := k62_a) (cs := k62_c) (gx := []) (f := 200000) rfl (ckHc (k59_ok l) (ckHc (k24_ok l) (fun _ h => absurd h List.not_mem_nil))) True.intro (by decide +kernel)
noncomputable def dT105 : List ckI := [(5, 5), ckTop, (0, 1), (0, 1), (7, 7), ckTop, ckTop, ckTop, ckTop, ckTop, ckTop, ckTop, ckTop, ckTop, ckTop, ckTop, ckTop, ckTop]
-- FarMachine.set
noncomputable def k63 : ckCtr := (4, ([(0, (1, 0)), (1, (0, 0)), (2, (0, 1))], [], dC74, dT105, [([(7, ckTop)], [], [])], [], [], [], 0, 0), [([], [(0, 18)], [(2, .inr (0, 4, 1))], [], [(1, (-2147483648, -1))], [(-4, -4), ckTop], [([(4, ckTop), (5, ckTop), (7, ckTop)], [(4, 19)], [])], [], [], [], 0, 0), ([], [(0, 18)], [(2, .inr (0, 4, 1))], [], [(1, (32, 2147483647))], [(-6, -6), ckTop], [([(6, ckTop), (7, ckTop)], [(6, 19)], [])], [], [], [], 0, 0), ([], [(0, 18)], dP76, [], [(1, (0, 31))], dT77, [], [], [], [], 0, 0)], 2, 102, 0, 0)
noncomputable def k63_a : ckAs := []
noncomputable def k63_c : List (Nat × ckCtr) := [(39, k15), (55, k16), (68, k38)]
theorem k63_ok (l : Launch) : ckCtrOk l ckMT ckTW ckCL k63 := mt_4 (as := k63_a) (cs := k63_c) (gx := []) (f := 200000) rfl (ckHc (k15_ok l) (ckHc (k16_ok l) (ckHc (k38_ok l) (fun _ h => absurd h List.not_mem_nil)))) True.intro (by decide +kernel)
-- FarMachineModel.within
noncomputable def k64 : ckCtr := (46, ([(0, (0, 0)), (1, (0, 1)), (2, (0, 2))], [], [], [ckTop, (0, 0), (31, 31)], [], [], [], [], 0, 0), [([], [(0, 3)], [], [], [(0, (-2147483648, -1))], [(-4, -4)], [], [], [], [], 0, 0), ([], [(0, 3)], [], [], [(0, (32, 2147483647))], [(-6, -6)], [], [], [], [], 0, 0), ([], [(0, 1)], [], [], [(0, (0, 31))], [], [], [], [], [], 0, 0)], 1, 80, 0, 0)
noncomputable def k64_a : ckAs := []
noncomputable def k64_c : List (Nat × ckCtr) := []
theorem k64_ok (l : Launch) : ckCtrOk l ckMT ckTW ckCL k64 := mt_46 (as := k64_a) (cs := k64_c) (gx := []) (f := 200000) rfl (fun _ h => absurd h List.not_mem_nil) True.intro (by decide +kernel)
noncomputable def dT106 : List ckI := [(5, 5), (0, 31), (0, 1), (0, 1), (0, 8), (0, 40), (0, 6), (0, 8), (0, 10), (0, 126000), ckTop, ckTop, ckTop, ckTop, (0, 30), ckTop, ckTop, ckTop, (0, 1), ckTop, (0, 1), (318, 318), (1, 99), (0, 126000)]
noncomputable def dG107 : List ckG := [([(48, ckTop), (49, (0, 47)), (50, ckTop), (51, ckTop), (52, ckTop), (53, ckTop), (54, (0, 31)), (55, ckTop), (56, ckTop), (57, ckTop), (58, ckTop), (59, ckTop), (76, ckTop), (77, (0, 30)), (197, ckTop), (198, (0, 60)), (318, ckTop)], [(53, 1), (55, 22), (58, 23)], [])]
-- FarMachineModel.set
noncomputable def k65 : ckCtr := (64, ([(0, (1, 0)), (1, (0, 0)), (2, (0, 1))], [], dC78, dT106, dG80, [], [], [(1, 0, 0, 0, [])], 0, 0), [([], [(0, 24)], [(1, .inr (0, 21, 1))], [], [], [(1, 1)], dG107, [], [], [(1, 1, 0, 0, []), (1, 0, 0, 0, [])], 0, 0)], 2, 102, 0, 0)
noncomputable def k65_a : ckAs := []
noncomputable def k65_c : List (Nat × ckCtr) := [(106, k64)]
theorem k65_ok (l : Launch) : ckCtrOk l ckMT ckTW ckCL k65 := mt_64 (as := k65_a) (cs := k65_c) (gx := []) (f := 200000) rfl (ckHc (k64_ok l) (fun _ h => absurd h List.not_mem_nil)) True.intro (by decide +kernel)
noncomputable def dT108 : List ckI := [(5, 5), (32, 2147483647), (0, 1), (0, 1), (0, 8), (0, 40), (0, 6), (0, 8), (0, 10), (0, 126000), ckTop, ckTop, ckTop, ckTop, (0, 30), ckTop, ckTop, ckTop, (0, 1), ckTop, (0, 1), (7, 7)]
-- FarMachineModel.set
noncomputable def k66 : ckCtr := (64, ([(0, (1, 0)), (1, (0, 0)), (2, (0, 1))], [], dC69, dT108, [([(7, ckTop)], [], [])], [], [], [], 0, 0), [([], [(0, 22)], [(1, .inr (0, 21, 1))], [], [], [(-6, -6), ckTop], [([(6, ckTop), (7, ckTop)], [(6, 23)], [])], [], [], [], 0, 0)], 2, 102, 0, 0)
noncomputable def k66_a : ckAs := []
noncomputable def k66_c : List (Nat × ckCtr) := [(106, k64), (156, k23)]
theorem k66_ok (l : Launch) : ckCtrOk l ckMT ckTW ckCL k66 := mt_64 (as := k66_a) (cs := k66_c) (gx := []) (f := 200000) rfl (ckHc (k64_ok l) (ckHc (k23_ok l) (fun _ h => absurd h List.not_mem_nil))) True.intro (by decide +kernel)
noncomputable def dT109 : List ckI := [(5, 5), (-2147483648, -1), (0, 1), (0, 1), (0, 8), (0, 40), (0, 6), (0, 8), (0, 10), (0, 126000), ckTop, ckTop, ckTop, ckTop, (0, 30), ckTop, ckTop, ckTop, (0, 1), ckTop, (0, 1), (7, 7)]
-- FarMachineModel.set
noncomputable def k67 : ckCtr := (64, ([(0, (1, 0)), (1, (0, 0)), (2, (0, 1))], [], dC69, dT109, [([(7, ckTop)], [], [])], [], [], [], 0, 0), [([], [(0, 22)], [(1, .inr (0, 21, 1))], [], [], [(-4, -4), ckTop], [([(4, ckTop), (5, ckTop), (7, ckTop)], [(4, 23)], [])], [], [], [], 0, 0)], 2, 102, 0, 0)
noncomputable def k67_a : ckAs := []
noncomputable def k67_c : List (Nat × ckCtr) := [(106, k64), (156, k24)]
theorem k67_ok (l : Launch) : ckCtrOk l ckMT ckTW ckCL k67 := mt_64 (as := k67_a) (cs := k67_c) (gx := []) (f := 200000) rfl (ckHc (k64_ok l) (ckHc (k24_ok l) (fun _ h => absurd h List.not_mem_nil))) True.intro (by decide +kernel)
noncomputable def dT110 : List ckI := [(6, 6), ckTop, (0, 1), (0, 1), (7, 7), ckTop, ckTop, ckTop, ckTop, ckTop, ckTop, ckTop, ckTop, ckTop, ckTop, ckTop, ckTop, ckTop]
-- FarMachine.set
noncomputable def k68 : ckCtr := (4, ([(0, (1, 0)), (1, (0, 0)), (2, (0, 1))], [], dC74, dT110, [([(7, ckTop)], [], [])], [], [], [], 0, 0), [([], [(0, 18)], [(2, .inr (0, 4, 1))], [], [(1, (-2147483648, -1))], [(-4, -4), ckTop], [([(4, ckTop), (5, ckTop), (7, ckTop)], [(4, 19)], [])], [], [], [], 0, 0), ([], [(0, 18)], [(2, .inr (0, 4, 1))], [], [(1, (100, 2147483647))], [(-6, -6), ckTop], [([(6, ckTop), (7, ckTop)], [(6, 19)], [])], [], [], [], 0, 0), ([], [(0, 18)], dP76, [], [(1, (0, 99))], dT77, [], [], [], [], 0, 0)], 2, 102, 0, 0)
noncomputable def k68_a : ckAs := []
noncomputable def k68_c : List (Nat × ckCtr) := [(39, k15), (55, k16), (68, k38)]
theorem k68_ok (l : Launch) : ckCtrOk l ckMT ckTW ckCL k68 := mt_4 (as := k68_a) (cs := k68_c) (gx := []) (f := 200000) rfl (ckHc (k15_ok l) (ckHc (k16_ok l) (ckHc (k38_ok l) (fun _ h => absurd h List.not_mem_nil)))) True.intro (by decide +kernel)
noncomputable def dT111 : List ckI := [(6, 6), (0, 99), (0, 1), (0, 1), (0, 8), (0, 40), (0, 6), (0, 8), (0, 10), (0, 126000), ckTop, ckTop, ckTop, ckTop, (0, 30), ckTop, ckTop, ckTop, (0, 1), ckTop, (0, 1), (318, 318), (1, 99), (0, 126000)]
noncomputable def dG112 : List ckG := [([(48, ckTop), (49, (0, 47)), (50, ckTop), (51, ckTop), (52, ckTop), (54, ckTop), (55, (0, 99)), (56, ckTop), (57, ckTop), (58, ckTop), (59, ckTop), (76, ckTop), (77, (0, 30)), (197, ckTop), (198, (0, 60)), (318, ckTop)], [(54, 1), (55, 22), (58, 23)], [])]
-- FarMachineModel.set
noncomputable def k69 : ckCtr := (64, ([(0, (1, 0)), (1, (0, 0)), (2, (0, 1))], [], dC78, dT111, dG80, [], [], [(1, 0, 0, 0, [])], 0, 0), [([], [(0, 24)], [(1, .inr (0, 21, 1))], [], [], [(1, 1)], dG112, [], [], [(1, 1, 0, 0, []), (1, 0, 0, 0, [])], 0, 0)], 2, 102, 0, 0)
noncomputable def k69_a : ckAs := []
noncomputable def k69_c : List (Nat × ckCtr) := [(83, k50)]
theorem k69_ok (l : Launch) : ckCtrOk l ckMT ckTW ckCL k69 := mt_64 (as := k69_a) (cs := k69_c) (gx := []) (f := 200000) rfl (ckHc (k50_ok l) (fun _ h => absurd h List.not_mem_nil)) True.intro (by decide +kernel)
noncomputable def dT113 : List ckI := [(6, 6), (100, 2147483647), (0, 1), (0, 1), (0, 8), (0, 40), (0, 6), (0, 8), (0, 10), (0, 126000), ckTop, ckTop, ckTop, ckTop, (0, 30), ckTop, ckTop, ckTop, (0, 1), ckTop, (0, 1), (7, 7)]
-- FarMachineModel.set
noncomputable def k70 : ckCtr := (64, ([(0, (1, 0)), (1, (0, 0)), (2, (0, 1))], [], dC69, dT113, [([(7, ckTop)], [], [])], [], [], [], 0, 0), [([], [(0, 22)], [(1, .inr (0, 21, 1))], [], [], [(-6, -6), ckTop], [([(6, ckTop), (7, ckTop)], [(6, 23)], [])], [], [], [], 0, 0)], 2, 102, 0, 0)
noncomputable def k70_a : ckAs := []
noncomputable def k70_c : List (Nat × ckCtr) := [(83, k50), (156, k23)]
theorem k70_ok (l : Launch) : ckCtrOk l ckMT ckTW ckCL k70 := mt_64 (as := k70_a) (cs := k70_c) (gx := []) (f := 200000) rfl (ckHc (k50_ok l) (ckHc (k23_ok l) (fun _ h => absurd h List.not_mem_nil))) True.intro (by decide +kernel)
noncomputable def dT114 : List ckI := [(6, 6), (-2147483648, -1), (0, 1), (0, 1), (0, 8), (0, 40), (0, 6), (0, 8), (0, 10), (0, 126000), ckTop, ckTop, ckTop, ckTop, (0, 30), ckTop, ckTop, ckTop, (0, 1), ckTop, (0, 1), (7, 7)]
-- FarMachineModel.set
noncomputable def k71 : ckCtr := (64, ([(0, (1, 0)), (1, (0, 0)), (2, (0, 1))], [], dC69, dT114, [([(7, ckTop)], [], [])], [], [], [], 0, 0), [([], [(0, 22)], [(1, .inr (0, 21, 1))], [], [], [(-4, -4), ckTop], [([(4, ckTop), (5, ckTop), (7, ckTop)], [(4, 23)], [])], [], [], [], 0, 0)], 2, 102, 0, 0)
noncomputable def k71_a : ckAs := []
noncomputable def k71_c : List (Nat × ckCtr) := [(83, k50), (156, k24)]
theorem k71_ok (l : Launch) : ckCtrOk l ckMT ckTW ckCL k71 := mt_64 (as := k71_a) (cs := k71_c) (gx := []) (f := 200000) rfl (ckHc (k50_ok l) (ckHc (k24_ok l) (fun _ h => absurd h List.not_mem_nil))) True.intro (by decide +kernel)
noncomputable def dC115 : List ckC := [.inl (8, [(1, 1), (4, 10), (0, 2), (4, 11), (4, 12), (4, 13), (4, 14), (1, 2)]), .inl (7, [(1, 3), (4, 15), (0, 3), (4, 16), (4, 17), (4, 18), (4, 19), (4, 20), (4, 21), (4, 22)]), .inr (0, 0, 0), .inl (2, [(4, 23), (4, 24), (4, 25), (0, 4), (0, 5), (0, 6), (0, 7), (0, 8), (0, 9), (0, 10), (0, 11), (0, 12), (0, 13), (0, 14), (0, 15), (0, 16)])]
noncomputable def dT116 : List ckI := [(7, 7), ckTop, (0, 1), (0, 1), ckTop, ckTop, ckTop, ckTop, ckTop, ckTop, ckTop, ckTop, ckTop, ckTop, ckTop, ckTop, ckTop]
noncomputable def dP117 : List (Nat × ckC) := [(3, .inl (2, [(4, 23), (4, 24), (4, 25), (0, 4), (0, 18), (0, 19), (0, 20), (0, 21), (0, 22), (0, 23), (0, 24), (0, 25), (0, 26), (0, 27), (0, 15), (0, 16)]))]
-- FarMachine.set
noncomputable def k72 : ckCtr := (4, ([(0, (1, 0)), (1, (0, 0)), (2, (0, 1))], [], dC115, dT116, [([(7, ckTop)], [], [])], [], [], [], 0, 0), [([], [(0, 17)], [(2, .inr (0, 0, 1))], [], [(1, (-2147483648, 0))], [(-4, -4), ckTop], [([(4, ckTop), (5, ckTop), (7, ckTop)], [(4, 18)], [])], [], [], [], 0, 0), ([], [(0, 17)], [(2, .inr (0, 0, 1))], [], [(1, (100, 2147483647))], [(-6, -6), ckTop], [([(6, ckTop), (7, ckTop)], [(6, 18)], [])], [], [], [], 0, 0), ([], [(0, 17)], dP117, [], [(1, (1, 99))], dT77, [], [], [], [], 0, 0)], 2, 102, 0, 0)
noncomputable def k72_a : ckAs := []
noncomputable def k72_c : List (Nat × ckCtr) := [(39, k15), (55, k16), (68, k38)]
theorem k72_ok (l : Launch) : ckCtrOk l ckMT ckTW ckCL k72 := mt_4 (as := k72_a) (cs := k72_c) (gx := []) (f := 200000) rfl (ckHc (k15_ok l) (ckHc (k16_ok l) (ckHc (k38_ok l) (fun _ h => absurd h List.not_mem_nil)))) True.intro (by decide +kernel)
-- FarMachineModel.within
noncomputable def k73 : ckCtr := (46, ([(0, (0, 0)), (1, (0, 1)), (2, (0, 2))], [], [], [ckTop, (1, 1), (99, 99)], [], [], [], [], 0, 0), [([], [(0, 3)], [], [], [(0, (-2147483648, 0))], [(-4, -4)], [], [], [], [], 0, 0), ([], [(0, 3)], [], [], [(0, (100, 2147483647))], [(-6, -6)], [], [], [], [], 0, 0), ([], [(0, 3)], [], [], [(0, (1, 99))], [(0, 0)], [], [], [], [], 0, 0)], 1, 80, 0, 0)
noncomputable def k73_a : ckAs := []
noncomputable def k73_c : List (Nat × ckCtr) := []
theorem k73_ok (l : Launch) : ckCtrOk l ckMT ckTW ckCL k73 := mt_46 (as := k73_a) (cs := k73_c) (gx := []) (f := 200000) rfl (fun _ h => absurd h List.not_mem_nil) True.intro (by decide +kernel)
noncomputable def dT118 : List ckI := [(7, 7), (1, 99), (0, 1), (0, 1), (0, 8), (0, 40), (0, 6), (0, 8), (0, 10), (0, 126000), ckTop, ckTop, ckTop, ckTop, (0, 30), ckTop, ckTop, ckTop, (0, 1), ckTop, (0, 1), (318, 318), (1, 99), (0, 126000)]
noncomputable def dG119 : List ckG := [([(48, ckTop), (49, (0, 47)), (50, ckTop), (51, ckTop), (52, ckTop), (54, ckTop), (55, ckTop), (56, (1, 99)), (57, ckTop), (58, ckTop), (59, ckTop), (76, ckTop), (77, (0, 30)), (197, ckTop), (198, (0, 60)), (318, ckTop)], [(55, 1), (58, 23)], [])]
-- FarMachineModel.set
noncomputable def k74 : ckCtr := (64, ([(0, (1, 0)), (1, (0, 0)), (2, (0, 1))], [], dC78, dT118, dG80, [], [], [(1, 0, 0, 0, [])], 0, 0), [([], [(0, 24)], [(1, .inr (0, 21, 1))], [], [], [(1, 1)], dG119, [], [], [(1, 1, 0, 0, []), (1, 0, 0, 0, [])], 0, 0)], 2, 102, 0, 0)
noncomputable def k74_a : ckAs := []
noncomputable def k74_c : List (Nat × ckCtr) := [(117, k73)]
theorem k74_ok (l : Launch) : ckCtrOk l ckMT ckTW ckCL k74 := mt_64 (as := k74_a) (cs := k74_c) (gx := []) (f := 200000) rfl (ckHc (k73_ok l) (fun _ h => absurd h List.not_mem_nil)) True.intro (by decide +kernel)
noncomputable def dC120 : List ckC := [.inl (9, [(1, 1), (4, 10), (4, 11), (4, 12), (4, 13), (4, 14), (4, 15), (4, 16), (4, 17), (4, 18), (4, 19), (4, 20), (4, 21), (4, 22), (4, 23), (4, 24), (0, 2), (0, 3), (0, 4), (0, 5), (0, 6), (0, 7), (0, 8), (4, 25), (0, 9), (4, 26), (0, 10), (0, 11), (0, 12), (0, 13), (4, 27), (0, 14), (0, 15), (0, 16), (0, 17), (5, 0), (5, 0), (0, 18), (4, 28), (4, 29), (0, 19), (0, 20)]), .inr (0, 0, 0)]
noncomputable def dT121 : List ckI := [(7, 7), (100, 2147483647), (0, 1), (0, 1), (0, 8), (0, 40), (0, 6), (0, 8), (0, 10), (0, 126000), ckTop, ckTop, ckTop, ckTop, (0, 30), ckTop, ckTop, ckTop, (0, 1), ckTop, (0, 1)]
-- FarMachineModel.set
noncomputable def k75 : ckCtr := (64, ([(0, (1, 0)), (1, (0, 0)), (2, (0, 1))], [], dC120, dT121, [([(7, ckTop)], [], [])], [], [], [], 0, 0), [([], [(0, 21)], [(1, .inr (0, 0, 1))], [], [], [(-6, -6), ckTop], [([(6, ckTop), (7, ckTop)], [(6, 22)], [])], [], [], [], 0, 0)], 2, 102, 0, 0)
noncomputable def k75_a : ckAs := []
noncomputable def k75_c : List (Nat × ckCtr) := [(117, k73), (156, k23)]
theorem k75_ok (l : Launch) : ckCtrOk l ckMT ckTW ckCL k75 := mt_64 (as := k75_a) (cs := k75_c) (gx := []) (f := 200000) rfl (ckHc (k73_ok l) (ckHc (k23_ok l) (fun _ h => absurd h List.not_mem_nil))) True.intro (by decide +kernel)
noncomputable def dT122 : List ckI := [(7, 7), (-2147483648, 0), (0, 1), (0, 1), (0, 8), (0, 40), (0, 6), (0, 8), (0, 10), (0, 126000), ckTop, ckTop, ckTop, ckTop, (0, 30), ckTop, ckTop, ckTop, (0, 1), ckTop, (0, 1)]
-- FarMachineModel.set
noncomputable def k76 : ckCtr := (64, ([(0, (1, 0)), (1, (0, 0)), (2, (0, 1))], [], dC120, dT122, [([(7, ckTop)], [], [])], [], [], [], 0, 0), [([], [(0, 21)], [(1, .inr (0, 0, 1))], [], [], [(-4, -4), ckTop], [([(4, ckTop), (5, ckTop), (7, ckTop)], [(4, 22)], [])], [], [], [], 0, 0)], 2, 102, 0, 0)
noncomputable def k76_a : ckAs := []
noncomputable def k76_c : List (Nat × ckCtr) := [(117, k73), (156, k24)]
theorem k76_ok (l : Launch) : ckCtrOk l ckMT ckTW ckCL k76 := mt_64 (as := k76_a) (cs := k76_c) (gx := []) (f := 200000) rfl (ckHc (k73_ok l) (ckHc (k24_ok l) (fun _ h => absurd h List.not_mem_nil))) True.intro (by decide +kernel)
noncomputable def dT123 : List ckI := [(8, 8), ckTop, (0, 1), (0, 1), (7, 7), ckTop, ckTop, ckTop, ckTop, ckTop, ckTop, ckTop, ckTop, ckTop, ckTop, ckTop, ckTop, ckTop]
-- FarMachine.set
noncomputable def k77 : ckCtr := (4, ([(0, (1, 0)), (1, (0, 0)), (2, (0, 1))], [], dC74, dT123, [([(7, ckTop)], [], [])], [], [], [], 0, 0), [([], [(0, 18)], [(2, .inr (0, 4, 1))], [], [(1, (-2147483648, 0))], [(-4, -4), ckTop], [([(4, ckTop), (5, ckTop), (7, ckTop)], [(4, 19)], [])], [], [], [], 0, 0), ([], [(0, 18)], [(2, .inr (0, 4, 1))], [], [(1, (1000, 2147483647))], [(-6, -6), ckTop], [([(6, ckTop), (7, ckTop)], [(6, 19)], [])], [], [], [], 0, 0), ([], [(0, 18)], dP76, [], [(1, (1, 999))], dT77, [], [], [], [], 0, 0)], 2, 102, 0, 0)
noncomputable def k77_a : ckAs := []
noncomputable def k77_c : List (Nat × ckCtr) := [(39, k15), (55, k16), (68, k38)]
theorem k77_ok (l : Launch) : ckCtrOk l ckMT ckTW ckCL k77 := mt_4 (as := k77_a) (cs := k77_c) (gx := []) (f := 200000) rfl (ckHc (k15_ok l) (ckHc (k16_ok l) (ckHc (k38_ok l) (fun _ h => absurd h List.not_mem_nil)))) True.intro (by decide +kernel)
-- FarMachineModel.within
noncomputable def k78 : ckCtr := (46, ([(0, (0, 0)), (1, (0, 1)), (2, (0, 2))], [], [], [ckTop, (1, 1), (999, 999)], [], [], [], [], 0, 0), [([], [(0, 3)], [], [], [(0, (-2147483648, 0))], [(-4, -4)], [], [], [], [], 0, 0), ([], [(0, 3)], [], [], [(0, (1000, 2147483647))], [(-6, -6)], [], [], [], [], 0, 0), ([], [(0, 3)], [], [], [(0, (1, 999))], [(0, 0)], [], [], [], [], 0, 0)], 1, 80, 0, 0)
noncomputable def k78_a : ckAs := []
noncomputable def k78_c : List (Nat × ckCtr) := []
theorem k78_ok (l : Launch) : ckCtrOk l ckMT ckTW ckCL k78 := mt_46 (as := k78_a) (cs := k78_c) (gx := []) (f := 200000) rfl (fun _ h => absurd h List.not_mem_nil) True.intro (by decide +kernel)
noncomputable def dT124 : List ckI := [(8, 8), (1, 999), (0, 1), (0, 1), (0, 8), (0, 40), (0, 6), (0, 8), (0, 10), (0, 126000), ckTop, ckTop, ckTop, ckTop, (0, 30), ckTop, ckTop, ckTop, (0, 1), ckTop, (0, 1), (318, 318), (1, 99), (0, 126000)]
noncomputable def dG125 : List ckG := [([(48, ckTop), (49, (0, 47)), (50, ckTop), (51, ckTop), (52, ckTop), (54, ckTop), (55, ckTop), (56, ckTop), (57, (1, 999)), (58, ckTop), (59, ckTop), (76, ckTop), (77, (0, 30)), (197, ckTop), (198, (0, 60)), (318, ckTop)], [(55, 22), (56, 1), (58, 23)], [])]
-- FarMachineModel.set
noncomputable def k79 : ckCtr := (64, ([(0, (1, 0)), (1, (0, 0)), (2, (0, 1))], [], dC78, dT124, dG80, [], [], [(1, 0, 0, 0, [])], 0, 0), [([], [(0, 24)], [(1, .inr (0, 21, 1))], [], [], [(1, 1)], dG125, [], [], [(1, 1, 0, 0, []), (1, 0, 0, 0, [])], 0, 0)], 2, 102, 0, 0)
noncomputable def k79_a : ckAs := []
noncomputable def k79_c : List (Nat × ckCtr) := [(129, k78)]
theorem k79_ok (l : Launch) : ckCtrOk l ckMT ckTW ckCL k79 := mt_64 (as := k79_a) (cs := k79_c) (gx := []) (f := 200000) rfl (ckHc (k78_ok l) (fun _ h => absurd h List.not_mem_nil)) True.intro (by decide +kernel)
noncomputable def dT126 : List ckI := [(8, 8), (1000, 2147483647), (0, 1), (0, 1), (0, 8), (0, 40), (0, 6), (0, 8), (0, 10), (0, 126000), ckTop, ckTop, ckTop, ckTop, (0, 30), ckTop, ckTop, ckTop, (0, 1), ckTop, (0, 1), (7, 7)]
-- FarMachineModel.set
noncomputable def k80 : ckCtr := (64, ([(0, (1, 0)), (1, (0, 0)), (2, (0, 1))], [], dC69, dT126, [([(7, ckTop)], [], [])], [], [], [], 0, 0), [([], [(0, 22)], [(1, .inr (0, 21, 1))], [], [], [(-6, -6), ckTop], [([(6, ckTop), (7, ckTop)], [(6, 23)], [])], [], [], [], 0, 0)], 2, 102, 0, 0)
noncomputable def k80_a : ckAs := []
noncomputable def k80_c : List (Nat × ckCtr) := [(129, k78), (156, k23)]
theorem k80_ok (l : Launch) : ckCtrOk l ckMT ckTW ckCL k80 := mt_64 (as := k80_a) (cs := k80_c) (gx := []) (f := 200000) rfl (ckHc (k78_ok l) (ckHc (k23_ok l) (fun _ h => absurd h List.not_mem_nil))) True.intro (by decide +kernel)
noncomputable def dT127 : List ckI := [(8, 8), (-2147483648, 0), (0, 1), (0, 1), (0, 8), (0, 40), (0, 6), (0, 8), (0, 10), (0, 126000), ckTop, ckTop, ckTop, ckTop, (0, 30), ckTop, ckTop, ckTop, (0, 1), ckTop, (0, 1), (7, 7)]
-- FarMachineModel.set
noncomputable def k81 : ckCtr := (64, ([(0, (1, 0)), (1, (0, 0)), (2, (0, 1))], [], dC69, dT127, [([(7, ckTop)], [], [])], [], [], [], 0, 0), [([], [(0, 22)], [(1, .inr (0, 21, 1))], [], [], [(-4, -4), ckTop], [([(4, ckTop), (5, ckTop), (7, ckTop)], [(4, 23)], [])], [], [], [], 0, 0)], 2, 102, 0, 0)
noncomputable def k81_a : ckAs := []
noncomputable def k81_c : List (Nat × ckCtr) := [(129, k78), (156, k24)]
theorem k81_ok (l : Launch) : ckCtrOk l ckMT ckTW ckCL k81 := mt_64 (as := k81_a) (cs := k81_c) (gx := []) (f := 200000) rfl (ckHc (k78_ok l) (ckHc (k24_ok l) (fun _ h => absurd h List.not_mem_nil))) True.intro (by decide +kernel)
noncomputable def dT128 : List ckI := [(9, 9), ckTop, (0, 1), (0, 1), (7, 7), ckTop, ckTop, ckTop, ckTop, ckTop, ckTop, ckTop, ckTop, ckTop, ckTop, ckTop, ckTop, ckTop]
-- FarMachine.set
noncomputable def k82 : ckCtr := (4, ([(0, (1, 0)), (1, (0, 0)), (2, (0, 1))], [], dC74, dT128, [([(7, ckTop)], [], [])], [], [], [], 0, 0), [([], [(0, 18)], [(2, .inr (0, 4, 1))], [], [(1, (-2147483648, -1))], [(-4, -4), ckTop], [([(4, ckTop), (5, ckTop), (7, ckTop)], [(4, 19)], [])], [], [], [], 0, 0), ([], [(0, 18)], [(2, .inr (0, 4, 1))], [], [(1, (21, 2147483647))], [(-6, -6), ckTop], [([(6, ckTop), (7, ckTop)], [(6, 19)], [])], [], [], [], 0, 0), ([], [(0, 18)], dP76, [], [(1, (0, 20))], dT77, [], [], [], [], 0, 0)], 2, 102, 0, 0)
noncomputable def k82_a : ckAs := []
noncomputable def k82_c : List (Nat × ckCtr) := [(39, k15), (55, k16), (68, k38)]
theorem k82_ok (l : Launch) : ckCtrOk l ckMT ckTW ckCL k82 := mt_4 (as := k82_a) (cs := k82_c) (gx := []) (f := 200000) rfl (ckHc (k15_ok l) (ckHc (k16_ok l) (ckHc (k38_ok l) (fun _ h => absurd h List.not_mem_nil)))) True.intro (by decide +kernel)
-- FarMachineModel.within
noncomputable def k83 : ckCtr := (46, ([(0, (0, 0)), (1, (0, 1)), (2, (0, 2))], [], [], [ckTop, (0, 0), (20, 20)], [], [], [], [], 0, 0), [([], [(0, 3)], [], [], [(0, (-2147483648, -1))], [(-4, -4)], [], [], [], [], 0, 0), ([], [(0, 3)], [], [], [(0, (21, 2147483647))], [(-6, -6)], [], [], [], [], 0, 0), ([], [(0, 1)], [], [], [(0, (0, 20))], [], [], [], [], [], 0, 0)], 1, 80, 0, 0)
noncomputable def k83_a : ckAs := []
noncomputable def k83_c : List (Nat × ckCtr) := []
theorem k83_ok (l : Launch) : ckCtrOk l ckMT ckTW ckCL k83 := mt_46 (as := k83_a) (cs := k83_c) (gx := []) (f := 200000) rfl (fun _ h => absurd h List.not_mem_nil) True.intro (by decide +kernel)
noncomputable def dT129 : List ckI := [(9, 9), (0, 20), (0, 1), (0, 1), (0, 8), (0, 40), (0, 6), (0, 8), (0, 10), (0, 126000), ckTop, ckTop, ckTop, ckTop, (0, 30), ckTop, ckTop, ckTop, (0, 1), ckTop, (0, 1), (318, 318), (1, 99), (0, 126000)]
noncomputable def dG130 : List ckG := [([(48, ckTop), (49, (0, 47)), (50, ckTop), (51, ckTop), (52, ckTop), (54, ckTop), (55, ckTop), (56, ckTop), (57, ckTop), (58, (0, 20)), (59, ckTop), (76, ckTop), (77, (0, 30)), (197, ckTop), (198, (0, 60)), (318, ckTop)], [(55, 22), (57, 1), (58, 23)], [])]
-- FarMachineModel.set
noncomputable def k84 : ckCtr := (64, ([(0, (1, 0)), (1, (0, 0)), (2, (0, 1))], [], dC78, dT129, dG80, [], [], [(1, 0, 0, 0, [])], 0, 0), [([], [(0, 24)], [(1, .inr (0, 21, 1))], [], [], [(1, 1)], dG130, [], [], [(1, 1, 0, 0, []), (1, 0, 0, 0, [])], 0, 0)], 2, 102, 0, 0)
noncomputable def k84_a : ckAs := []
noncomputable def k84_c : List (Nat × ckCtr) := [(140, k83)]
theorem k84_ok (l : Launch) : ckCtrOk l ckMT ckTW ckCL k84 := mt_64 (as := k84_a) (cs := k84_c) (gx := []) (f := 200000) rfl (ckHc (k83_ok l) (fun _ h => absurd h List.not_mem_nil)) True.intro (by decide +kernel)
noncomputable def dT131 : List ckI := [(9, 9), (21, 2147483647), (0, 1), (0, 1), (0, 8), (0, 40), (0, 6), (0, 8), (0, 10), (0, 126000), ckTop, ckTop, ckTop, ckTop, (0, 30), ckTop, ckTop, ckTop, (0, 1), ckTop, (0, 1), (7, 7)]
-- FarMachineModel.set
noncomputable def k85 : ckCtr := (64, ([(0, (1, 0)), (1, (0, 0)), (2, (0, 1))], [], dC69, dT131, [([(7, ckTop)], [], [])], [], [], [], 0, 0), [([], [(0, 22)], [(1, .inr (0, 21, 1))], [], [], [(-6, -6), ckTop], [([(6, ckTop), (7, ckTop)], [(6, 23)], [])], [], [], [], 0, 0)], 2, 102, 0, 0)
noncomputable def k85_a : ckAs := []
noncomputable def k85_c : List (Nat × ckCtr) := [(140, k83), (156, k23)]
theorem k85_ok (l : Launch) : ckCtrOk l ckMT ckTW ckCL k85 := mt_64 (as := k85_a) (cs := k85_c) (gx := []) (f := 200000) rfl (ckHc (k83_ok l) (ckHc (k23_ok l) (fun _ h => absurd h List.not_mem_nil))) True.intro (by decide +kernel)
noncomputable def dT132 : List ckI := [(9, 9), (-2147483648, -1), (0, 1), (0, 1), (0, 8), (0, 40), (0, 6), (0, 8), (0, 10), (0, 126000), ckTop, ckTop, ckTop, ckTop, (0, 30), ckTop, ckTop, ckTop, (0, 1), ckTop, (0, 1), (7, 7)]
-- FarMachineModel.set
noncomputable def k86 : ckCtr := (64, ([(0, (1, 0)), (1, (0, 0)), (2, (0, 1))], [], dC69, dT132, [([(7, ckTop)], [], [])], [], [], [], 0, 0), [([], [(0, 22)], [(1, .inr (0, 21, 1))], [], [], [(-4, -4), ckTop], [([(4, ckTop), (5, ckTop), (7, ckTop)], [(4, 23)], [])], [], [], [], 0, 0)], 2, 102, 0, 0)
noncomputable def k86_a : ckAs := []
noncomputable def k86_c : List (Nat × ckCtr) := [(140, k83), (156, k24)]
theorem k86_ok (l : Launch) : ckCtrOk l ckMT ckTW ckCL k86 := mt_64 (as := k86_a) (cs := k86_c) (gx := []) (f := 200000) rfl (ckHc (k83_ok l) (ckHc (k24_ok l) (fun _ h => absurd h List.not_mem_nil))) True.intro (by decide +kernel)
-- FarMachine.set
noncomputable def k87 : ckCtr := (4, ([(0, (1, 0)), (1, (0, 0)), (2, (0, 1))], [], dC68, [(10, 2147483647), ckTop, (0, 1), (7, 7)], [([(7, ckTop)], [], [])], [], [], [], 0, 0), [([], [(0, 4)], [(1, .inr (0, 3, 1))], [], [], [(-2, -2), ckTop], [([(2, ckTop), (3, ckTop), (7, ckTop)], [(2, 5)], [])], [], [], [], 0, 0)], 2, 101, 0, 0)
noncomputable def k87_a : ckAs := []
noncomputable def k87_c : List (Nat × ckCtr) := [(23, k28)]
theorem k87_ok (l : Launch) : ckCtrOk l ckMT ckTW ckCL k87 := mt_4 (as := k87_a) (cs := k87_c) (gx := []) (f := 200000) rfl (ckHc (k28_ok l) (fun _ h => absurd h List.not_mem_nil)) True.intro (by decide +kernel)
noncomputable def dT133 : List ckI := [(10, 2147483647), ckTop, (0, 1), (0, 1), (0, 8), (0, 40), (0, 6), (0, 8), (0, 10), (0, 126000), ckTop, ckTop, ckTop, ckTop, (0, 30), ckTop, ckTop, ckTop, (0, 1), ckTop, (0, 1), (7, 7)]
-- FarMachineModel.set
noncomputable def k88 : ckCtr := (64, ([(0, (1, 0)), (1, (0, 0)), (2, (0, 1))], [], dC69, dT133, [([(7, ckTop)], [], [])], [], [], [], 0, 0), [([], [(0, 22)], [(1, .inr (0, 21, 1))], [], [], [(-2, -2), ckTop], [([(2, ckTop), (3, ckTop), (7, ckTop)], [(2, 23)], [])], [], [], [], 0, 0)], 2, 101, 0, 0)
noncomputable def k88_a : ckAs := []
noncomputable def k88_c : List (Nat × ckCtr) := [(156, k33)]
theorem k88_ok (l : Launch) : ckCtrOk l ckMT ckTW ckCL k88 := mt_64 (as := k88_a) (cs := k88_c) (gx := []) (f := 200000) rfl (ckHc (k33_ok l) (fun _ h => absurd h List.not_mem_nil)) True.intro (by decide +kernel)
noncomputable def dC134 : List ckC := [.inl (2, [(4, 10), (1, 1), (4, 11), (0, 1), (0, 2), (0, 3), (0, 4), (0, 5), (0, 6), (0, 7), (0, 8), (0, 9), (0, 10), (0, 11), (0, 12), (0, 13)]), .inr (0, 14, 0)]
noncomputable def dT135 : List ckI := [ckTop, ckTop, ckTop, ckTop, ckTop, ckTop, ckTop, ckTop, ckTop, ckTop, ckTop, ckTop, ckTop, ckTop, (8, 8)]
-- FarMachine$Machine.sumOf
noncomputable def k89 : ckCtr := (135, ([(0, (1, 0)), (1, (4, 0)), (2, (0, 0))], [], dC134, dT135, [([(8, ckTop)], [], [])], [], [], [], 0, 0), [([], [(0, 15)], [], [], [], [ckTop], [], [], [], [], 0, 0)], 1, 80, 0, 0)
noncomputable def k89_a : ckAs := [(5, [(297720, [(1, 0, 1, ([(0, (1, 0)), (1, (4, 0)), (2, (0, 0)), (3, (0, 17)), (4, (0, 18))], [], [], [], [], [ckTop, (0, 8)], [], [], [], [], 0, 0))])])]
noncomputable def k89_c : List (Nat × ckCtr) := []
theorem k89_ok (l : Launch) : ckCtrOk l ckMT ckTW ckCL k89 := mt_135 (as := k89_a) (cs := k89_c) (gx := []) (f := 200000) rfl (fun _ h => absurd h List.not_mem_nil) True.intro (by decide +kernel)
noncomputable def dC136 : List ckC := [.inl (2, [(4, 10), (1, 1), (4, 11), (0, 0), (0, 1), (0, 2), (0, 3), (0, 4), (0, 5), (0, 6), (0, 7), (0, 8), (0, 9), (0, 10), (0, 11), (0, 12)]), .inr (0, 13, 0)]
noncomputable def dT137 : List ckI := [ckTop, ckTop, ckTop, ckTop, ckTop, ckTop, ckTop, ckTop, ckTop, ckTop, ckTop, ckTop, ckTop, (8, 8)]
-- FarMachine$Machine.sumOn
noncomputable def k90 : ckCtr := (134, ([(0, (1, 0)), (1, (4, 0))], [], dC136, dT137, [([(8, ckTop)], [], [])], [], [], [], 0, 0), [([], [(0, 14)], [], [], [], [ckTop], [], [], [], [], 0, 0)], 2, 105, 0, 0)
noncomputable def k90_a : ckAs := []
noncomputable def k90_c : List (Nat × ckCtr) := [(6, k89)]
theorem k90_ok (l : Launch) : ckCtrOk l ckMT ckTW ckCL k90 := mt_134 (as := k90_a) (cs := k90_c) (gx := []) (f := 200000) rfl (ckHc (k89_ok l) (fun _ h => absurd h List.not_mem_nil)) True.intro (by decide +kernel)
-- FarMachine.refuseFar
noncomputable def k91 : ckCtr := (35, ([(0, (1, 0)), (1, (0, 0))], [], dC33, [(-2, -2), (0, 1), (7, 7)], [([(7, ckTop)], [], [])], [], [], [], 0, 0), [([], [(0, 3)], [(1, .inr (0, 2, 1))], [], [], [(1002, 1002), ckTop], [([(2, ckTop), (3, ckTop), (7, ckTop)], [(2, 4)], [])], [], [], [], 0, 0)], 2, 101, 0, 0)
noncomputable def k91_a : ckAs := []
noncomputable def k91_c : List (Nat × ckCtr) := [(5, k28)]
theorem k91_ok (l : Launch) : ckCtrOk l ckMT ckTW ckCL k91 := mt_35 (as := k91_a) (cs := k91_c) (gx := []) (f := 200000) rfl (ckHc (k28_ok l) (fun _ h => absurd h List.not_mem_nil)) True.intro (by decide +kernel)
noncomputable def dC138 : List ckC := [.inl (8, [(1, 1), (4, 10), (0, 1), (4, 11), (4, 12), (4, 13), (4, 14), (1, 2)]), .inl (7, [(1, 3), (4, 15), (0, 2), (4, 16), (4, 17), (4, 18), (4, 19), (4, 20), (4, 21), (4, 22)]), .inr (0, 3, 0), .inl (2, [(4, 23), (1, 4), (4, 24), (0, 4), (0, 5), (0, 6), (0, 7), (0, 8), (0, 9), (0, 10), (0, 11), (0, 12), (0, 13), (0, 14), (0, 15), (0, 16)]), .inr (0, 17, 1)]
noncomputable def dT139 : List ckI := [ckTop, (0, 1), (0, 1), (7, 7), ckTop, ckTop, ckTop, ckTop, ckTop, ckTop, ckTop, ckTop, ckTop, ckTop, ckTop, ckTop, ckTop, (8, 8)]
-- FarMachine.state
noncomputable def k92 : ckCtr := (5, ([(0, (1, 0)), (1, (0, 0))], [], dC138, dT139, [([(7, ckTop)], [], []), ([(8, ckTop)], [], [])], [], [], [], 0, 0), [([], [(0, 18)], [(2, .inr (0, 3, 2))], [], [], [ckTop], [([(2, ckTop), (3, ckTop), (7, ckTop)], [], [])], [], [], [], 0, 0)], 3, 126, 0, 0)
noncomputable def k92_a : ckAs := []
noncomputable def k92_c : List (Nat × ckCtr) := [(103, k90), (120, k91)]
theorem k92_ok (l : Launch) : ckCtrOk l ckMT ckTW ckCL k92 := mt_5 (as := k92_a) (cs := k92_c) (gx := []) (f := 200000) rfl (ckHc (k90_ok l) (ckHc (k91_ok l) (fun _ h => absurd h List.not_mem_nil))) True.intro (by decide +kernel)
-- FarMachineModel.isIn
noncomputable def k93 : ckCtr := (45, ([(0, (0, 0)), (1, (0, 1))], [], [], [ckTop, (10, 10)], [], [], [], [], 0, 0), [([], [(0, 2)], [], [], [(0, (0, 9))], [(1, 1)], [], [], [], [], 0, 0), ([], [(0, 2)], [], [], [(0, (10, 2147483647))], [(0, 0)], [], [], [], [], 0, 0), ([], [(0, 2)], [], [], [(0, (-2147483648, -1))], [(0, 0)], [], [], [], [], 0, 0)], 1, 80, 0, 0)
noncomputable def k93_a : ckAs := []
noncomputable def k93_c : List (Nat × ckCtr) := []
theorem k93_ok (l : Launch) : ckCtrOk l ckMT ckTW ckCL k93 := mt_45 (as := k93_a) (cs := k93_c) (gx := []) (f := 200000) rfl (fun _ h => absurd h List.not_mem_nil) True.intro (by decide +kernel)
-- FarMachineModel.powerOf
noncomputable def k94 : ckCtr := (49, ([(0, (0, 0))], [], [], [ckTop], [], [], [], [], 0, 0), [([], [(0, 1)], [], [], [], [(0, 5)], [], [], [], [], 0, 0)], 1, 80, 0, 0)
noncomputable def k94_a : ckAs := []
noncomputable def k94_c : List (Nat × ckCtr) := []
theorem k94_ok (l : Launch) : ckCtrOk l ckMT ckTW ckCL k94 := mt_49 (as := k94_a) (cs := k94_c) (gx := []) (f := 200000) rfl (fun _ h => absurd h List.not_mem_nil) True.intro (by decide +kernel)
noncomputable def dG140 : List ckG := [([(48, ckTop), (49, (0, 47)), (55, ckTop), (56, ckTop), (58, ckTop), (59, ckTop), (76, ckTop), (77, (0, 30)), (197, ckTop), (198, (0, 60)), (318, ckTop)], [(55, 1), (58, 2)], [])]
-- FarMachineModel.power
noncomputable def k95 : ckCtr := (50, ([(0, (1, 0))], [], [.inr (0, 0, 0)], [(318, 318), (1, 99), (0, 128000)], dG140, [], [], [(1, 0, 0, 0, [])], 0, 0), [([], [(0, 3)], [], [], [], [ckTop], [], [], [], [(1, 0, 0, 0, [])], 0, 0)], 2, 100, 0, 0)
noncomputable def k95_a : ckAs := [(4, [(940447, [(1, 0, 1, ([(0, (1, 0)), (1, (0, 5)), (2, (0, 6))], [], [], [], [], [ckTop, (0, 8)], [], [], [], [(1, 0, 0, 0, [])], 0, 0))])])]
noncomputable def k95_c : List (Nat × ckCtr) := [(23, k94)]
theorem k95_ok (l : Launch) : ckCtrOk l ckMT ckTW ckCL k95 := mt_50 (as := k95_a) (cs := k95_c) (gx := []) (f := 200000) rfl (ckHc (k94_ok l) (fun _ h => absurd h List.not_mem_nil)) True.intro (by decide +kernel)
-- FarMachineModel.ons
noncomputable def k96 : ckCtr := (52, ([(0, (1, 0))], [], [.inr (0, 0, 0)], [(318, 318), (1, 99), (0, 128000)], dG140, [], [], [(1, 0, 0, 0, [])], 0, 0), [([], [(0, 3)], [], [], [], [ckTop], [], [], [], [(1, 0, 0, 0, [])], 0, 0)], 1, 80, 0, 0)
noncomputable def k96_a : ckAs := [(4, [(940447, [(1, 0, 1, ([(0, (1, 0)), (1, (0, 5)), (2, (0, 6))], [], [], [], [], [ckTop, (0, 8)], [], [], [], [(1, 0, 0, 0, [])], 0, 0))])])]
noncomputable def k96_c : List (Nat × ckCtr) := []
theorem k96_ok (l : Launch) : ckCtrOk l ckMT ckTW ckCL k96 := mt_52 (as := k96_a) (cs := k96_c) (gx := []) (f := 200000) rfl (fun _ h => absurd h List.not_mem_nil) True.intro (by decide +kernel)
-- FarMachineModel.state
noncomputable def k97 : ckCtr := (65, ([(0, (1, 0)), (1, (0, 0))], [], dC51, dT52, dG53, [], [], [(1, 1, 0, 0, [])], 0, 0), [([], [(0, 24)], [(1, .inr (0, 20, 2))], [], [], [ckTop], [([(2, ckTop), (3, ckTop), (7, ckTop)], [], [])], [], [], [(1, 1, 0, 0, [])], 0, 0)], 3, 122, 0, 0)
noncomputable def k97_a : ckAs := []
noncomputable def k97_c : List (Nat × ckCtr) := [(3, k93), (15, k33), (64, k95), (80, k96)]
theorem k97_ok (l : Launch) : ckCtrOk l ckMT ckTW ckCL k97 := mt_65 (as := k97_a) (cs := k97_c) (gx := []) (f := 200000) rfl (ckHc (k93_ok l) (ckHc (k33_ok l) (ckHc (k95_ok l) (ckHc (k96_ok l) (fun _ h => absurd h List.not_mem_nil))))) True.intro (by decide +kernel)
-- FarMachine.refuseFar
noncomputable def k98 : ckCtr := (35, ([(0, (1, 0)), (1, (0, 0))], [], dC33, [(-4, -4), (0, 1), (7, 7)], [([(7, ckTop)], [], [])], [], [], [], 0, 0), [([], [(0, 3)], [(1, .inr (0, 2, 1))], [], [], [(1004, 1004), ckTop], [([(4, ckTop), (5, ckTop), (7, ckTop)], [(4, 4)], [])], [], [], [], 0, 0)], 2, 101, 0, 0)
noncomputable def k98_a : ckAs := []
noncomputable def k98_c : List (Nat × ckCtr) := [(5, k15)]
theorem k98_ok (l : Launch) : ckCtrOk l ckMT ckTW ckCL k98 := mt_35 (as := k98_a) (cs := k98_c) (gx := []) (f := 200000) rfl (ckHc (k15_ok l) (fun _ h => absurd h List.not_mem_nil)) True.intro (by decide +kernel)
-- FarMachine.refuseFar
noncomputable def k99 : ckCtr := (35, ([(0, (1, 0)), (1, (0, 0))], [], dC33, [(-6, -6), (0, 1), (7, 7)], [([(7, ckTop)], [], [])], [], [], [], 0, 0), [([], [(0, 3)], [(1, .inr (0, 2, 1))], [], [], [(1006, 1006), ckTop], [([(6, ckTop), (7, ckTop)], [(6, 4)], [])], [], [], [], 0, 0)], 2, 101, 0, 0)
noncomputable def k99_a : ckAs := []
noncomputable def k99_c : List (Nat × ckCtr) := [(5, k16)]
theorem k99_ok (l : Launch) : ckCtrOk l ckMT ckTW ckCL k99 := mt_35 (as := k99_a) (cs := k99_c) (gx := []) (f := 200000) rfl (ckHc (k16_ok l) (fun _ h => absurd h List.not_mem_nil)) True.intro (by decide +kernel)
noncomputable def dC141 : List ckC := [.inl (2, [(4, 10), (4, 11), (4, 12), (0, 1), (0, 2), (0, 3), (0, 4), (0, 5), (0, 6), (0, 7), (0, 8), (0, 9), (0, 10), (0, 11), (0, 12), (0, 13)])]
noncomputable def dT142 : List ckI := [ckTop, ckTop, ckTop, ckTop, ckTop, ckTop, ckTop, ckTop, ckTop, ckTop, ckTop, ckTop, ckTop, ckTop]
-- FarMachine$Machine.isOn
noncomputable def k100 : ckCtr := (131, ([(0, (1, 0)), (1, (0, 0))], [], dC141, dT142, [], [], [], [], 0, 0), [([], [(0, 14)], [], [], [], [(1, 1)], [], [], [], [], 0, 0), ([], [(0, 14)], [], [], [], [(0, 0)], [], [], [], [], 0, 0)], 1, 80, 0, 0)
noncomputable def k100_a : ckAs := []
noncomputable def k100_c : List (Nat × ckCtr) := []
theorem k100_ok (l : Launch) : ckCtrOk l ckMT ckTW ckCL k100 := mt_131 (as := k100_a) (cs := k100_c) (gx := []) (f := 200000) rfl (fun _ h => absurd h List.not_mem_nil) True.intro (by decide +kernel)
-- FarMachine$Machine.feelHeat
noncomputable def k101 : ckCtr := (142, ([(0, (1, 0))], [], dC136, dT137, [([(8, ckTop)], [], [])], [], [], [], 0, 0), [([], [(0, 14)], [], [], [], [ckTop], [], [], [], [], 0, 0)], 2, 101, 0, 0)
noncomputable def k101_a : ckAs := [(2, [(798748, [(1, 0, 0, ([(0, (1, 0)), (1, (0, 15))], [], [], [], [], [(0, 8)], [], [], [], [], 0, 0))])])]
noncomputable def k101_c : List (Nat × ckCtr) := [(13, k100), (36, k100)]
theorem k101_ok (l : Launch) : ckCtrOk l ckMT ckTW ckCL k101 := mt_142 (as := k101_a) (cs := k101_c) (gx := []) (f := 200000) rfl (ckHc (k100_ok l) (ckHc (k100_ok l) (fun _ h => absurd h List.not_mem_nil))) True.intro (by decide +kernel)
-- java/lang/Integer.bitCount
noncomputable def k102 : ckCtr := (193, ([(0, (0, 0))], [], [], [ckTop], [], [], [], [], 0, 0), [([], [(0, 1)], [], [], [], [(0, 63)], [], [], [], [], 0, 0)], 1, 80, 0, 0)
noncomputable def k102_a : ckAs := []
noncomputable def k102_c : List (Nat × ckCtr) := []
theorem k102_ok (l : Launch) : ckCtrOk l ckMT ckTW ckCL k102 := mt_193 (as := k102_a) (cs := k102_c) (gx := []) (f := 200000) rfl (fun _ h => absurd h List.not_mem_nil) True.intro (by decide +kernel)
noncomputable def dC143 : List ckC := [.inl (2, [(1, 1), (1, 2), (4, 10), (0, 1), (0, 2), (0, 3), (0, 4), (0, 5), (0, 6), (0, 7), (0, 8), (0, 9), (0, 10), (0, 11), (0, 12), (0, 13)]), .inr (0, 14, 0), .inr (0, 15, 1)]
noncomputable def dT144 : List ckI := [ckTop, ckTop, ckTop, ckTop, ckTop, ckTop, ckTop, ckTop, ckTop, ckTop, ckTop, ckTop, ckTop, ckTop, (48, 48), (8, 8)]
-- FarMachine$Machine.feel
noncomputable def k103 : ckCtr := (141, ([(0, (1, 0)), (1, (0, 0))], [], dC143, dT144, [([(48, ckTop)], [], []), ([(8, ckTop)], [], [])], [], [], [], 0, 0), [([], [(0, 16)], [], [], [], [ckTop], [], [], [], [], 0, 0)], 3, 126, 0, 0)
noncomputable def k103_a : ckAs := []
noncomputable def k103_c : List (Nat × ckCtr) := [(49, k101), (75, k102), (93, k90), (102, k17)]
theorem k103_ok (l : Launch) : ckCtrOk l ckMT ckTW ckCL k103 := mt_141 (as := k103_a) (cs := k103_c) (gx := []) (f := 200000) rfl (ckHc (k101_ok l) (ckHc (k102_ok l) (ckHc (k90_ok l) (ckHc (k17_ok l) (fun _ h => absurd h List.not_mem_nil))))) True.intro (by decide +kernel)
noncomputable def dC145 : List ckC := [.inl (8, [(1, 1), (4, 10), (0, 1), (4, 11), (4, 12), (4, 13), (4, 14), (1, 2)]), .inl (7, [(1, 3), (4, 15), (0, 2), (4, 16), (4, 17), (4, 18), (4, 19), (4, 20), (4, 21), (4, 22)]), .inr (0, 3, 0), .inl (2, [(1, 4), (1, 5), (4, 23), (0, 4), (0, 5), (0, 6), (0, 7), (0, 8), (0, 9), (0, 10), (0, 11), (0, 12), (0, 13), (0, 14), (0, 15), (0, 16)]), .inr (0, 17, 1), .inr (0, 18, 2)]
noncomputable def dT146 : List ckI := [ckTop, (0, 1), (0, 1), (7, 7), ckTop, ckTop, ckTop, ckTop, ckTop, ckTop, ckTop, ckTop, ckTop, ckTop, ckTop, ckTop, ckTop, (48, 48), (8, 8)]
noncomputable def dG147 : List ckG := [([(7, ckTop)], [], []), ([(48, ckTop)], [], []), ([(8, ckTop)], [], [])]
noncomputable def dG148 : List ckG := [([(4, ckTop), (5, ckTop), (6, ckTop), (7, ckTop)], [], [])]
-- FarMachine.felt
noncomputable def k104 : ckCtr := (6, ([(0, (1, 0)), (1, (0, 0))], [], dC145, dT146, dG147, [], [], [], 0, 0), [([], [(0, 19)], [(2, .inr (0, 3, 3))], [], [], [ckTop], dG148, [], [], [], 0, 0)], 4, 147, 0, 0)
noncomputable def k104_a : ckAs := []
noncomputable def k104_c : List (Nat × ckCtr) := [(7, k98), (20, k99), (34, k103)]
theorem k104_ok (l : Launch) : ckCtrOk l ckMT ckTW ckCL k104 := mt_6 (as := k104_a) (cs := k104_c) (gx := []) (f := 200000) rfl (ckHc (k98_ok l) (ckHc (k99_ok l) (ckHc (k103_ok l) (fun _ h => absurd h List.not_mem_nil)))) True.intro (by decide +kernel)
-- FarMachineModel.warmth
noncomputable def k105 : ckCtr := (54, ([(0, (1, 0))], [], [.inr (0, 0, 0)], [(318, 318), (1, 99), (0, 128000)], dG140, [], [], [(1, 0, 0, 0, [])], 0, 0), [([], [(0, 3)], [], [], [], [ckTop], [], [], [], [(1, 0, 0, 0, [])], 0, 0), ([], [(0, 3)], [], [], [], [(0, 0)], [], [], [], [(1, 0, 0, 0, [])], 0, 0)], 1, 80, 0, 0)
noncomputable def k105_a : ckAs := [(2, [(745899, [(1, 0, 0, ([(0, (1, 0)), (1, (0, 4))], [], [], [], [], [(0, 8)], [], [], [], [(1, 0, 0, 0, [])], 0, 0))])])]
noncomputable def k105_c : List (Nat × ckCtr) := []
theorem k105_ok (l : Launch) : ckCtrOk l ckMT ckTW ckCL k105 := mt_54 (as := k105_a) (cs := k105_c) (gx := []) (f := 200000) rfl (fun _ h => absurd h List.not_mem_nil) True.intro (by decide +kernel)
-- FarMachineModel.bits
noncomputable def k106 : ckCtr := (48, ([(0, (0, 0))], [], [], [ckTop], [], [], [], [], 0, 0), [([], [(0, 1)], [], [], [], [ckTop], [], [], [], [], 0, 0)], 1, 80, 0, 0)
noncomputable def k106_a : ckAs := [(4, [(404360, [(2, 0, 1, ([(0, (0, 0)), (1, (0, 2)), (2, (0, 3))], [], [], [], [], [ckTop, ckTop], [], [], [(3, 0, 0)], [], 0, 0))])])]
noncomputable def k106_c : List (Nat × ckCtr) := []
theorem k106_ok (l : Launch) : ckCtrOk l ckMT ckTW ckCL k106 := mt_48 (as := k106_a) (cs := k106_c) (gx := []) (f := 200000) rfl (fun _ h => absurd h List.not_mem_nil) True.intro (by decide +kernel)
noncomputable def dG149 : List ckG := [([(48, ckTop), (49, (0, 47)), (55, ckTop), (56, ckTop), (58, ckTop), (59, ckTop), (76, ckTop), (77, (0, 30)), (197, ckTop), (198, (0, 60)), (318, ckTop)], [(55, 2), (58, 3)], [])]
-- FarMachineModel.feels
noncomputable def k107 : ckCtr := (55, ([(0, (1, 0)), (1, (0, 0))], [], [.inr (0, 1, 0)], [(0, 31), (318, 318), (1, 99), (0, 128000)], dG149, [], [], [(1, 0, 0, 0, [])], 0, 0), [([], [(0, 4)], [], [], [], [ckTop], [], [], [], [(1, 0, 0, 0, [])], 0, 0)], 3, 122, 0, 0)
noncomputable def k107_a : ckAs := []
noncomputable def k107_c : List (Nat × ckCtr) := [(49, k105), (72, k96), (75, k106), (90, k95)]
theorem k107_ok (l : Launch) : ckCtrOk l ckMT ckTW ckCL k107 := mt_55 (as := k107_a) (cs := k107_c) (gx := []) (f := 200000) rfl (ckHc (k105_ok l) (ckHc (k96_ok l) (ckHc (k106_ok l) (ckHc (k95_ok l) (fun _ h => absurd h List.not_mem_nil))))) True.intro (by decide +kernel)
-- FarMachineModel.felt
noncomputable def k108 : ckCtr := (66, ([(0, (1, 0)), (1, (0, 0))], [], dC51, dT52, dG53, [], [], [(1, 1, 0, 0, [])], 0, 0), [([], [(0, 24)], [(1, .inr (0, 20, 2))], [], [], [ckTop], dG148, [], [], [(1, 1, 0, 0, [])], 0, 0)], 4, 143, 0, 0)
noncomputable def k108_a : ckAs := []
noncomputable def k108_c : List (Nat × ckCtr) := [(4, k64), (17, k23), (17, k24), (29, k107)]
theorem k108_ok (l : Launch) : ckCtrOk l ckMT ckTW ckCL k108 := mt_66 (as := k108_a) (cs := k108_c) (gx := []) (f := 200000) rfl (ckHc (k64_ok l) (ckHc (k23_ok l) (ckHc (k24_ok l) (ckHc (k107_ok l) (fun _ h => absurd h List.not_mem_nil))))) True.intro (by decide +kernel)
noncomputable def dC150 : List ckC := [.inl (1, [(1, 1), (4, 10), (4, 11), (4, 12), (0, 1)]), .inr (0, 2, 0)]
-- FarMachine$Commands.has
noncomputable def k109 : ckCtr := (119, ([(0, (1, 0)), (1, (0, 0))], [], dC150, [ckTop, ckTop, (30, 30)], [([(30, ckTop)], [], [])], [], [], [], 0, 0), [([], [(0, 3)], [], [], [(0, (0, 29)), (1, (1, 2147483647))], [(1, 1)], [], [], [(0, 1, (-1))], [], 0, 0), ([], [(0, 3)], [], [], [], [(0, 0)], [], [], [], [], 0, 0)], 1, 80, 0, 0)
noncomputable def k109_a : ckAs := []
noncomputable def k109_c : List (Nat × ckCtr) := []
theorem k109_ok (l : Launch) : ckCtrOk l ckMT ckTW ckCL k109 := mt_119 (as := k109_a) (cs := k109_c) (gx := []) (f := 200000) rfl (fun _ h => absurd h List.not_mem_nil) True.intro (by decide +kernel)
noncomputable def dC151 : List ckC := [.inl (1, [(1, 1), (4, 10), (4, 11), (1, 2), (0, 1)]), .inr (0, 2, 0), .inr (0, 2, 1)]
-- FarMachine$Commands.comesNow
noncomputable def k110 : ckCtr := (121, ([(0, (1, 0)), (1, (0, 0))], [], dC151, [ckTop, ckTop, (30, 30)], [([(30, ckTop)], [], []), ([(30, ckTop)], [], [])], [], [], [], 0, 0), [([], [(0, 3)], [], [], [], [(0, 0)], [], [], [], [], 0, 0), ([], [(0, 3)], [], [], [(0, (0, 29)), (1, (1, 2147483647))], [(1, 1)], [], [], [(0, 1, (-1))], [], 0, 0)], 2, 101, 0, 0)
noncomputable def k110_a : ckAs := []
noncomputable def k110_c : List (Nat × ckCtr) := [(2, k109)]
theorem k110_ok (l : Launch) : ckCtrOk l ckMT ckTW ckCL k110 := mt_121 (as := k110_a) (cs := k110_c) (gx := []) (f := 200000) rfl (ckHc (k109_ok l) (fun _ h => absurd h List.not_mem_nil)) True.intro (by decide +kernel)
noncomputable def dP152 : List (Nat × ckC) := [(0, .inl (2, [(4, 10), (4, 11), (4, 12), (0, 1), (0, 0), (0, 3), (0, 4), (0, 5), (0, 6), (0, 14), (0, 8), (0, 9), (0, 10), (0, 11), (0, 12), (0, 13)]))]
-- FarMachine$Machine.goTo
noncomputable def k111 : ckCtr := (129, ([(0, (1, 0)), (1, (0, 0))], [], dC141, dT142, [], [], [], [], 0, 0), [([], [], dP152, [], [], [(0, 0)], [], [], [], [], 0, 0)], 1, 80, 0, 0)
noncomputable def k111_a : ckAs := []
noncomputable def k111_c : List (Nat × ckCtr) := []
theorem k111_ok (l : Launch) : ckCtrOk l ckMT ckTW ckCL k111 := mt_129 (as := k111_a) (cs := k111_c) (gx := []) (f := 200000) rfl (fun _ h => absurd h List.not_mem_nil) True.intro (by decide +kernel)
noncomputable def dC153 : List ckC := [.inl (1, [(1, 2), (1, 3), (1, 4), (4, 10), (0, 1)]), .inl (2, [(1, 5), (4, 11), (1, 0), (0, 2), (0, 3), (0, 4), (0, 5), (0, 6), (0, 7), (0, 8), (0, 9), (0, 10), (0, 11), (0, 12), (0, 13), (0, 14)]), .inr (0, 15, 0), .inr (0, 15, 1), .inr (0, 15, 2), .inr (0, 16, 3)]
noncomputable def dT154 : List ckI := [ckTop, ckTop, ckTop, ckTop, ckTop, ckTop, ckTop, ckTop, ckTop, ckTop, ckTop, ckTop, ckTop, ckTop, ckTop, (30, 30), (48, 48)]
noncomputable def dG155 : List ckG := [([(30, ckTop)], [], []), ([(30, ckTop)], [], []), ([(30, ckTop)], [], []), ([(48, ckTop)], [], [])]
noncomputable def dP156 : List (Nat × ckC) := [(1, .inl (2, [(1, 5), (4, 11), (1, 0), (0, 2), (0, 17), (0, 4), (0, 5), (0, 6), (0, 7), (0, 18), (0, 9), (0, 10), (0, 11), (0, 12), (0, 13), (0, 14)])), (5, .inr (0, 16, 4))]
-- FarMachine$Commands.doTo
noncomputable def k112 : ckCtr := (122, ([(0, (1, 0)), (1, (1, 1)), (2, (0, 0))], [], dC153, dT154, dG155, [], [], [], 0, 0), [([], [], dP156, [], [], [ckTop, ckTop], [([(48, ckTop)], [], [])], [], [], [], 0, 0)], 3, 122, 0, 0)
noncomputable def k112_a : ckAs := []
noncomputable def k112_c : List (Nat × ckCtr) := [(2, k109), (30, k18), (38, k109), (61, k111)]
theorem k112_ok (l : Launch) : ckCtrOk l ckMT ckTW ckCL k112 := mt_122 (as := k112_a) (cs := k112_c) (gx := []) (f := 200000) rfl (ckHc (k109_ok l) (ckHc (k18_ok l) (ckHc (k109_ok l) (ckHc (k111_ok l) (fun _ h => absurd h List.not_mem_nil))))) True.intro (by decide +kernel)
noncomputable def dC157 : List ckC := [.inl (1, [(1, 1), (1, 2), (1, 3), (1, 4), (0, 4)]), .inr (0, 5, 0), .inr (0, 5, 1), .inr (0, 5, 2), .inr (0, 5, 3)]
noncomputable def dG158 : List ckG := [([(30, ckTop)], [], []), ([(30, ckTop)], [], []), ([(30, ckTop)], [], []), ([(30, ckTop)], [], [])]
noncomputable def dP159 : List (Nat × ckC) := [(0, .inl (1, [(1, 1), (1, 2), (1, 3), (1, 4), (0, 6)])), (1, .inr (0, 5, 4)), (2, .inr (0, 5, 5)), (3, .inr (0, 5, 6)), (4, .inr (0, 5, 7))]
-- FarMachine$Commands.add
noncomputable def k113 : ckCtr := (120, ([(0, (1, 0)), (1, (0, 0)), (2, (0, 1)), (3, (0, 2)), (4, (0, 3))], [], dC157, [ckTop, ckTop, ckTop, ckTop, ckTop, (30, 30)], dG158, [], [], [], 0, 0), [([], [], dP159, [], [(4, (0, 29))], [(1, 30)], dG158, [], [(4, 6, (-1)), (6, 4, 1)], [], 0, 0), ([], [], [], [], [(4, (30, 2147483647))], [], [], [], [], [], 0, 0), ([], [], [], [], [(4, (-2147483648, -1))], [], [], [], [], [], 0, 0)], 1, 80, 0, 0)
noncomputable def k113_a : ckAs := []
noncomputable def k113_c : List (Nat × ckCtr) := []
theorem k113_ok (l : Launch) : ckCtrOk l ckMT ckTW ckCL k113 := mt_120 (as := k113_a) (cs := k113_c) (gx := []) (f := 200000) rfl (fun _ h => absurd h List.not_mem_nil) True.intro (by decide +kernel)
noncomputable def dC160 : List ckC := [.inl (1, [(1, 1), (1, 2), (1, 3), (1, 4), (0, 0)]), .inr (0, 1, 0), .inr (0, 1, 1), .inr (0, 1, 2), .inr (0, 1, 3)]
noncomputable def dP161 : List (Nat × ckC) := [(0, .inl (1, [(1, 1), (1, 2), (1, 3), (1, 4), (0, 3)])), (1, .inr (0, 1, 4)), (2, .inr (0, 1, 5)), (3, .inr (0, 1, 6)), (4, .inr (0, 1, 7))]
noncomputable def dP162 : List (Nat × ckC) := [(0, .inl (1, [(1, 1), (1, 2), (1, 3), (1, 4), (0, 6)])), (1, .inr (0, 1, 4)), (2, .inr (0, 1, 5)), (3, .inr (0, 1, 6)), (4, .inr (0, 1, 7))]
-- FarMachine$Commands.passHour
noncomputable def k114 : ckCtr := (123, ([(0, (1, 0))], [], dC160, [ckTop, (30, 30)], dG158, [], [], [], 0, 0), [([], [(0, 2)], dP161, [], [], [ckTop, (0, 30)], dG158, [], [], [], 0, 0)], 2, 104, 0, 0)
noncomputable def k114_a : ckAs := [(20, [(709030, [(1, 0, 0, ([(0, (1, 0)), (1, (0, 2)), (2, (0, 5))], [], dP162, [], [], [(0, 30), (0, 30)], dG158, [], [(2, 0, 0), (6, 5, 0)], [], 0, 0))])])]
noncomputable def k114_c : List (Nat × ckCtr) := [(61, k113)]
theorem k114_ok (l : Launch) : ckCtrOk l ckMT ckTW ckCL k114 := mt_123 (as := k114_a) (cs := k114_c) (gx := []) (f := 200000) rfl (ckHc (k113_ok l) (fun _ h => absurd h List.not_mem_nil)) True.intro (by decide +kernel)
noncomputable def dC163 : List ckC := [.inl (2, [(1, 1), (4, 10), (1, 2), (0, 0), (0, 1), (0, 2), (0, 3), (0, 4), (0, 5), (0, 6), (0, 7), (0, 8), (0, 9), (0, 10), (0, 11), (0, 12)]), .inr (0, 13, 0), .inl (1, [(1, 3), (1, 4), (1, 5), (1, 6), (0, 14)]), .inr (0, 15, 1), .inr (0, 15, 2), .inr (0, 15, 3), .inr (0, 15, 4)]
noncomputable def dT164 : List ckI := [ckTop, ckTop, ckTop, ckTop, ckTop, ckTop, ckTop, ckTop, ckTop, ckTop, ckTop, ckTop, ckTop, (48, 48), ckTop, (30, 30)]
noncomputable def dG165 : List ckG := [([(48, ckTop)], [], []), ([(30, ckTop)], [], []), ([(30, ckTop)], [], []), ([(30, ckTop)], [], []), ([(30, ckTop)], [], [])]
noncomputable def dP166 : List (Nat × ckC) := [(0, .inl (2, [(1, 1), (4, 10), (1, 2), (0, 0), (0, 17), (0, 2), (0, 3), (0, 4), (0, 5), (0, 18), (0, 7), (0, 8), (0, 9), (0, 10), (0, 11), (0, 12)])), (1, .inr (0, 13, 5)), (2, .inl (1, [(1, 3), (1, 4), (1, 5), (1, 6), (0, 19)])), (3, .inr (0, 15, 6)), (4, .inr (0, 15, 7)), (5, .inr (0, 15, 8)), (6, .inr (0, 15, 9))]
noncomputable def dP167 : List (Nat × ckC) := [(0, .inl (2, [(1, 1), (4, 10), (1, 2), (0, 0), (0, 18), (0, 2), (0, 3), (0, 4), (0, 5), (0, 19), (0, 7), (0, 8), (0, 9), (0, 10), (0, 11), (0, 12)])), (1, .inr (0, 13, 5))]
-- FarMachine$Machine.receive
noncomputable def k115 : ckCtr := (138, ([(0, (1, 0))], [], dC163, dT164, dG165, [], [], [], 0, 0), [([], [(0, 16)], dP166, [], [], [(1, 1), ckTop, ckTop, (0, 30)], dG165, [], [], [], 0, 0), ([], [(0, 16)], dP166, [], [], [(0, 0), ckTop, ckTop, (0, 30)], dG165, [], [], [], 0, 0)], 4, 144, 0, 0)
noncomputable def k115_a : ckAs := [(2, [(784582, [(1, 0, 0, ([(0, (1, 0)), (1, (0, 17))], [], dP167, [], [], [(0, 2147483647), ckTop, ckTop], [([(48, ckTop)], [], [])], [], [], [], 0, 0))])])]
noncomputable def k115_c : List (Nat × ckCtr) := [(18, k110), (30, k112), (43, k114)]
theorem k115_ok (l : Launch) : ckCtrOk l ckMT ckTW ckCL k115 := mt_138 (as := k115_a) (cs := k115_c) (gx := []) (f := 200000) rfl (ckHc (k110_ok l) (ckHc (k112_ok l) (ckHc (k114_ok l) (fun _ h => absurd h List.not_mem_nil)))) True.intro (by decide +kernel)
-- FarMachine.held
noncomputable def k116 : ckCtr := (41, ([(0, (0, 0)), (1, (0, 1)), (2, (0, 2))], [], [], [ckTop, ckTop, (127, 127)], [], [], [], [], 0, 0), [([], [(0, 3)], [], [], [], [ckTop], [], [], [(0, 3, 0)], [], 0, 0)], 1, 80, 0, 0)
noncomputable def k116_a : ckAs := []
noncomputable def k116_c : List (Nat × ckCtr) := []
theorem k116_ok (l : Launch) : ckCtrOk l ckMT ckTW ckCL k116 := mt_41 (as := k116_a) (cs := k116_c) (gx := []) (f := 200000) rfl (fun _ h => absurd h List.not_mem_nil) True.intro (by decide +kernel)
