/-! THE CHECKER: contracts with their certificates (printed by wip/gen2/p14gen.py) -/
-- FarMachineModel.within
noncomputable def k46 : ckCtr := (46, ([(0, (0, 0)), (1, (0, 1)), (2, (0, 2))], [], [], [ckTop, (1, 1), (99, 99)], [], [], [], [], 0, 0), [([], [(0, 3)], [], [], [(0, (-2147483648, 0))], [(-4, -4)], [], [], [], [], 0, 0), ([], [(0, 3)], [], [], [(0, (100, 2147483647))], [(-6, -6)], [], [], [], [], 0, 0), ([], [(0, 3)], [], [], [(0, (1, 99))], [(0, 0)], [], [], [], [], 0, 0)], 1, 80, 0, 0)
noncomputable def k46_a : ckAs := []
noncomputable def k46_c : List (Nat × ckCtr) := []
theorem k46_ok (l : Launch) : ckCtrOk l ckMT ckTW ckCL k46 := mt_46 (as := k46_a) (cs := k46_c) (gx := []) (f := 200000) rfl (fun _ h => absurd h List.not_mem_nil) True.intro (by decide +kernel)
noncomputable def dT85 : List ckI := [(7, 7), (1, 99), (0, 1), (0, 1), (0, 8), (0, 40), (0, 6), (0, 8), (0, 10), (0, 126000), ckTop, ckTop, ckTop, ckTop, (0, 30), ckTop, ckTop, ckTop, (0, 1), ckTop, (0, 1), (318, 318), (1, 99), (0, 126000)]
noncomputable def dG86 : List ckG := [([(48, ckTop), (49, (0, 47)), (50, ckTop), (51, ckTop), (52, ckTop), (54, ckTop), (55, ckTop), (56, (1, 99)), (57, ckTop), (58, ckTop), (59, ckTop), (76, ckTop), (77, (0, 30)), (197, ckTop), (198, (0, 60)), (318, ckTop)], [(55, 1), (58, 23)], [])]
-- FarMachineModel.set
noncomputable def k47 : ckCtr := (64, ([(0, (1, 0)), (1, (0, 0)), (2, (0, 1))], [], dC75, dT85, dG77, [], [], [(1, 0, 0, 0, [])], 0, 0), [([], [(0, 24)], [(1, .inr (0, 21, 1))], [], [], [(1, 1)], dG86, [], [], [(1, 1, 0, 0, []), (1, 0, 0, 0, [])], 0, 0)], 2, 102, 0, 0)
noncomputable def k47_a : ckAs := []
noncomputable def k47_c : List (Nat × ckCtr) := [(117, k46)]
theorem k47_ok (l : Launch) : ckCtrOk l ckMT ckTW ckCL k47 := mt_64 (as := k47_a) (cs := k47_c) (gx := []) (f := 200000) rfl (ckHc (k46_ok l) (fun _ h => absurd h List.not_mem_nil)) True.intro (by decide +kernel)
-- FarMachineModel.within
noncomputable def k48 : ckCtr := (46, ([(0, (0, 0)), (1, (0, 1)), (2, (0, 2))], [], [], [ckTop, (0, 0), (99, 99)], [], [], [], [], 0, 0), [([], [(0, 3)], [], [], [(0, (-2147483648, -1))], [(-4, -4)], [], [], [], [], 0, 0), ([], [(0, 3)], [], [], [(0, (100, 2147483647))], [(-6, -6)], [], [], [], [], 0, 0), ([], [(0, 1)], [], [], [(0, (0, 99))], [], [], [], [], [], 0, 0)], 1, 80, 0, 0)
noncomputable def k48_a : ckAs := []
noncomputable def k48_c : List (Nat × ckCtr) := []
theorem k48_ok (l : Launch) : ckCtrOk l ckMT ckTW ckCL k48 := mt_46 (as := k48_a) (cs := k48_c) (gx := []) (f := 200000) rfl (fun _ h => absurd h List.not_mem_nil) True.intro (by decide +kernel)
noncomputable def dT87 : List ckI := [(2, 2), (0, 99), (0, 1), (0, 1), (0, 8), (0, 40), (0, 6), (0, 8), (0, 10), (0, 126000), ckTop, ckTop, ckTop, ckTop, (0, 30), ckTop, ckTop, ckTop, (0, 1), ckTop, (0, 1), (318, 318), (1, 99), (0, 126000)]
noncomputable def dG88 : List ckG := [([(48, ckTop), (49, (0, 47)), (50, ckTop), (51, (0, 99)), (52, ckTop), (54, ckTop), (55, ckTop), (56, ckTop), (57, ckTop), (58, ckTop), (59, ckTop), (76, ckTop), (77, (0, 30)), (197, ckTop), (198, (0, 60)), (318, ckTop)], [(50, 1), (55, 22), (58, 23)], [])]
-- FarMachineModel.set
noncomputable def k49 : ckCtr := (64, ([(0, (1, 0)), (1, (0, 0)), (2, (0, 1))], [], dC75, dT87, dG77, [], [], [(1, 0, 0, 0, [])], 0, 0), [([], [(0, 24)], [(1, .inr (0, 21, 1))], [], [], [(1, 1)], dG88, [], [], [(1, 1, 0, 0, []), (1, 0, 0, 0, [])], 0, 0)], 2, 102, 0, 0)
noncomputable def k49_a : ckAs := []
noncomputable def k49_c : List (Nat × ckCtr) := [(83, k48)]
theorem k49_ok (l : Launch) : ckCtrOk l ckMT ckTW ckCL k49 := mt_64 (as := k49_a) (cs := k49_c) (gx := []) (f := 200000) rfl (ckHc (k48_ok l) (fun _ h => absurd h List.not_mem_nil)) True.intro (by decide +kernel)
noncomputable def dT89 : List ckI := [(3, 3), (0, 99), (0, 1), (0, 1), (0, 8), (0, 40), (0, 6), (0, 8), (0, 10), (0, 126000), ckTop, ckTop, ckTop, ckTop, (0, 30), ckTop, ckTop, ckTop, (0, 1), ckTop, (0, 1), (318, 318), (1, 99), (0, 126000)]
noncomputable def dG90 : List ckG := [([(48, ckTop), (49, (0, 47)), (50, ckTop), (51, ckTop), (52, (0, 99)), (54, ckTop), (55, ckTop), (56, ckTop), (57, ckTop), (58, ckTop), (59, ckTop), (76, ckTop), (77, (0, 30)), (197, ckTop), (198, (0, 60)), (318, ckTop)], [(51, 1), (55, 22), (58, 23)], [])]
-- FarMachineModel.set
noncomputable def k50 : ckCtr := (64, ([(0, (1, 0)), (1, (0, 0)), (2, (0, 1))], [], dC75, dT89, dG77, [], [], [(1, 0, 0, 0, [])], 0, 0), [([], [(0, 24)], [(1, .inr (0, 21, 1))], [], [], [(1, 1)], dG90, [], [], [(1, 1, 0, 0, []), (1, 0, 0, 0, [])], 0, 0)], 2, 102, 0, 0)
noncomputable def k50_a : ckAs := []
noncomputable def k50_c : List (Nat × ckCtr) := [(83, k48)]
theorem k50_ok (l : Launch) : ckCtrOk l ckMT ckTW ckCL k50 := mt_64 (as := k50_a) (cs := k50_c) (gx := []) (f := 200000) rfl (ckHc (k48_ok l) (fun _ h => absurd h List.not_mem_nil)) True.intro (by decide +kernel)
noncomputable def dT91 : List ckI := [(6, 6), (0, 99), (0, 1), (0, 1), (0, 8), (0, 40), (0, 6), (0, 8), (0, 10), (0, 126000), ckTop, ckTop, ckTop, ckTop, (0, 30), ckTop, ckTop, ckTop, (0, 1), ckTop, (0, 1), (318, 318), (1, 99), (0, 126000)]
noncomputable def dG92 : List ckG := [([(48, ckTop), (49, (0, 47)), (50, ckTop), (51, ckTop), (52, ckTop), (54, ckTop), (55, (0, 99)), (56, ckTop), (57, ckTop), (58, ckTop), (59, ckTop), (76, ckTop), (77, (0, 30)), (197, ckTop), (198, (0, 60)), (318, ckTop)], [(54, 1), (55, 22), (58, 23)], [])]
-- FarMachineModel.set
noncomputable def k51 : ckCtr := (64, ([(0, (1, 0)), (1, (0, 0)), (2, (0, 1))], [], dC75, dT91, dG77, [], [], [(1, 0, 0, 0, [])], 0, 0), [([], [(0, 24)], [(1, .inr (0, 21, 1))], [], [], [(1, 1)], dG92, [], [], [(1, 1, 0, 0, []), (1, 0, 0, 0, [])], 0, 0)], 2, 102, 0, 0)
noncomputable def k51_a : ckAs := []
noncomputable def k51_c : List (Nat × ckCtr) := [(83, k48)]
theorem k51_ok (l : Launch) : ckCtrOk l ckMT ckTW ckCL k51 := mt_64 (as := k51_a) (cs := k51_c) (gx := []) (f := 200000) rfl (ckHc (k48_ok l) (fun _ h => absurd h List.not_mem_nil)) True.intro (by decide +kernel)
-- FarMachineModel.within
noncomputable def k52 : ckCtr := (46, ([(0, (0, 0)), (1, (0, 1)), (2, (0, 2))], [], [], [ckTop, (-128, -128), (127, 127)], [], [], [], [], 0, 0), [([], [(0, 3)], [], [], [(0, (-2147483648, -129))], [(-4, -4)], [], [], [], [], 0, 0), ([], [(0, 3)], [], [], [(0, (128, 2147483647))], [(-6, -6)], [], [], [], [], 0, 0), ([], [(0, 3)], [], [], [(0, (-128, 127))], [(0, 0)], [], [], [], [], 0, 0)], 1, 80, 0, 0)
noncomputable def k52_a : ckAs := []
noncomputable def k52_c : List (Nat × ckCtr) := []
theorem k52_ok (l : Launch) : ckCtrOk l ckMT ckTW ckCL k52 := mt_46 (as := k52_a) (cs := k52_c) (gx := []) (f := 200000) rfl (fun _ h => absurd h List.not_mem_nil) True.intro (by decide +kernel)
noncomputable def dT93 : List ckI := [(1, 1), (-128, 127), (0, 1), (0, 1), (0, 8), (0, 40), (0, 6), (0, 8), (0, 10), (0, 126000), ckTop, ckTop, ckTop, ckTop, (0, 30), ckTop, ckTop, ckTop, (0, 1), ckTop, (0, 1), (318, 318), (1, 99), (0, 126000)]
noncomputable def dG94 : List ckG := [([(48, ckTop), (49, (0, 47)), (50, (-128, 127)), (51, ckTop), (52, ckTop), (54, ckTop), (55, ckTop), (56, ckTop), (57, ckTop), (58, ckTop), (59, ckTop), (76, ckTop), (77, (0, 30)), (197, ckTop), (198, (0, 60)), (318, ckTop)], [(49, 1), (55, 22), (58, 23)], [])]
-- FarMachineModel.set
noncomputable def k53 : ckCtr := (64, ([(0, (1, 0)), (1, (0, 0)), (2, (0, 1))], [], dC75, dT93, dG77, [], [], [(1, 0, 0, 0, [])], 0, 0), [([], [(0, 0)], [(1, .inr (0, 21, 1))], [], [], [], dG94, [], [], [(1, 1, 0, 0, []), (1, 0, 0, 0, [])], 0, 0)], 2, 102, 0, 0)
noncomputable def k53_a : ckAs := []
noncomputable def k53_c : List (Nat × ckCtr) := [(72, k52)]
theorem k53_ok (l : Launch) : ckCtrOk l ckMT ckTW ckCL k53 := mt_64 (as := k53_a) (cs := k53_c) (gx := []) (f := 200000) rfl (ckHc (k52_ok l) (fun _ h => absurd h List.not_mem_nil)) True.intro (by decide +kernel)
-- FarMachineModel.within
noncomputable def k54 : ckCtr := (46, ([(0, (0, 0)), (1, (0, 1)), (2, (0, 2))], [], [], [ckTop, (1, 1), (999, 999)], [], [], [], [], 0, 0), [([], [(0, 3)], [], [], [(0, (-2147483648, 0))], [(-4, -4)], [], [], [], [], 0, 0), ([], [(0, 3)], [], [], [(0, (1000, 2147483647))], [(-6, -6)], [], [], [], [], 0, 0), ([], [(0, 3)], [], [], [(0, (1, 999))], [(0, 0)], [], [], [], [], 0, 0)], 1, 80, 0, 0)
noncomputable def k54_a : ckAs := []
noncomputable def k54_c : List (Nat × ckCtr) := []
theorem k54_ok (l : Launch) : ckCtrOk l ckMT ckTW ckCL k54 := mt_46 (as := k54_a) (cs := k54_c) (gx := []) (f := 200000) rfl (fun _ h => absurd h List.not_mem_nil) True.intro (by decide +kernel)
noncomputable def dT95 : List ckI := [(8, 8), (1, 999), (0, 1), (0, 1), (0, 8), (0, 40), (0, 6), (0, 8), (0, 10), (0, 126000), ckTop, ckTop, ckTop, ckTop, (0, 30), ckTop, ckTop, ckTop, (0, 1), ckTop, (0, 1), (318, 318), (1, 99), (0, 126000)]
noncomputable def dG96 : List ckG := [([(48, ckTop), (49, (0, 47)), (50, ckTop), (51, ckTop), (52, ckTop), (54, ckTop), (55, ckTop), (56, ckTop), (57, (1, 999)), (58, ckTop), (59, ckTop), (76, ckTop), (77, (0, 30)), (197, ckTop), (198, (0, 60)), (318, ckTop)], [(55, 22), (56, 1), (58, 23)], [])]
-- FarMachineModel.set
noncomputable def k55 : ckCtr := (64, ([(0, (1, 0)), (1, (0, 0)), (2, (0, 1))], [], dC75, dT95, dG77, [], [], [(1, 0, 0, 0, [])], 0, 0), [([], [(0, 24)], [(1, .inr (0, 21, 1))], [], [], [(1, 1)], dG96, [], [], [(1, 1, 0, 0, []), (1, 0, 0, 0, [])], 0, 0)], 2, 102, 0, 0)
noncomputable def k55_a : ckAs := []
noncomputable def k55_c : List (Nat × ckCtr) := [(129, k54)]
theorem k55_ok (l : Launch) : ckCtrOk l ckMT ckTW ckCL k55 := mt_64 (as := k55_a) (cs := k55_c) (gx := []) (f := 200000) rfl (ckHc (k54_ok l) (fun _ h => absurd h List.not_mem_nil)) True.intro (by decide +kernel)
noncomputable def dC97 : List ckC := [.inl (9, [(1, 1), (4, 10), (4, 11), (4, 12), (4, 13), (4, 14), (4, 15), (4, 16), (4, 17), (4, 18), (4, 19), (4, 20), (4, 21), (4, 22), (4, 23), (4, 24), (0, 2), (0, 3), (0, 4), (0, 5), (0, 6), (0, 7), (0, 8), (4, 25), (0, 9), (4, 26), (0, 10), (0, 11), (0, 12), (0, 13), (4, 27), (0, 14), (0, 15), (0, 16), (0, 17), (5, 0), (5, 0), (0, 18), (4, 28), (4, 29), (0, 19), (0, 20)]), .inr (0, 21, 0)]
noncomputable def dT98 : List ckI := [(8, 8), (1000, 2147483647), (0, 1), (0, 1), (0, 8), (0, 40), (0, 6), (0, 8), (0, 10), (0, 126000), ckTop, ckTop, ckTop, ckTop, (0, 30), ckTop, ckTop, ckTop, (0, 1), ckTop, (0, 1), (7, 7)]
-- FarMachineModel.set
noncomputable def k56 : ckCtr := (64, ([(0, (1, 0)), (1, (0, 0)), (2, (0, 1))], [], dC97, dT98, [([(7, ckTop)], [], [])], [], [], [], 0, 0), [([], [(0, 22)], [(1, .inr (0, 21, 1))], [], [], [(-6, -6), ckTop], [([(6, ckTop), (7, ckTop)], [(6, 23)], [])], [], [], [], 0, 0)], 2, 102, 0, 0)
noncomputable def k56_a : ckAs := []
noncomputable def k56_c : List (Nat × ckCtr) := [(129, k54), (156, k23)]
theorem k56_ok (l : Launch) : ckCtrOk l ckMT ckTW ckCL k56 := mt_64 (as := k56_a) (cs := k56_c) (gx := []) (f := 200000) rfl (ckHc (k54_ok l) (ckHc (k23_ok l) (fun _ h => absurd h List.not_mem_nil))) True.intro (by decide +kernel)
noncomputable def dT99 : List ckI := [(1, 1), (-2147483648, -129), (0, 1), (0, 1), (0, 8), (0, 40), (0, 6), (0, 8), (0, 10), (0, 126000), ckTop, ckTop, ckTop, ckTop, (0, 30), ckTop, ckTop, ckTop, (0, 1), ckTop, (0, 1), (7, 7)]
-- FarMachineModel.set
noncomputable def k57 : ckCtr := (64, ([(0, (1, 0)), (1, (0, 0)), (2, (0, 1))], [], dC97, dT99, [([(7, ckTop)], [], [])], [], [], [], 0, 0), [([], [(0, 22)], [(1, .inr (0, 21, 1))], [], [], [(-4, -4), ckTop], [([(4, ckTop), (5, ckTop), (7, ckTop)], [(4, 23)], [])], [], [], [], 0, 0)], 2, 102, 0, 0)
noncomputable def k57_a : ckAs := []
noncomputable def k57_c : List (Nat × ckCtr) := [(72, k52), (156, k24)]
theorem k57_ok (l : Launch) : ckCtrOk l ckMT ckTW ckCL k57 := mt_64 (as := k57_a) (cs := k57_c) (gx := []) (f := 200000) rfl (ckHc (k52_ok l) (ckHc (k24_ok l) (fun _ h => absurd h List.not_mem_nil))) True.intro (by decide +kernel)
noncomputable def dT100 : List ckI := [(1, 1), (128, 2147483647), (0, 1), (0, 1), (0, 8), (0, 40), (0, 6), (0, 8), (0, 10), (0, 126000), ckTop, ckTop, ckTop, ckTop, (0, 30), ckTop, ckTop, ckTop, (0, 1), ckTop, (0, 1), (7, 7)]
-- FarMachineModel.set
noncomputable def k58 : ckCtr := (64, ([(0, (1, 0)), (1, (0, 0)), (2, (0, 1))], [], dC97, dT100, [([(7, ckTop)], [], [])], [], [], [], 0, 0), [([], [(0, 22)], [(1, .inr (0, 21, 1))], [], [], [(-6, -6), ckTop], [([(6, ckTop), (7, ckTop)], [(6, 23)], [])], [], [], [], 0, 0)], 2, 102, 0, 0)
noncomputable def k58_a : ckAs := []
noncomputable def k58_c : List (Nat × ckCtr) := [(72, k52), (156, k23)]
theorem k58_ok (l : Launch) : ckCtrOk l ckMT ckTW ckCL k58 := mt_64 (as := k58_a) (cs := k58_c) (gx := []) (f := 200000) rfl (ckHc (k52_ok l) (ckHc (k23_ok l) (fun _ h => absurd h List.not_mem_nil))) True.intro (by decide +kernel)
noncomputable def dT101 : List ckI := [(2, 2), (100, 2147483647), (0, 1), (0, 1), (0, 8), (0, 40), (0, 6), (0, 8), (0, 10), (0, 126000), ckTop, ckTop, ckTop, ckTop, (0, 30), ckTop, ckTop, ckTop, (0, 1), ckTop, (0, 1), (7, 7)]
-- FarMachineModel.set
noncomputable def k59 : ckCtr := (64, ([(0, (1, 0)), (1, (0, 0)), (2, (0, 1))], [], dC97, dT101, [([(7, ckTop)], [], [])], [], [], [], 0, 0), [([], [(0, 22)], [(1, .inr (0, 21, 1))], [], [], [(-6, -6), ckTop], [([(6, ckTop), (7, ckTop)], [(6, 23)], [])], [], [], [], 0, 0)], 2, 102, 0, 0)
noncomputable def k59_a : ckAs := []
noncomputable def k59_c : List (Nat × ckCtr) := [(83, k48), (156, k23)]
theorem k59_ok (l : Launch) : ckCtrOk l ckMT ckTW ckCL k59 := mt_64 (as := k59_a) (cs := k59_c) (gx := []) (f := 200000) rfl (ckHc (k48_ok l) (ckHc (k23_ok l) (fun _ h => absurd h List.not_mem_nil))) True.intro (by decide +kernel)
noncomputable def dT102 : List ckI := [(3, 3), (100, 2147483647), (0, 1), (0, 1), (0, 8), (0, 40), (0, 6), (0, 8), (0, 10), (0, 126000), ckTop, ckTop, ckTop, ckTop, (0, 30), ckTop, ckTop, ckTop, (0, 1), ckTop, (0, 1), (7, 7)]
-- FarMachineModel.set
noncomputable def k60 : ckCtr := (64, ([(0, (1, 0)), (1, (0, 0)), (2, (0, 1))], [], dC97, dT102, [([(7, ckTop)], [], [])], [], [], [], 0, 0), [([], [(0, 22)], [(1, .inr (0, 21, 1))], [], [], [(-6, -6), ckTop], [([(6, ckTop), (7, ckTop)], [(6, 23)], [])], [], [], [], 0, 0)], 2, 102, 0, 0)
noncomputable def k60_a : ckAs := []
noncomputable def k60_c : List (Nat × ckCtr) := [(83, k48), (156, k23)]
theorem k60_ok (l : Launch) : ckCtrOk l ckMT ckTW ckCL k60 := mt_64 (as := k60_a) (cs := k60_c) (gx := []) (f := 200000) rfl (ckHc (k48_ok l) (ckHc (k23_ok l) (fun _ h => absurd h List.not_mem_nil))) True.intro (by decide +kernel)
noncomputable def dT103 : List ckI := [(6, 6), (100, 2147483647), (0, 1), (0, 1), (0, 8), (0, 40), (0, 6), (0, 8), (0, 10), (0, 126000), ckTop, ckTop, ckTop, ckTop, (0, 30), ckTop, ckTop, ckTop, (0, 1), ckTop, (0, 1), (7, 7)]
-- FarMachineModel.set
noncomputable def k61 : ckCtr := (64, ([(0, (1, 0)), (1, (0, 0)), (2, (0, 1))], [], dC97, dT103, [([(7, ckTop)], [], [])], [], [], [], 0, 0), [([], [(0, 22)], [(1, .inr (0, 21, 1))], [], [], [(-6, -6), ckTop], [([(6, ckTop), (7, ckTop)], [(6, 23)], [])], [], [], [], 0, 0)], 2, 102, 0, 0)
noncomputable def k61_a : ckAs := []
noncomputable def k61_c : List (Nat × ckCtr) := [(83, k48), (156, k23)]
theorem k61_ok (l : Launch) : ckCtrOk l ckMT ckTW ckCL k61 := mt_64 (as := k61_a) (cs := k61_c) (gx := []) (f := 200000) rfl (ckHc (k48_ok l) (ckHc (k23_ok l) (fun _ h => absurd h List.not_mem_nil))) True.intro (by decide +kernel)
noncomputable def dC104 : List ckC := [.inl (9, [(1, 1), (4, 10), (4, 11), (4, 12), (4, 13), (4, 14), (4, 15), (4, 16), (4, 17), (4, 18), (4, 19), (4, 20), (4, 21), (4, 22), (4, 23), (4, 24), (0, 2), (0, 3), (0, 4), (0, 5), (0, 6), (0, 7), (0, 8), (4, 25), (0, 9), (4, 26), (0, 10), (0, 11), (0, 12), (0, 13), (4, 27), (0, 14), (0, 15), (0, 16), (0, 17), (5, 0), (5, 0), (0, 18), (4, 28), (4, 29), (0, 19), (0, 20)]), .inr (0, 0, 0)]
noncomputable def dT105 : List ckI := [(7, 7), (100, 2147483647), (0, 1), (0, 1), (0, 8), (0, 40), (0, 6), (0, 8), (0, 10), (0, 126000), ckTop, ckTop, ckTop, ckTop, (0, 30), ckTop, ckTop, ckTop, (0, 1), ckTop, (0, 1)]
-- FarMachineModel.set
noncomputable def k62 : ckCtr := (64, ([(0, (1, 0)), (1, (0, 0)), (2, (0, 1))], [], dC104, dT105, [([(7, ckTop)], [], [])], [], [], [], 0, 0), [([], [(0, 21)], [(1, .inr (0, 0, 1))], [], [], [(-6, -6), ckTop], [([(6, ckTop), (7, ckTop)], [(6, 22)], [])], [], [], [], 0, 0)], 2, 102, 0, 0)
noncomputable def k62_a : ckAs := []
noncomputable def k62_c : List (Nat × ckCtr) := [(117, k46), (156, k23)]
theorem k62_ok (l : Launch) : ckCtrOk l ckMT ckTW ckCL k62 := mt_64 (as := k62_a) (cs := k62_c) (gx := []) (f := 200000) rfl (ckHc (k46_ok l) (ckHc (k23_ok l) (fun _ h => absurd h List.not_mem_nil))) True.intro (by decide +kernel)
noncomputable def dT106 : List ckI := [(0, 0), (48, 2147483647), (0, 1), (0, 1), (0, 8), (0, 40), (0, 6), (0, 8), (0, 10), (0, 126000), ckTop, ckTop, ckTop, ckTop, (0, 30), ckTop, ckTop, ckTop, (0, 1), ckTop, (0, 1), (7, 7)]
-- FarMachineModel.set
noncomputable def k63 : ckCtr := (64, ([(0, (1, 0)), (1, (0, 0)), (2, (0, 1))], [], dC97, dT106, [([(7, ckTop)], [], [])], [], [], [], 0, 0), [([], [(0, 22)], [(1, .inr (0, 21, 1))], [], [], [(-6, -6), ckTop], [([(6, ckTop), (7, ckTop)], [(6, 23)], [])], [], [], [], 0, 0)], 2, 102, 0, 0)
noncomputable def k63_a : ckAs := []
noncomputable def k63_c : List (Nat × ckCtr) := [(60, k44), (156, k23)]
theorem k63_ok (l : Launch) : ckCtrOk l ckMT ckTW ckCL k63 := mt_64 (as := k63_a) (cs := k63_c) (gx := []) (f := 200000) rfl (ckHc (k44_ok l) (ckHc (k23_ok l) (fun _ h => absurd h List.not_mem_nil))) True.intro (by decide +kernel)
noncomputable def dT107 : List ckI := [(5, 5), (32, 2147483647), (0, 1), (0, 1), (0, 8), (0, 40), (0, 6), (0, 8), (0, 10), (0, 126000), ckTop, ckTop, ckTop, ckTop, (0, 30), ckTop, ckTop, ckTop, (0, 1), ckTop, (0, 1), (7, 7)]
-- FarMachineModel.set
noncomputable def k64 : ckCtr := (64, ([(0, (1, 0)), (1, (0, 0)), (2, (0, 1))], [], dC97, dT107, [([(7, ckTop)], [], [])], [], [], [], 0, 0), [([], [(0, 22)], [(1, .inr (0, 21, 1))], [], [], [(-6, -6), ckTop], [([(6, ckTop), (7, ckTop)], [(6, 23)], [])], [], [], [], 0, 0)], 2, 102, 0, 0)
noncomputable def k64_a : ckAs := []
noncomputable def k64_c : List (Nat × ckCtr) := [(106, k40), (156, k23)]
theorem k64_ok (l : Launch) : ckCtrOk l ckMT ckTW ckCL k64 := mt_64 (as := k64_a) (cs := k64_c) (gx := []) (f := 200000) rfl (ckHc (k40_ok l) (ckHc (k23_ok l) (fun _ h => absurd h List.not_mem_nil))) True.intro (by decide +kernel)
noncomputable def dT108 : List ckI := [(4, 4), (21, 2147483647), (0, 1), (0, 1), (0, 8), (0, 40), (0, 6), (0, 8), (0, 10), (0, 126000), ckTop, ckTop, ckTop, ckTop, (0, 30), ckTop, ckTop, ckTop, (0, 1), ckTop, (0, 1), (7, 7)]
-- FarMachineModel.set
noncomputable def k65 : ckCtr := (64, ([(0, (1, 0)), (1, (0, 0)), (2, (0, 1))], [], dC97, dT108, [([(7, ckTop)], [], [])], [], [], [], 0, 0), [([], [(0, 22)], [(1, .inr (0, 21, 1))], [], [], [(-6, -6), ckTop], [([(6, ckTop), (7, ckTop)], [(6, 23)], [])], [], [], [], 0, 0)], 2, 102, 0, 0)
noncomputable def k65_a : ckAs := []
noncomputable def k65_c : List (Nat × ckCtr) := [(95, k42), (156, k23)]
theorem k65_ok (l : Launch) : ckCtrOk l ckMT ckTW ckCL k65 := mt_64 (as := k65_a) (cs := k65_c) (gx := []) (f := 200000) rfl (ckHc (k42_ok l) (ckHc (k23_ok l) (fun _ h => absurd h List.not_mem_nil))) True.intro (by decide +kernel)
noncomputable def dT109 : List ckI := [(9, 9), (21, 2147483647), (0, 1), (0, 1), (0, 8), (0, 40), (0, 6), (0, 8), (0, 10), (0, 126000), ckTop, ckTop, ckTop, ckTop, (0, 30), ckTop, ckTop, ckTop, (0, 1), ckTop, (0, 1), (7, 7)]
-- FarMachineModel.set
noncomputable def k66 : ckCtr := (64, ([(0, (1, 0)), (1, (0, 0)), (2, (0, 1))], [], dC97, dT109, [([(7, ckTop)], [], [])], [], [], [], 0, 0), [([], [(0, 22)], [(1, .inr (0, 21, 1))], [], [], [(-6, -6), ckTop], [([(6, ckTop), (7, ckTop)], [(6, 23)], [])], [], [], [], 0, 0)], 2, 102, 0, 0)
noncomputable def k66_a : ckAs := []
noncomputable def k66_c : List (Nat × ckCtr) := [(140, k38), (156, k23)]
theorem k66_ok (l : Launch) : ckCtrOk l ckMT ckTW ckCL k66 := mt_64 (as := k66_a) (cs := k66_c) (gx := []) (f := 200000) rfl (ckHc (k38_ok l) (ckHc (k23_ok l) (fun _ h => absurd h List.not_mem_nil))) True.intro (by decide +kernel)
noncomputable def dT110 : List ckI := [(4, 4), (-2147483648, -21), (0, 1), (0, 1), (0, 8), (0, 40), (0, 6), (0, 8), (0, 10), (0, 126000), ckTop, ckTop, ckTop, ckTop, (0, 30), ckTop, ckTop, ckTop, (0, 1), ckTop, (0, 1), (7, 7)]
-- FarMachineModel.set
noncomputable def k67 : ckCtr := (64, ([(0, (1, 0)), (1, (0, 0)), (2, (0, 1))], [], dC97, dT110, [([(7, ckTop)], [], [])], [], [], [], 0, 0), [([], [(0, 22)], [(1, .inr (0, 21, 1))], [], [], [(-4, -4), ckTop], [([(4, ckTop), (5, ckTop), (7, ckTop)], [(4, 23)], [])], [], [], [], 0, 0)], 2, 102, 0, 0)
noncomputable def k67_a : ckAs := []
noncomputable def k67_c : List (Nat × ckCtr) := [(95, k42), (156, k24)]
theorem k67_ok (l : Launch) : ckCtrOk l ckMT ckTW ckCL k67 := mt_64 (as := k67_a) (cs := k67_c) (gx := []) (f := 200000) rfl (ckHc (k42_ok l) (ckHc (k24_ok l) (fun _ h => absurd h List.not_mem_nil))) True.intro (by decide +kernel)
noncomputable def dT111 : List ckI := [(0, 0), (-2147483648, -1), (0, 1), (0, 1), (0, 8), (0, 40), (0, 6), (0, 8), (0, 10), (0, 126000), ckTop, ckTop, ckTop, ckTop, (0, 30), ckTop, ckTop, ckTop, (0, 1), ckTop, (0, 1), (7, 7)]
-- FarMachineModel.set
noncomputable def k68 : ckCtr := (64, ([(0, (1, 0)), (1, (0, 0)), (2, (0, 1))], [], dC97, dT111, [([(7, ckTop)], [], [])], [], [], [], 0, 0), [([], [(0, 22)], [(1, .inr (0, 21, 1))], [], [], [(-4, -4), ckTop], [([(4, ckTop), (5, ckTop), (7, ckTop)], [(4, 23)], [])], [], [], [], 0, 0)], 2, 102, 0, 0)
noncomputable def k68_a : ckAs := []
noncomputable def k68_c : List (Nat × ckCtr) := [(60, k44), (156, k24)]
theorem k68_ok (l : Launch) : ckCtrOk l ckMT ckTW ckCL k68 := mt_64 (as := k68_a) (cs := k68_c) (gx := []) (f := 200000) rfl (ckHc (k44_ok l) (ckHc (k24_ok l) (fun _ h => absurd h List.not_mem_nil))) True.intro (by decide +kernel)
noncomputable def dT112 : List ckI := [(2, 2), (-2147483648, -1), (0, 1), (0, 1), (0, 8), (0, 40), (0, 6), (0, 8), (0, 10), (0, 126000), ckTop, ckTop, ckTop, ckTop, (0, 30), ckTop, ckTop, ckTop, (0, 1), ckTop, (0, 1), (7, 7)]
-- FarMachineModel.set
noncomputable def k69 : ckCtr := (64, ([(0, (1, 0)), (1, (0, 0)), (2, (0, 1))], [], dC97, dT112, [([(7, ckTop)], [], [])], [], [], [], 0, 0), [([], [(0, 22)], [(1, .inr (0, 21, 1))], [], [], [(-4, -4), ckTop], [([(4, ckTop), (5, ckTop), (7, ckTop)], [(4, 23)], [])], [], [], [], 0, 0)], 2, 102, 0, 0)
noncomputable def k69_a : ckAs := []
noncomputable def k69_c : List (Nat × ckCtr) := [(83, k48), (156, k24)]
theorem k69_ok (l : Launch) : ckCtrOk l ckMT ckTW ckCL k69 := mt_64 (as := k69_a) (cs := k69_c) (gx := []) (f := 200000) rfl (ckHc (k48_ok l) (ckHc (k24_ok l) (fun _ h => absurd h List.not_mem_nil))) True.intro (by decide +kernel)
noncomputable def dT113 : List ckI := [(3, 3), (-2147483648, -1), (0, 1), (0, 1), (0, 8), (0, 40), (0, 6), (0, 8), (0, 10), (0, 126000), ckTop, ckTop, ckTop, ckTop, (0, 30), ckTop, ckTop, ckTop, (0, 1), ckTop, (0, 1), (7, 7)]
-- FarMachineModel.set
noncomputable def k70 : ckCtr := (64, ([(0, (1, 0)), (1, (0, 0)), (2, (0, 1))], [], dC97, dT113, [([(7, ckTop)], [], [])], [], [], [], 0, 0), [([], [(0, 22)], [(1, .inr (0, 21, 1))], [], [], [(-4, -4), ckTop], [([(4, ckTop), (5, ckTop), (7, ckTop)], [(4, 23)], [])], [], [], [], 0, 0)], 2, 102, 0, 0)
noncomputable def k70_a : ckAs := []
noncomputable def k70_c : List (Nat × ckCtr) := [(83, k48), (156, k24)]
theorem k70_ok (l : Launch) : ckCtrOk l ckMT ckTW ckCL k70 := mt_64 (as := k70_a) (cs := k70_c) (gx := []) (f := 200000) rfl (ckHc (k48_ok l) (ckHc (k24_ok l) (fun _ h => absurd h List.not_mem_nil))) True.intro (by decide +kernel)
noncomputable def dT114 : List ckI := [(5, 5), (-2147483648, -1), (0, 1), (0, 1), (0, 8), (0, 40), (0, 6), (0, 8), (0, 10), (0, 126000), ckTop, ckTop, ckTop, ckTop, (0, 30), ckTop, ckTop, ckTop, (0, 1), ckTop, (0, 1), (7, 7)]
-- FarMachineModel.set
noncomputable def k71 : ckCtr := (64, ([(0, (1, 0)), (1, (0, 0)), (2, (0, 1))], [], dC97, dT114, [([(7, ckTop)], [], [])], [], [], [], 0, 0), [([], [(0, 22)], [(1, .inr (0, 21, 1))], [], [], [(-4, -4), ckTop], [([(4, ckTop), (5, ckTop), (7, ckTop)], [(4, 23)], [])], [], [], [], 0, 0)], 2, 102, 0, 0)
noncomputable def k71_a : ckAs := []
noncomputable def k71_c : List (Nat × ckCtr) := [(106, k40), (156, k24)]
theorem k71_ok (l : Launch) : ckCtrOk l ckMT ckTW ckCL k71 := mt_64 (as := k71_a) (cs := k71_c) (gx := []) (f := 200000) rfl (ckHc (k40_ok l) (ckHc (k24_ok l) (fun _ h => absurd h List.not_mem_nil))) True.intro (by decide +kernel)
noncomputable def dT115 : List ckI := [(6, 6), (-2147483648, -1), (0, 1), (0, 1), (0, 8), (0, 40), (0, 6), (0, 8), (0, 10), (0, 126000), ckTop, ckTop, ckTop, ckTop, (0, 30), ckTop, ckTop, ckTop, (0, 1), ckTop, (0, 1), (7, 7)]
-- FarMachineModel.set
noncomputable def k72 : ckCtr := (64, ([(0, (1, 0)), (1, (0, 0)), (2, (0, 1))], [], dC97, dT115, [([(7, ckTop)], [], [])], [], [], [], 0, 0), [([], [(0, 22)], [(1, .inr (0, 21, 1))], [], [], [(-4, -4), ckTop], [([(4, ckTop), (5, ckTop), (7, ckTop)], [(4, 23)], [])], [], [], [], 0, 0)], 2, 102, 0, 0)
noncomputable def k72_a : ckAs := []
noncomputable def k72_c : List (Nat × ckCtr) := [(83, k48), (156, k24)]
theorem k72_ok (l : Launch) : ckCtrOk l ckMT ckTW ckCL k72 := mt_64 (as := k72_a) (cs := k72_c) (gx := []) (f := 200000) rfl (ckHc (k48_ok l) (ckHc (k24_ok l) (fun _ h => absurd h List.not_mem_nil))) True.intro (by decide +kernel)
noncomputable def dT116 : List ckI := [(9, 9), (-2147483648, -1), (0, 1), (0, 1), (0, 8), (0, 40), (0, 6), (0, 8), (0, 10), (0, 126000), ckTop, ckTop, ckTop, ckTop, (0, 30), ckTop, ckTop, ckTop, (0, 1), ckTop, (0, 1), (7, 7)]
-- FarMachineModel.set
noncomputable def k73 : ckCtr := (64, ([(0, (1, 0)), (1, (0, 0)), (2, (0, 1))], [], dC97, dT116, [([(7, ckTop)], [], [])], [], [], [], 0, 0), [([], [(0, 22)], [(1, .inr (0, 21, 1))], [], [], [(-4, -4), ckTop], [([(4, ckTop), (5, ckTop), (7, ckTop)], [(4, 23)], [])], [], [], [], 0, 0)], 2, 102, 0, 0)
noncomputable def k73_a : ckAs := []
noncomputable def k73_c : List (Nat × ckCtr) := [(140, k38), (156, k24)]
theorem k73_ok (l : Launch) : ckCtrOk l ckMT ckTW ckCL k73 := mt_64 (as := k73_a) (cs := k73_c) (gx := []) (f := 200000) rfl (ckHc (k38_ok l) (ckHc (k24_ok l) (fun _ h => absurd h List.not_mem_nil))) True.intro (by decide +kernel)
noncomputable def dT117 : List ckI := [(7, 7), (-2147483648, 0), (0, 1), (0, 1), (0, 8), (0, 40), (0, 6), (0, 8), (0, 10), (0, 126000), ckTop, ckTop, ckTop, ckTop, (0, 30), ckTop, ckTop, ckTop, (0, 1), ckTop, (0, 1)]
-- FarMachineModel.set
noncomputable def k74 : ckCtr := (64, ([(0, (1, 0)), (1, (0, 0)), (2, (0, 1))], [], dC104, dT117, [([(7, ckTop)], [], [])], [], [], [], 0, 0), [([], [(0, 21)], [(1, .inr (0, 0, 1))], [], [], [(-4, -4), ckTop], [([(4, ckTop), (5, ckTop), (7, ckTop)], [(4, 22)], [])], [], [], [], 0, 0)], 2, 102, 0, 0)
noncomputable def k74_a : ckAs := []
noncomputable def k74_c : List (Nat × ckCtr) := [(117, k46), (156, k24)]
theorem k74_ok (l : Launch) : ckCtrOk l ckMT ckTW ckCL k74 := mt_64 (as := k74_a) (cs := k74_c) (gx := []) (f := 200000) rfl (ckHc (k46_ok l) (ckHc (k24_ok l) (fun _ h => absurd h List.not_mem_nil))) True.intro (by decide +kernel)
noncomputable def dT118 : List ckI := [(8, 8), (-2147483648, 0), (0, 1), (0, 1), (0, 8), (0, 40), (0, 6), (0, 8), (0, 10), (0, 126000), ckTop, ckTop, ckTop, ckTop, (0, 30), ckTop, ckTop, ckTop, (0, 1), ckTop, (0, 1), (7, 7)]
-- FarMachineModel.set
noncomputable def k75 : ckCtr := (64, ([(0, (1, 0)), (1, (0, 0)), (2, (0, 1))], [], dC97, dT118, [([(7, ckTop)], [], [])], [], [], [], 0, 0), [([], [(0, 22)], [(1, .inr (0, 21, 1))], [], [], [(-4, -4), ckTop], [([(4, ckTop), (5, ckTop), (7, ckTop)], [(4, 23)], [])], [], [], [], 0, 0)], 2, 102, 0, 0)
noncomputable def k75_a : ckAs := []
noncomputable def k75_c : List (Nat × ckCtr) := [(129, k54), (156, k24)]
theorem k75_ok (l : Launch) : ckCtrOk l ckMT ckTW ckCL k75 := mt_64 (as := k75_a) (cs := k75_c) (gx := []) (f := 200000) rfl (ckHc (k54_ok l) (ckHc (k24_ok l) (fun _ h => absurd h List.not_mem_nil))) True.intro (by decide +kernel)
noncomputable def dT119 : List ckI := [(10, 2147483647), ckTop, (0, 1), (0, 1), (0, 8), (0, 40), (0, 6), (0, 8), (0, 10), (0, 126000), ckTop, ckTop, ckTop, ckTop, (0, 30), ckTop, ckTop, ckTop, (0, 1), ckTop, (0, 1), (7, 7)]
-- FarMachineModel.set
noncomputable def k76 : ckCtr := (64, ([(0, (1, 0)), (1, (0, 0)), (2, (0, 1))], [], dC97, dT119, [([(7, ckTop)], [], [])], [], [], [], 0, 0), [([], [(0, 22)], [(1, .inr (0, 21, 1))], [], [], [(-2, -2), ckTop], [([(2, ckTop), (3, ckTop), (7, ckTop)], [(2, 23)], [])], [], [], [], 0, 0)], 2, 101, 0, 0)
noncomputable def k76_a : ckAs := []
noncomputable def k76_c : List (Nat × ckCtr) := [(156, k33)]
theorem k76_ok (l : Launch) : ckCtrOk l ckMT ckTW ckCL k76 := mt_64 (as := k76_a) (cs := k76_c) (gx := []) (f := 200000) rfl (ckHc (k33_ok l) (fun _ h => absurd h List.not_mem_nil)) True.intro (by decide +kernel)
noncomputable def dT120 : List ckI := [(-2147483648, -1), ckTop, (0, 1), (0, 1), (0, 8), (0, 40), (0, 6), (0, 8), (0, 10), (0, 126000), ckTop, ckTop, ckTop, ckTop, (0, 30), ckTop, ckTop, ckTop, (0, 1), ckTop, (0, 1), (7, 7)]
-- FarMachineModel.set
noncomputable def k77 : ckCtr := (64, ([(0, (1, 0)), (1, (0, 0)), (2, (0, 1))], [], dC97, dT120, [([(7, ckTop)], [], [])], [], [], [], 0, 0), [([], [(0, 22)], [(1, .inr (0, 21, 1))], [], [], [(-2, -2), ckTop], [([(2, ckTop), (3, ckTop), (7, ckTop)], [(2, 23)], [])], [], [], [], 0, 0)], 2, 101, 0, 0)
noncomputable def k77_a : ckAs := []
noncomputable def k77_c : List (Nat × ckCtr) := [(156, k33)]
theorem k77_ok (l : Launch) : ckCtrOk l ckMT ckTW ckCL k77 := mt_64 (as := k77_a) (cs := k77_c) (gx := []) (f := 200000) rfl (ckHc (k33_ok l) (fun _ h => absurd h List.not_mem_nil)) True.intro (by decide +kernel)
noncomputable def dC121 : List ckC := [.inl (2, [(4, 10), (1, 1), (4, 11), (0, 1), (0, 2), (0, 3), (0, 4), (0, 5), (0, 6), (0, 7), (0, 8), (0, 9), (0, 10), (0, 11), (0, 12), (0, 13)]), .inr (0, 14, 0)]
noncomputable def dT122 : List ckI := [ckTop, ckTop, ckTop, ckTop, ckTop, ckTop, ckTop, ckTop, ckTop, ckTop, ckTop, ckTop, ckTop, ckTop, (8, 8)]
-- FarMachine$Machine.sumOf
noncomputable def k78 : ckCtr := (135, ([(0, (1, 0)), (1, (4, 0)), (2, (0, 0))], [], dC121, dT122, [([(8, ckTop)], [], [])], [], [], [], 0, 0), [([], [(0, 15)], [], [], [], [ckTop], [], [], [], [], 0, 0)], 1, 80, 0, 0)
noncomputable def k78_a : ckAs := [(5, [(297720, [(1, 0, 1, ([(0, (1, 0)), (1, (4, 0)), (2, (0, 0)), (3, (0, 17)), (4, (0, 18))], [], [], [], [], [ckTop, (0, 8)], [], [], [], [], 0, 0))])])]
noncomputable def k78_c : List (Nat × ckCtr) := []
theorem k78_ok (l : Launch) : ckCtrOk l ckMT ckTW ckCL k78 := mt_135 (as := k78_a) (cs := k78_c) (gx := []) (f := 200000) rfl (fun _ h => absurd h List.not_mem_nil) True.intro (by decide +kernel)
noncomputable def dC123 : List ckC := [.inl (2, [(4, 10), (1, 1), (4, 11), (0, 0), (0, 1), (0, 2), (0, 3), (0, 4), (0, 5), (0, 6), (0, 7), (0, 8), (0, 9), (0, 10), (0, 11), (0, 12)]), .inr (0, 13, 0)]
noncomputable def dT124 : List ckI := [ckTop, ckTop, ckTop, ckTop, ckTop, ckTop, ckTop, ckTop, ckTop, ckTop, ckTop, ckTop, ckTop, (8, 8)]
-- FarMachine$Machine.sumOn
noncomputable def k79 : ckCtr := (134, ([(0, (1, 0)), (1, (4, 0))], [], dC123, dT124, [([(8, ckTop)], [], [])], [], [], [], 0, 0), [([], [(0, 14)], [], [], [], [ckTop], [], [], [], [], 0, 0)], 2, 105, 0, 0)
noncomputable def k79_a : ckAs := []
noncomputable def k79_c : List (Nat × ckCtr) := [(6, k78)]
theorem k79_ok (l : Launch) : ckCtrOk l ckMT ckTW ckCL k79 := mt_134 (as := k79_a) (cs := k79_c) (gx := []) (f := 200000) rfl (ckHc (k78_ok l) (fun _ h => absurd h List.not_mem_nil)) True.intro (by decide +kernel)
-- FarMachine.refuseFar
noncomputable def k80 : ckCtr := (35, ([(0, (1, 0)), (1, (0, 0))], [], dC33, [(-2, -2), (0, 1), (7, 7)], [([(7, ckTop)], [], [])], [], [], [], 0, 0), [([], [(0, 3)], [(1, .inr (0, 2, 1))], [], [], [(1002, 1002), ckTop], [([(2, ckTop), (3, ckTop), (7, ckTop)], [(2, 4)], [])], [], [], [], 0, 0)], 2, 101, 0, 0)
noncomputable def k80_a : ckAs := []
noncomputable def k80_c : List (Nat × ckCtr) := [(5, k28)]
theorem k80_ok (l : Launch) : ckCtrOk l ckMT ckTW ckCL k80 := mt_35 (as := k80_a) (cs := k80_c) (gx := []) (f := 200000) rfl (ckHc (k28_ok l) (fun _ h => absurd h List.not_mem_nil)) True.intro (by decide +kernel)
noncomputable def dC125 : List ckC := [.inl (8, [(1, 1), (4, 10), (0, 1), (4, 11), (4, 12), (4, 13), (4, 14), (1, 2)]), .inl (7, [(1, 3), (4, 15), (0, 2), (4, 16), (4, 17), (4, 18), (4, 19), (4, 20), (4, 21), (4, 22)]), .inr (0, 3, 0), .inl (2, [(4, 23), (1, 4), (4, 24), (0, 4), (0, 5), (0, 6), (0, 7), (0, 8), (0, 9), (0, 10), (0, 11), (0, 12), (0, 13), (0, 14), (0, 15), (0, 16)]), .inr (0, 17, 1)]
noncomputable def dT126 : List ckI := [ckTop, (0, 1), (0, 1), (7, 7), ckTop, ckTop, ckTop, ckTop, ckTop, ckTop, ckTop, ckTop, ckTop, ckTop, ckTop, ckTop, ckTop, (8, 8)]
-- FarMachine.state
noncomputable def k81 : ckCtr := (5, ([(0, (1, 0)), (1, (0, 0))], [], dC125, dT126, [([(7, ckTop)], [], []), ([(8, ckTop)], [], [])], [], [], [], 0, 0), [([], [(0, 18)], [(2, .inr (0, 3, 2))], [], [], [ckTop], [([(2, ckTop), (3, ckTop), (7, ckTop)], [], [])], [], [], [], 0, 0)], 3, 126, 0, 0)
noncomputable def k81_a : ckAs := []
noncomputable def k81_c : List (Nat × ckCtr) := [(103, k79), (120, k80)]
theorem k81_ok (l : Launch) : ckCtrOk l ckMT ckTW ckCL k81 := mt_5 (as := k81_a) (cs := k81_c) (gx := []) (f := 200000) rfl (ckHc (k79_ok l) (ckHc (k80_ok l) (fun _ h => absurd h List.not_mem_nil))) True.intro (by decide +kernel)
-- FarMachineModel.isIn
noncomputable def k82 : ckCtr := (45, ([(0, (0, 0)), (1, (0, 1))], [], [], [ckTop, (10, 10)], [], [], [], [], 0, 0), [([], [(0, 2)], [], [], [(0, (0, 9))], [(1, 1)], [], [], [], [], 0, 0), ([], [(0, 2)], [], [], [(0, (10, 2147483647))], [(0, 0)], [], [], [], [], 0, 0), ([], [(0, 2)], [], [], [(0, (-2147483648, -1))], [(0, 0)], [], [], [], [], 0, 0)], 1, 80, 0, 0)
noncomputable def k82_a : ckAs := []
noncomputable def k82_c : List (Nat × ckCtr) := []
theorem k82_ok (l : Launch) : ckCtrOk l ckMT ckTW ckCL k82 := mt_45 (as := k82_a) (cs := k82_c) (gx := []) (f := 200000) rfl (fun _ h => absurd h List.not_mem_nil) True.intro (by decide +kernel)
-- FarMachineModel.powerOf
noncomputable def k83 : ckCtr := (49, ([(0, (0, 0))], [], [], [ckTop], [], [], [], [], 0, 0), [([], [(0, 1)], [], [], [], [(0, 5)], [], [], [], [], 0, 0)], 1, 80, 0, 0)
noncomputable def k83_a : ckAs := []
noncomputable def k83_c : List (Nat × ckCtr) := []
theorem k83_ok (l : Launch) : ckCtrOk l ckMT ckTW ckCL k83 := mt_49 (as := k83_a) (cs := k83_c) (gx := []) (f := 200000) rfl (fun _ h => absurd h List.not_mem_nil) True.intro (by decide +kernel)
noncomputable def dG127 : List ckG := [([(48, ckTop), (49, (0, 47)), (55, ckTop), (56, ckTop), (58, ckTop), (59, ckTop), (76, ckTop), (77, (0, 30)), (197, ckTop), (198, (0, 60)), (318, ckTop)], [(55, 1), (58, 2)], [])]
-- FarMachineModel.power
noncomputable def k84 : ckCtr := (50, ([(0, (1, 0))], [], [.inr (0, 0, 0)], [(318, 318), (1, 99), (0, 128000)], dG127, [], [], [(1, 0, 0, 0, [])], 0, 0), [([], [(0, 3)], [], [], [], [ckTop], [], [], [], [(1, 0, 0, 0, [])], 0, 0)], 2, 100, 0, 0)
noncomputable def k84_a : ckAs := [(4, [(940447, [(1, 0, 1, ([(0, (1, 0)), (1, (0, 5)), (2, (0, 6))], [], [], [], [], [ckTop, (0, 8)], [], [], [], [(1, 0, 0, 0, [])], 0, 0))])])]
noncomputable def k84_c : List (Nat × ckCtr) := [(23, k83)]
theorem k84_ok (l : Launch) : ckCtrOk l ckMT ckTW ckCL k84 := mt_50 (as := k84_a) (cs := k84_c) (gx := []) (f := 200000) rfl (ckHc (k83_ok l) (fun _ h => absurd h List.not_mem_nil)) True.intro (by decide +kernel)
-- FarMachineModel.ons
noncomputable def k85 : ckCtr := (52, ([(0, (1, 0))], [], [.inr (0, 0, 0)], [(318, 318), (1, 99), (0, 128000)], dG127, [], [], [(1, 0, 0, 0, [])], 0, 0), [([], [(0, 3)], [], [], [], [ckTop], [], [], [], [(1, 0, 0, 0, [])], 0, 0)], 1, 80, 0, 0)
noncomputable def k85_a : ckAs := [(4, [(940447, [(1, 0, 1, ([(0, (1, 0)), (1, (0, 5)), (2, (0, 6))], [], [], [], [], [ckTop, (0, 8)], [], [], [], [(1, 0, 0, 0, [])], 0, 0))])])]
noncomputable def k85_c : List (Nat × ckCtr) := []
theorem k85_ok (l : Launch) : ckCtrOk l ckMT ckTW ckCL k85 := mt_52 (as := k85_a) (cs := k85_c) (gx := []) (f := 200000) rfl (fun _ h => absurd h List.not_mem_nil) True.intro (by decide +kernel)
-- FarMachineModel.state
noncomputable def k86 : ckCtr := (65, ([(0, (1, 0)), (1, (0, 0))], [], dC51, dT52, dG53, [], [], [(1, 1, 0, 0, [])], 0, 0), [([], [(0, 24)], [(1, .inr (0, 20, 2))], [], [], [ckTop], [([(2, ckTop), (3, ckTop), (7, ckTop)], [], [])], [], [], [(1, 1, 0, 0, [])], 0, 0)], 3, 122, 0, 0)
noncomputable def k86_a : ckAs := []
noncomputable def k86_c : List (Nat × ckCtr) := [(3, k82), (15, k33), (64, k84), (80, k85)]
theorem k86_ok (l : Launch) : ckCtrOk l ckMT ckTW ckCL k86 := mt_65 (as := k86_a) (cs := k86_c) (gx := []) (f := 200000) rfl (ckHc (k82_ok l) (ckHc (k33_ok l) (ckHc (k84_ok l) (ckHc (k85_ok l) (fun _ h => absurd h List.not_mem_nil))))) True.intro (by decide +kernel)
-- FarMachine.refuseFar
noncomputable def k87 : ckCtr := (35, ([(0, (1, 0)), (1, (0, 0))], [], dC33, [(-4, -4), (0, 1), (7, 7)], [([(7, ckTop)], [], [])], [], [], [], 0, 0), [([], [(0, 3)], [(1, .inr (0, 2, 1))], [], [], [(1004, 1004), ckTop], [([(4, ckTop), (5, ckTop), (7, ckTop)], [(4, 4)], [])], [], [], [], 0, 0)], 2, 101, 0, 0)
noncomputable def k87_a : ckAs := []
noncomputable def k87_c : List (Nat × ckCtr) := [(5, k15)]
theorem k87_ok (l : Launch) : ckCtrOk l ckMT ckTW ckCL k87 := mt_35 (as := k87_a) (cs := k87_c) (gx := []) (f := 200000) rfl (ckHc (k15_ok l) (fun _ h => absurd h List.not_mem_nil)) True.intro (by decide +kernel)
-- FarMachine.refuseFar
noncomputable def k88 : ckCtr := (35, ([(0, (1, 0)), (1, (0, 0))], [], dC33, [(-6, -6), (0, 1), (7, 7)], [([(7, ckTop)], [], [])], [], [], [], 0, 0), [([], [(0, 3)], [(1, .inr (0, 2, 1))], [], [], [(1006, 1006), ckTop], [([(6, ckTop), (7, ckTop)], [(6, 4)], [])], [], [], [], 0, 0)], 2, 101, 0, 0)
noncomputable def k88_a : ckAs := []
noncomputable def k88_c : List (Nat × ckCtr) := [(5, k16)]
theorem k88_ok (l : Launch) : ckCtrOk l ckMT ckTW ckCL k88 := mt_35 (as := k88_a) (cs := k88_c) (gx := []) (f := 200000) rfl (ckHc (k16_ok l) (fun _ h => absurd h List.not_mem_nil)) True.intro (by decide +kernel)
noncomputable def dC128 : List ckC := [.inl (2, [(4, 10), (4, 11), (4, 12), (0, 1), (0, 2), (0, 3), (0, 4), (0, 5), (0, 6), (0, 7), (0, 8), (0, 9), (0, 10), (0, 11), (0, 12), (0, 13)])]
noncomputable def dT129 : List ckI := [ckTop, ckTop, ckTop, ckTop, ckTop, ckTop, ckTop, ckTop, ckTop, ckTop, ckTop, ckTop, ckTop, ckTop]
-- FarMachine$Machine.isOn
noncomputable def k89 : ckCtr := (131, ([(0, (1, 0)), (1, (0, 0))], [], dC128, dT129, [], [], [], [], 0, 0), [([], [(0, 14)], [], [], [], [(1, 1)], [], [], [], [], 0, 0), ([], [(0, 14)], [], [], [], [(0, 0)], [], [], [], [], 0, 0)], 1, 80, 0, 0)
noncomputable def k89_a : ckAs := []
noncomputable def k89_c : List (Nat × ckCtr) := []
theorem k89_ok (l : Launch) : ckCtrOk l ckMT ckTW ckCL k89 := mt_131 (as := k89_a) (cs := k89_c) (gx := []) (f := 200000) rfl (fun _ h => absurd h List.not_mem_nil) True.intro (by decide +kernel)
-- FarMachine$Machine.feelHeat
noncomputable def k90 : ckCtr := (142, ([(0, (1, 0))], [], dC123, dT124, [([(8, ckTop)], [], [])], [], [], [], 0, 0), [([], [(0, 14)], [], [], [], [ckTop], [], [], [], [], 0, 0)], 2, 101, 0, 0)
noncomputable def k90_a : ckAs := [(2, [(798748, [(1, 0, 0, ([(0, (1, 0)), (1, (0, 15))], [], [], [], [], [(0, 8)], [], [], [], [], 0, 0))])])]
noncomputable def k90_c : List (Nat × ckCtr) := [(13, k89), (36, k89)]
theorem k90_ok (l : Launch) : ckCtrOk l ckMT ckTW ckCL k90 := mt_142 (as := k90_a) (cs := k90_c) (gx := []) (f := 200000) rfl (ckHc (k89_ok l) (ckHc (k89_ok l) (fun _ h => absurd h List.not_mem_nil))) True.intro (by decide +kernel)
-- java/lang/Integer.bitCount
noncomputable def k91 : ckCtr := (193, ([(0, (0, 0))], [], [], [ckTop], [], [], [], [], 0, 0), [([], [(0, 1)], [], [], [], [(0, 63)], [], [], [], [], 0, 0)], 1, 80, 0, 0)
noncomputable def k91_a : ckAs := []
noncomputable def k91_c : List (Nat × ckCtr) := []
theorem k91_ok (l : Launch) : ckCtrOk l ckMT ckTW ckCL k91 := mt_193 (as := k91_a) (cs := k91_c) (gx := []) (f := 200000) rfl (fun _ h => absurd h List.not_mem_nil) True.intro (by decide +kernel)
noncomputable def dC130 : List ckC := [.inl (2, [(1, 1), (1, 2), (4, 10), (0, 1), (0, 2), (0, 3), (0, 4), (0, 5), (0, 6), (0, 7), (0, 8), (0, 9), (0, 10), (0, 11), (0, 12), (0, 13)]), .inr (0, 14, 0), .inr (0, 15, 1)]
noncomputable def dT131 : List ckI := [ckTop, ckTop, ckTop, ckTop, ckTop, ckTop, ckTop, ckTop, ckTop, ckTop, ckTop, ckTop, ckTop, ckTop, (48, 48), (8, 8)]
-- FarMachine$Machine.feel
noncomputable def k92 : ckCtr := (141, ([(0, (1, 0)), (1, (0, 0))], [], dC130, dT131, [([(48, ckTop)], [], []), ([(8, ckTop)], [], [])], [], [], [], 0, 0), [([], [(0, 16)], [], [], [], [ckTop], [], [], [], [], 0, 0)], 3, 126, 0, 0)
noncomputable def k92_a : ckAs := []
noncomputable def k92_c : List (Nat × ckCtr) := [(49, k90), (75, k91), (93, k79), (102, k17)]
theorem k92_ok (l : Launch) : ckCtrOk l ckMT ckTW ckCL k92 := mt_141 (as := k92_a) (cs := k92_c) (gx := []) (f := 200000) rfl (ckHc (k90_ok l) (ckHc (k91_ok l) (ckHc (k79_ok l) (ckHc (k17_ok l) (fun _ h => absurd h List.not_mem_nil))))) True.intro (by decide +kernel)
noncomputable def dC132 : List ckC := [.inl (8, [(1, 1), (4, 10), (0, 1), (4, 11), (4, 12), (4, 13), (4, 14), (1, 2)]), .inl (7, [(1, 3), (4, 15), (0, 2), (4, 16), (4, 17), (4, 18), (4, 19), (4, 20), (4, 21), (4, 22)]), .inr (0, 3, 0), .inl (2, [(1, 4), (1, 5), (4, 23), (0, 4), (0, 5), (0, 6), (0, 7), (0, 8), (0, 9), (0, 10), (0, 11), (0, 12), (0, 13), (0, 14), (0, 15), (0, 16)]), .inr (0, 17, 1), .inr (0, 18, 2)]
noncomputable def dT133 : List ckI := [ckTop, (0, 1), (0, 1), (7, 7), ckTop, ckTop, ckTop, ckTop, ckTop, ckTop, ckTop, ckTop, ckTop, ckTop, ckTop, ckTop, ckTop, (48, 48), (8, 8)]
noncomputable def dG134 : List ckG := [([(7, ckTop)], [], []), ([(48, ckTop)], [], []), ([(8, ckTop)], [], [])]
noncomputable def dG135 : List ckG := [([(4, ckTop), (5, ckTop), (6, ckTop), (7, ckTop)], [], [])]
-- FarMachine.felt
noncomputable def k93 : ckCtr := (6, ([(0, (1, 0)), (1, (0, 0))], [], dC132, dT133, dG134, [], [], [], 0, 0), [([], [(0, 19)], [(2, .inr (0, 3, 3))], [], [], [ckTop], dG135, [], [], [], 0, 0)], 4, 147, 0, 0)
noncomputable def k93_a : ckAs := []
noncomputable def k93_c : List (Nat × ckCtr) := [(7, k87), (20, k88), (34, k92)]
theorem k93_ok (l : Launch) : ckCtrOk l ckMT ckTW ckCL k93 := mt_6 (as := k93_a) (cs := k93_c) (gx := []) (f := 200000) rfl (ckHc (k87_ok l) (ckHc (k88_ok l) (ckHc (k92_ok l) (fun _ h => absurd h List.not_mem_nil)))) True.intro (by decide +kernel)
-- FarMachineModel.warmth
noncomputable def k94 : ckCtr := (54, ([(0, (1, 0))], [], [.inr (0, 0, 0)], [(318, 318), (1, 99), (0, 128000)], dG127, [], [], [(1, 0, 0, 0, [])], 0, 0), [([], [(0, 3)], [], [], [], [ckTop], [], [], [], [(1, 0, 0, 0, [])], 0, 0), ([], [(0, 3)], [], [], [], [(0, 0)], [], [], [], [(1, 0, 0, 0, [])], 0, 0)], 1, 80, 0, 0)
noncomputable def k94_a : ckAs := [(2, [(745899, [(1, 0, 0, ([(0, (1, 0)), (1, (0, 4))], [], [], [], [], [(0, 8)], [], [], [], [(1, 0, 0, 0, [])], 0, 0))])])]
noncomputable def k94_c : List (Nat × ckCtr) := []
theorem k94_ok (l : Launch) : ckCtrOk l ckMT ckTW ckCL k94 := mt_54 (as := k94_a) (cs := k94_c) (gx := []) (f := 200000) rfl (fun _ h => absurd h List.not_mem_nil) True.intro (by decide +kernel)
-- FarMachineModel.bits
noncomputable def k95 : ckCtr := (48, ([(0, (0, 0))], [], [], [ckTop], [], [], [], [], 0, 0), [([], [(0, 1)], [], [], [], [ckTop], [], [], [], [], 0, 0)], 1, 80, 0, 0)
noncomputable def k95_a : ckAs := [(4, [(404360, [(2, 0, 1, ([(0, (0, 0)), (1, (0, 2)), (2, (0, 3))], [], [], [], [], [ckTop, ckTop], [], [], [(3, 0, 0)], [], 0, 0))])])]
noncomputable def k95_c : List (Nat × ckCtr) := []
theorem k95_ok (l : Launch) : ckCtrOk l ckMT ckTW ckCL k95 := mt_48 (as := k95_a) (cs := k95_c) (gx := []) (f := 200000) rfl (fun _ h => absurd h List.not_mem_nil) True.intro (by decide +kernel)
noncomputable def dG136 : List ckG := [([(48, ckTop), (49, (0, 47)), (55, ckTop), (56, ckTop), (58, ckTop), (59, ckTop), (76, ckTop), (77, (0, 30)), (197, ckTop), (198, (0, 60)), (318, ckTop)], [(55, 2), (58, 3)], [])]
-- FarMachineModel.feels
noncomputable def k96 : ckCtr := (55, ([(0, (1, 0)), (1, (0, 0))], [], [.inr (0, 1, 0)], [(0, 31), (318, 318), (1, 99), (0, 128000)], dG136, [], [], [(1, 0, 0, 0, [])], 0, 0), [([], [(0, 4)], [], [], [], [ckTop], [], [], [], [(1, 0, 0, 0, [])], 0, 0)], 3, 122, 0, 0)
noncomputable def k96_a : ckAs := []
noncomputable def k96_c : List (Nat × ckCtr) := [(49, k94), (72, k85), (75, k95), (90, k84)]
theorem k96_ok (l : Launch) : ckCtrOk l ckMT ckTW ckCL k96 := mt_55 (as := k96_a) (cs := k96_c) (gx := []) (f := 200000) rfl (ckHc (k94_ok l) (ckHc (k85_ok l) (ckHc (k95_ok l) (ckHc (k84_ok l) (fun _ h => absurd h List.not_mem_nil))))) True.intro (by decide +kernel)
-- FarMachineModel.felt
noncomputable def k97 : ckCtr := (66, ([(0, (1, 0)), (1, (0, 0))], [], dC51, dT52, dG53, [], [], [(1, 1, 0, 0, [])], 0, 0), [([], [(0, 24)], [(1, .inr (0, 20, 2))], [], [], [ckTop], dG135, [], [], [(1, 1, 0, 0, [])], 0, 0)], 4, 143, 0, 0)
noncomputable def k97_a : ckAs := []
noncomputable def k97_c : List (Nat × ckCtr) := [(4, k40), (17, k23), (17, k24), (29, k96)]
theorem k97_ok (l : Launch) : ckCtrOk l ckMT ckTW ckCL k97 := mt_66 (as := k97_a) (cs := k97_c) (gx := []) (f := 200000) rfl (ckHc (k40_ok l) (ckHc (k23_ok l) (ckHc (k24_ok l) (ckHc (k96_ok l) (fun _ h => absurd h List.not_mem_nil))))) True.intro (by decide +kernel)
noncomputable def dC137 : List ckC := [.inl (1, [(1, 1), (4, 10), (4, 11), (4, 12), (0, 1)]), .inr (0, 2, 0)]
-- FarMachine$Commands.has
noncomputable def k98 : ckCtr := (119, ([(0, (1, 0)), (1, (0, 0))], [], dC137, [ckTop, ckTop, (30, 30)], [([(30, ckTop)], [], [])], [], [], [], 0, 0), [([], [(0, 3)], [], [], [(0, (0, 29)), (1, (1, 2147483647))], [(1, 1)], [], [], [(0, 1, (-1))], [], 0, 0), ([], [(0, 3)], [], [], [], [(0, 0)], [], [], [], [], 0, 0)], 1, 80, 0, 0)
noncomputable def k98_a : ckAs := []
noncomputable def k98_c : List (Nat × ckCtr) := []
theorem k98_ok (l : Launch) : ckCtrOk l ckMT ckTW ckCL k98 := mt_119 (as := k98_a) (cs := k98_c) (gx := []) (f := 200000) rfl (fun _ h => absurd h List.not_mem_nil) True.intro (by decide +kernel)
noncomputable def dC138 : List ckC := [.inl (1, [(1, 1), (4, 10), (4, 11), (1, 2), (0, 1)]), .inr (0, 2, 0), .inr (0, 2, 1)]
-- FarMachine$Commands.comesNow
noncomputable def k99 : ckCtr := (121, ([(0, (1, 0)), (1, (0, 0))], [], dC138, [ckTop, ckTop, (30, 30)], [([(30, ckTop)], [], []), ([(30, ckTop)], [], [])], [], [], [], 0, 0), [([], [(0, 3)], [], [], [], [(0, 0)], [], [], [], [], 0, 0), ([], [(0, 3)], [], [], [(0, (0, 29)), (1, (1, 2147483647))], [(1, 1)], [], [], [(0, 1, (-1))], [], 0, 0)], 2, 101, 0, 0)
noncomputable def k99_a : ckAs := []
noncomputable def k99_c : List (Nat × ckCtr) := [(2, k98)]
theorem k99_ok (l : Launch) : ckCtrOk l ckMT ckTW ckCL k99 := mt_121 (as := k99_a) (cs := k99_c) (gx := []) (f := 200000) rfl (ckHc (k98_ok l) (fun _ h => absurd h List.not_mem_nil)) True.intro (by decide +kernel)
noncomputable def dP139 : List (Nat × ckC) := [(0, .inl (2, [(4, 10), (4, 11), (4, 12), (0, 1), (0, 0), (0, 3), (0, 4), (0, 5), (0, 6), (0, 14), (0, 8), (0, 9), (0, 10), (0, 11), (0, 12), (0, 13)]))]
-- FarMachine$Machine.goTo
noncomputable def k100 : ckCtr := (129, ([(0, (1, 0)), (1, (0, 0))], [], dC128, dT129, [], [], [], [], 0, 0), [([], [], dP139, [], [], [(0, 0)], [], [], [], [], 0, 0)], 1, 80, 0, 0)
noncomputable def k100_a : ckAs := []
noncomputable def k100_c : List (Nat × ckCtr) := []
theorem k100_ok (l : Launch) : ckCtrOk l ckMT ckTW ckCL k100 := mt_129 (as := k100_a) (cs := k100_c) (gx := []) (f := 200000) rfl (fun _ h => absurd h List.not_mem_nil) True.intro (by decide +kernel)
noncomputable def dC140 : List ckC := [.inl (1, [(1, 2), (1, 3), (1, 4), (4, 10), (0, 1)]), .inl (2, [(1, 5), (4, 11), (1, 0), (0, 2), (0, 3), (0, 4), (0, 5), (0, 6), (0, 7), (0, 8), (0, 9), (0, 10), (0, 11), (0, 12), (0, 13), (0, 14)]), .inr (0, 15, 0), .inr (0, 15, 1), .inr (0, 15, 2), .inr (0, 16, 3)]
noncomputable def dT141 : List ckI := [ckTop, ckTop, ckTop, ckTop, ckTop, ckTop, ckTop, ckTop, ckTop, ckTop, ckTop, ckTop, ckTop, ckTop, ckTop, (30, 30), (48, 48)]
noncomputable def dG142 : List ckG := [([(30, ckTop)], [], []), ([(30, ckTop)], [], []), ([(30, ckTop)], [], []), ([(48, ckTop)], [], [])]
noncomputable def dP143 : List (Nat × ckC) := [(1, .inl (2, [(1, 5), (4, 11), (1, 0), (0, 2), (0, 17), (0, 4), (0, 5), (0, 6), (0, 7), (0, 18), (0, 9), (0, 10), (0, 11), (0, 12), (0, 13), (0, 14)])), (5, .inr (0, 16, 4))]
-- FarMachine$Commands.doTo
noncomputable def k101 : ckCtr := (122, ([(0, (1, 0)), (1, (1, 1)), (2, (0, 0))], [], dC140, dT141, dG142, [], [], [], 0, 0), [([], [], dP143, [], [], [ckTop, ckTop], [([(48, ckTop)], [], [])], [], [], [], 0, 0)], 3, 122, 0, 0)
noncomputable def k101_a : ckAs := []
noncomputable def k101_c : List (Nat × ckCtr) := [(2, k98), (30, k18), (38, k98), (61, k100)]
theorem k101_ok (l : Launch) : ckCtrOk l ckMT ckTW ckCL k101 := mt_122 (as := k101_a) (cs := k101_c) (gx := []) (f := 200000) rfl (ckHc (k98_ok l) (ckHc (k18_ok l) (ckHc (k98_ok l) (ckHc (k100_ok l) (fun _ h => absurd h List.not_mem_nil))))) True.intro (by decide +kernel)
noncomputable def dC144 : List ckC := [.inl (1, [(1, 1), (1, 2), (1, 3), (1, 4), (0, 4)]), .inr (0, 5, 0), .inr (0, 5, 1), .inr (0, 5, 2), .inr (0, 5, 3)]
noncomputable def dG145 : List ckG := [([(30, ckTop)], [], []), ([(30, ckTop)], [], []), ([(30, ckTop)], [], []), ([(30, ckTop)], [], [])]
noncomputable def dP146 : List (Nat × ckC) := [(0, .inl (1, [(1, 1), (1, 2), (1, 3), (1, 4), (0, 6)])), (1, .inr (0, 5, 4)), (2, .inr (0, 5, 5)), (3, .inr (0, 5, 6)), (4, .inr (0, 5, 7))]
-- FarMachine$Commands.add
noncomputable def k102 : ckCtr := (120, ([(0, (1, 0)), (1, (0, 0)), (2, (0, 1)), (3, (0, 2)), (4, (0, 3))], [], dC144, [ckTop, ckTop, ckTop, ckTop, ckTop, (30, 30)], dG145, [], [], [], 0, 0), [([], [], dP146, [], [(4, (0, 29))], [(1, 30)], dG145, [], [(4, 6, (-1)), (6, 4, 1)], [], 0, 0), ([], [], [], [], [(4, (30, 2147483647))], [], [], [], [], [], 0, 0), ([], [], [], [], [(4, (-2147483648, -1))], [], [], [], [], [], 0, 0)], 1, 80, 0, 0)
noncomputable def k102_a : ckAs := []
noncomputable def k102_c : List (Nat × ckCtr) := []
theorem k102_ok (l : Launch) : ckCtrOk l ckMT ckTW ckCL k102 := mt_120 (as := k102_a) (cs := k102_c) (gx := []) (f := 200000) rfl (fun _ h => absurd h List.not_mem_nil) True.intro (by decide +kernel)
noncomputable def dC147 : List ckC := [.inl (1, [(1, 1), (1, 2), (1, 3), (1, 4), (0, 0)]), .inr (0, 1, 0), .inr (0, 1, 1), .inr (0, 1, 2), .inr (0, 1, 3)]
noncomputable def dP148 : List (Nat × ckC) := [(0, .inl (1, [(1, 1), (1, 2), (1, 3), (1, 4), (0, 3)])), (1, .inr (0, 1, 4)), (2, .inr (0, 1, 5)), (3, .inr (0, 1, 6)), (4, .inr (0, 1, 7))]
noncomputable def dP149 : List (Nat × ckC) := [(0, .inl (1, [(1, 1), (1, 2), (1, 3), (1, 4), (0, 6)])), (1, .inr (0, 1, 4)), (2, .inr (0, 1, 5)), (3, .inr (0, 1, 6)), (4, .inr (0, 1, 7))]
-- FarMachine$Commands.passHour
noncomputable def k103 : ckCtr := (123, ([(0, (1, 0))], [], dC147, [ckTop, (30, 30)], dG145, [], [], [], 0, 0), [([], [(0, 2)], dP148, [], [], [ckTop, (0, 30)], dG145, [], [], [], 0, 0)], 2, 104, 0, 0)
noncomputable def k103_a : ckAs := [(20, [(709030, [(1, 0, 0, ([(0, (1, 0)), (1, (0, 2)), (2, (0, 5))], [], dP149, [], [], [(0, 30), (0, 30)], dG145, [], [(2, 0, 0), (6, 5, 0)], [], 0, 0))])])]
noncomputable def k103_c : List (Nat × ckCtr) := [(61, k102)]
theorem k103_ok (l : Launch) : ckCtrOk l ckMT ckTW ckCL k103 := mt_123 (as := k103_a) (cs := k103_c) (gx := []) (f := 200000) rfl (ckHc (k102_ok l) (fun _ h => absurd h List.not_mem_nil)) True.intro (by decide +kernel)
noncomputable def dC150 : List ckC := [.inl (2, [(1, 1), (4, 10), (1, 2), (0, 0), (0, 1), (0, 2), (0, 3), (0, 4), (0, 5), (0, 6), (0, 7), (0, 8), (0, 9), (0, 10), (0, 11), (0, 12)]), .inr (0, 13, 0), .inl (1, [(1, 3), (1, 4), (1, 5), (1, 6), (0, 14)]), .inr (0, 15, 1), .inr (0, 15, 2), .inr (0, 15, 3), .inr (0, 15, 4)]
noncomputable def dT151 : List ckI := [ckTop, ckTop, ckTop, ckTop, ckTop, ckTop, ckTop, ckTop, ckTop, ckTop, ckTop, ckTop, ckTop, (48, 48), ckTop, (30, 30)]
noncomputable def dG152 : List ckG := [([(48, ckTop)], [], []), ([(30, ckTop)], [], []), ([(30, ckTop)], [], []), ([(30, ckTop)], [], []), ([(30, ckTop)], [], [])]
noncomputable def dP153 : List (Nat × ckC) := [(0, .inl (2, [(1, 1), (4, 10), (1, 2), (0, 0), (0, 17), (0, 2), (0, 3), (0, 4), (0, 5), (0, 18), (0, 7), (0, 8), (0, 9), (0, 10), (0, 11), (0, 12)])), (1, .inr (0, 13, 5)), (2, .inl (1, [(1, 3), (1, 4), (1, 5), (1, 6), (0, 19)])), (3, .inr (0, 15, 6)), (4, .inr (0, 15, 7)), (5, .inr (0, 15, 8)), (6, .inr (0, 15, 9))]
noncomputable def dP154 : List (Nat × ckC) := [(0, .inl (2, [(1, 1), (4, 10), (1, 2), (0, 0), (0, 18), (0, 2), (0, 3), (0, 4), (0, 5), (0, 19), (0, 7), (0, 8), (0, 9), (0, 10), (0, 11), (0, 12)])), (1, .inr (0, 13, 5))]
-- FarMachine$Machine.receive
noncomputable def k104 : ckCtr := (138, ([(0, (1, 0))], [], dC150, dT151, dG152, [], [], [], 0, 0), [([], [(0, 16)], dP153, [], [], [(1, 1), ckTop, ckTop, (0, 30)], dG152, [], [], [], 0, 0), ([], [(0, 16)], dP153, [], [], [(0, 0), ckTop, ckTop, (0, 30)], dG152, [], [], [], 0, 0)], 4, 144, 0, 0)
noncomputable def k104_a : ckAs := [(2, [(784582, [(1, 0, 0, ([(0, (1, 0)), (1, (0, 17))], [], dP154, [], [], [(0, 2147483647), ckTop, ckTop], [([(48, ckTop)], [], [])], [], [], [], 0, 0))])])]
noncomputable def k104_c : List (Nat × ckCtr) := [(18, k99), (30, k101), (43, k103)]
theorem k104_ok (l : Launch) : ckCtrOk l ckMT ckTW ckCL k104 := mt_138 (as := k104_a) (cs := k104_c) (gx := []) (f := 200000) rfl (ckHc (k99_ok l) (ckHc (k101_ok l) (ckHc (k103_ok l) (fun _ h => absurd h List.not_mem_nil)))) True.intro (by decide +kernel)
-- FarMachine.held
noncomputable def k105 : ckCtr := (41, ([(0, (0, 0)), (1, (0, 1)), (2, (0, 2))], [], [], [ckTop, ckTop, (127, 127)], [], [], [], [], 0, 0), [([], [(0, 3)], [], [], [], [ckTop], [], [], [(0, 3, 0)], [], 0, 0)], 1, 80, 0, 0)
noncomputable def k105_a : ckAs := []
noncomputable def k105_c : List (Nat × ckCtr) := []
theorem k105_ok (l : Launch) : ckCtrOk l ckMT ckTW ckCL k105 := mt_41 (as := k105_a) (cs := k105_c) (gx := []) (f := 200000) rfl (fun _ h => absurd h List.not_mem_nil) True.intro (by decide +kernel)
-- FarMachine$Machine.hasOn
noncomputable def k106 : ckCtr := (133, ([(0, (1, 0)), (1, (0, 0))], [], dC121, dT122, [([(8, ckTop)], [], [])], [], [], [], 0, 0), [([], [(0, 15)], [], [], [], [(1, 1)], [], [], [], [], 0, 0), ([], [(0, 15)], [], [], [], [(0, 0)], [], [], [], [], 0, 0)], 2, 101, 0, 0)
noncomputable def k106_a : ckAs := [(2, [(950973, [(1, 0, 0, ([(0, (1, 0)), (1, (0, 0)), (2, (0, 16))], [], [], [], [], [(0, 8)], [], [], [], [], 0, 0))])])]
noncomputable def k106_c : List (Nat × ckCtr) := [(13, k89)]
theorem k106_ok (l : Launch) : ckCtrOk l ckMT ckTW ckCL k106 := mt_133 (as := k106_a) (cs := k106_c) (gx := []) (f := 200000) rfl (ckHc (k89_ok l) (fun _ h => absurd h List.not_mem_nil)) True.intro (by decide +kernel)
-- FarMachine.held
noncomputable def k107 : ckCtr := (41, ([(0, (0, 0)), (1, (0, 1)), (2, (0, 2))], [], [], [ckTop, ckTop, (20, 20)], [], [], [], [], 0, 0), [([], [(0, 3)], [], [], [], [ckTop], [], [], [(0, 3, 0)], [], 0, 0)], 1, 80, 0, 0)
noncomputable def k107_a : ckAs := []
noncomputable def k107_c : List (Nat × ckCtr) := []
theorem k107_ok (l : Launch) : ckCtrOk l ckMT ckTW ckCL k107 := mt_41 (as := k107_a) (cs := k107_c) (gx := []) (f := 200000) rfl (fun _ h => absurd h List.not_mem_nil) True.intro (by decide +kernel)
noncomputable def dP155 : List (Nat × ckC) := [(0, .inl (2, [(4, 10), (1, 1), (4, 11), (0, 1), (0, 2), (0, 3), (0, 4), (0, 15), (0, 16), (0, 7), (0, 8), (0, 9), (0, 10), (0, 11), (0, 12), (0, 13)]))]
-- FarMachine$Machine.turnDish
noncomputable def k108 : ckCtr := (140, ([(0, (1, 0)), (1, (0, 0))], [], dC121, dT122, [([(8, ckTop)], [], [])], [], [], [], 0, 0), [([], [], dP155, [], [], [ckTop, ckTop], [], [], [], [], 0, 0), ([], [], [], [], [(5, (-2147483648, 2147483646))], [], [], [], [], [], 0, 0)], 3, 123, 0, 0)
noncomputable def k108_a : ckAs := []
noncomputable def k108_c : List (Nat × ckCtr) := [(7, k106), (32, k107)]
theorem k108_ok (l : Launch) : ckCtrOk l ckMT ckTW ckCL k108 := mt_140 (as := k108_a) (cs := k108_c) (gx := []) (f := 200000) rfl (ckHc (k106_ok l) (ckHc (k107_ok l) (fun _ h => absurd h List.not_mem_nil))) True.intro (by decide +kernel)
-- FarMachine$Machine.isAimed
noncomputable def k109 : ckCtr := (136, ([(0, (0, 0))], [], [], [ckTop], [], [], [], [], 0, 0), [([], [(0, 1)], [], [], [(0, (-2, 2))], [(1, 1)], [], [], [], [], 0, 0), ([], [(0, 1)], [], [], [], [(0, 0)], [], [], [], [], 0, 0)], 1, 80, 0, 0)
noncomputable def k109_a : ckAs := []
noncomputable def k109_c : List (Nat × ckCtr) := []
theorem k109_ok (l : Launch) : ckCtrOk l ckMT ckTW ckCL k109 := mt_136 (as := k109_a) (cs := k109_c) (gx := []) (f := 200000) rfl (fun _ h => absurd h List.not_mem_nil) True.intro (by decide +kernel)
noncomputable def dC156 : List ckC := [.inl (2, [(1, 1), (1, 2), (4, 10), (0, 0), (0, 1), (0, 2), (0, 3), (0, 4), (0, 5), (0, 6), (0, 7), (0, 8), (0, 9), (0, 10), (0, 11), (0, 12)]), .inr (0, 13, 0), .inr (0, 14, 1)]
noncomputable def dT157 : List ckI := [ckTop, ckTop, ckTop, ckTop, ckTop, ckTop, ckTop, ckTop, ckTop, ckTop, ckTop, ckTop, ckTop, (48, 48), (8, 8)]
noncomputable def dP158 : List (Nat × ckC) := [(0, .inl (2, [(1, 1), (1, 2), (4, 10), (0, 16), (0, 17), (0, 18), (0, 3), (0, 19), (0, 20), (0, 21), (0, 7), (0, 8), (0, 9), (0, 10), (0, 11), (0, 12)]))]
noncomputable def dP159 : List (Nat × ckC) := [(0, .inl (2, [(1, 1), (1, 2), (4, 10), (0, 0), (0, 16), (0, 2), (0, 3), (0, 4), (0, 5), (0, 6), (0, 7), (0, 8), (0, 9), (0, 10), (0, 11), (0, 12)]))]
-- FarMachine$Machine.act
noncomputable def k110 : ckCtr := (139, ([(0, (1, 0))], [], dC156, dT157, [([(48, ckTop)], [], []), ([(8, ckTop)], [], [])], [], [], [], 0, 0), [([], [(0, 15)], dP158, [], [], [(1000, 1000), ckTop, ckTop, ckTop, ckTop, ckTop, ckTop], [], [], [(1, 17, 47), (17, 1, 31)], [], 0, 0), ([], [(0, 15)], dP159, [], [(1, (0, 47)), (5, (-2, 2))], [ckTop, (0, 47)], [], [], [(16, 1, 1)], [], 0, 0)], 4, 147, 0, 0)
noncomputable def k110_a : ckAs := []
noncomputable def k110_c : List (Nat × ckCtr) := [(5, k17), (127, k105), (153, k29), (164, k108), (189, k92), (200, k106), (210, k109), (218, k92)]
theorem k110_ok (l : Launch) : ckCtrOk l ckMT ckTW ckCL k110 := mt_139 (as := k110_a) (cs := k110_c) (gx := []) (f := 200000) rfl (ckHc (k17_ok l) (ckHc (k105_ok l) (ckHc (k29_ok l) (ckHc (k108_ok l) (ckHc (k92_ok l) (ckHc (k106_ok l) (ckHc (k109_ok l) (ckHc (k92_ok l) (fun _ h => absurd h List.not_mem_nil))))))))) True.intro (by decide +kernel)
-- FarMachine$Machine.sumOf
noncomputable def k111 : ckCtr := (135, ([(0, (1, 0)), (1, (4, 1)), (2, (0, 0))], [], dC121, dT122, [([(8, ckTop)], [], [])], [], [], [], 0, 0), [([], [(0, 15)], [], [], [], [ckTop], [], [], [], [], 0, 0)], 1, 80, 0, 0)
noncomputable def k111_a : ckAs := [(5, [(297720, [(1, 0, 1, ([(0, (1, 0)), (1, (4, 1)), (2, (0, 0)), (3, (0, 17)), (4, (0, 18))], [], [], [], [], [ckTop, (0, 8)], [], [], [], [], 0, 0))])])]
noncomputable def k111_c : List (Nat × ckCtr) := []
theorem k111_ok (l : Launch) : ckCtrOk l ckMT ckTW ckCL k111 := mt_135 (as := k111_a) (cs := k111_c) (gx := []) (f := 200000) rfl (fun _ h => absurd h List.not_mem_nil) True.intro (by decide +kernel)
-- FarMachine$Machine.sumOn
noncomputable def k112 : ckCtr := (134, ([(0, (1, 0)), (1, (4, 1))], [], dC123, dT124, [([(8, ckTop)], [], [])], [], [], [], 0, 0), [([], [(0, 14)], [], [], [], [ckTop], [], [], [], [], 0, 0)], 2, 105, 0, 0)
noncomputable def k112_a : ckAs := []
noncomputable def k112_c : List (Nat × ckCtr) := [(6, k111)]
theorem k112_ok (l : Launch) : ckCtrOk l ckMT ckTW ckCL k112 := mt_134 (as := k112_a) (cs := k112_c) (gx := []) (f := 200000) rfl (ckHc (k111_ok l) (fun _ h => absurd h List.not_mem_nil)) True.intro (by decide +kernel)
-- FarMachine.held
noncomputable def k113 : ckCtr := (41, ([(0, (0, 0)), (1, (0, 1)), (2, (0, 2))], [], [], [ckTop, ckTop, (99, 99)], [], [], [], [], 0, 0), [([], [(0, 3)], [], [], [], [ckTop], [], [], [(0, 3, 0)], [], 0, 0)], 1, 80, 0, 0)
noncomputable def k113_a : ckAs := []
noncomputable def k113_c : List (Nat × ckCtr) := []
theorem k113_ok (l : Launch) : ckCtrOk l ckMT ckTW ckCL k113 := mt_41 (as := k113_a) (cs := k113_c) (gx := []) (f := 200000) rfl (fun _ h => absurd h List.not_mem_nil) True.intro (by decide +kernel)
