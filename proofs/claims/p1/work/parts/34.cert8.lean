/-! THE CHECKER: contracts with their certificates (printed by wip/gen/p1gen.py) -/
noncomputable def dP413 : List (Nat × ckC) := [(0, .inl (9, [(4, 10), (4, 11), (4, 12), (4, 13), (4, 14), (4, 15), (4, 16), (4, 17), (4, 18), (4, 19), (4, 20), (4, 21), (1, 1), (1, 2), (4, 22), (4, 23), (0, 2), (0, 2), (0, 2), (0, 2), (0, 2), (0, 0), (0, 2), (4, 24), (0, 2), (4, 25), (0, 2), (0, 2), (0, 2), (0, 2), (4, 26), (0, 2), (0, 2), (0, 2), (0, 2), (4, 26), (4, 11), (0, 2), (4, 27), (4, 28), (0, 2), (0, 2)])), (1, .inr (0, 3, 2)), (2, .inr (0, 3, 3))]
noncomputable def dG414 : List ckG := [([(1, (1, 1)), (8, (0, 0))], [(0, 0)], []), ([(1, (1, 47)), (8, (0, 0))], [(0, 1)], [])]
-- FarMachineModel.hole
noncomputable def k576 : ckCtr := (103, ([(0, (1, 0)), (1, (0, 0)), (2, (0, 1))], [], dC362, [(1, 1), (1, 47), (0, 0), (8, 8)], [([(8, (0, 0))], [], []), ([(8, (0, 0))], [], [])], [], [], [], 0, 0), [([], [(0, 0)], dP413, [], [], [], dG414, [], [], [], 0, 0)], 2, 101, 0, 0)
noncomputable def k576_a : ckAs := []
noncomputable def k576_c : List (Nat × ckCtr) := [(3, k575)]
theorem k576_ok (l : Launch) : ckCtrOk l ckMT ckTW ckCL k576 := mt_103 (as := k576_a) (cs := k576_c) (gx := []) (f := 200000) rfl (ckHc (k575_ok l) (fun _ h => absurd h List.not_mem_nil)) True.intro (by decide +kernel)
-- FarMachineModel.isIn
noncomputable def k577 : ckCtr := (45, ([(0, (0, 0)), (1, (0, 1))], [], [], [(0, 0), (48, 48)], [], [], [], [], 0, 0), [([], [(0, 2)], [], [], [], [(1, 1)], [], [], [], [], 0, 0)], 1, 80, 0, 0)
noncomputable def k577_a : ckAs := []
noncomputable def k577_c : List (Nat × ckCtr) := []
theorem k577_ok (l : Launch) : ckCtrOk l ckMT ckTW ckCL k577 := mt_45 (as := k577_a) (cs := k577_c) (gx := []) (f := 200000) rfl (fun _ h => absurd h List.not_mem_nil) True.intro (by decide +kernel)
noncomputable def dC415 : List ckC := [.inl (9, [(4, 10), (4, 11), (4, 12), (4, 13), (4, 14), (4, 15), (4, 16), (4, 17), (4, 18), (4, 19), (4, 20), (4, 21), (1, 1), (1, 2), (4, 22), (4, 23), (0, 0), (0, 0), (0, 0), (0, 0), (0, 0), (0, 0), (0, 0), (4, 24), (0, 0), (4, 25), (0, 0), (0, 0), (0, 0), (0, 0), (4, 26), (0, 0), (0, 0), (0, 0), (0, 0), (4, 26), (4, 11), (0, 0), (4, 27), (4, 28), (0, 0), (0, 0)]), .inr (0, 2, 0), .inr (0, 2, 1)]
noncomputable def dP416 : List (Nat × ckC) := [(0, .inl (9, [(4, 10), (4, 11), (4, 12), (4, 13), (4, 14), (4, 15), (4, 16), (4, 17), (4, 18), (4, 19), (4, 20), (4, 21), (1, 1), (1, 2), (4, 22), (4, 23), (0, 0), (0, 0), (0, 0), (0, 0), (0, 0), (0, 3), (0, 0), (4, 24), (0, 0), (4, 25), (0, 0), (0, 0), (0, 0), (0, 0), (4, 26), (0, 0), (0, 0), (0, 0), (0, 0), (4, 26), (4, 11), (0, 0), (4, 27), (4, 28), (0, 0), (0, 0)])), (1, .inr (0, 2, 2)), (2, .inr (0, 2, 3))]
noncomputable def dG417 : List ckG := [([(1, (0, 0)), (8, (0, 0))], [(0, 0)], []), ([(1, (1, 48)), (8, (0, 0))], [(0, 1)], [])]
-- FarMachineModel.hole
noncomputable def k578 : ckCtr := (103, ([(0, (1, 0)), (1, (0, 0)), (2, (0, 1))], [], dC415, [(0, 0), (1, 48), (8, 8)], [([(8, (0, 0))], [], []), ([(8, (0, 0))], [], [])], [], [], [], 0, 0), [([], [(0, 3)], dP416, [], [], [(1, 1)], dG417, [], [], [], 0, 0)], 2, 101, 0, 0)
noncomputable def k578_a : ckAs := []
noncomputable def k578_c : List (Nat × ckCtr) := [(3, k577)]
theorem k578_ok (l : Launch) : ckCtrOk l ckMT ckTW ckCL k578 := mt_103 (as := k578_a) (cs := k578_c) (gx := []) (f := 200000) rfl (ckHc (k577_ok l) (fun _ h => absurd h List.not_mem_nil)) True.intro (by decide +kernel)
-- FarMachineModel.hole
noncomputable def k579 : ckCtr := (103, ([(0, (1, 0)), (1, (0, 0)), (2, (0, 1))], [], dC106, [(0, 0), (49, 1000), (7, 7)], [([(7, (0, 0))], [], [])], [], [], [], 0, 0), [([], [(0, 3)], [(1, .inr (0, 2, 1))], [], [], [(-6, -6), (1, 1)], [([(6, (0, 0)), (7, (1, 1))], [(6, 4)], [])], [], [], [], 0, 0)], 2, 101, 0, 0)
noncomputable def k579_a : ckAs := []
noncomputable def k579_c : List (Nat × ckCtr) := [(3, k577), (57, k25)]
theorem k579_ok (l : Launch) : ckCtrOk l ckMT ckTW ckCL k579 := mt_103 (as := k579_a) (cs := k579_c) (gx := []) (f := 200000) rfl (ckHc (k577_ok l) (ckHc (k25_ok l) (fun _ h => absurd h List.not_mem_nil))) True.intro (by decide +kernel)
-- FarMachineModel.hole
noncomputable def k580 : ckCtr := (103, ([(0, (1, 0)), (1, (0, 0)), (2, (0, 1))], [], dC43, [(1, 1), (48, 1000), (0, 0), (7, 7)], [([(7, (0, 0))], [], [])], [], [], [], 0, 0), [([], [(0, 4)], [(1, .inr (0, 3, 1))], [], [], [(-6, -6)], [([(6, (0, 0)), (7, (1, 1))], [(6, 0)], [])], [], [], [], 0, 0)], 2, 101, 0, 0)
noncomputable def k580_a : ckAs := []
noncomputable def k580_c : List (Nat × ckCtr) := [(3, k575), (57, k25)]
theorem k580_ok (l : Launch) : ckCtrOk l ckMT ckTW ckCL k580 := mt_103 (as := k580_a) (cs := k580_c) (gx := []) (f := 200000) rfl (ckHc (k575_ok l) (ckHc (k25_ok l) (fun _ h => absurd h List.not_mem_nil))) True.intro (by decide +kernel)
-- FarMachineModel.hole
noncomputable def k581 : ckCtr := (103, ([(0, (1, 0)), (1, (0, 0)), (2, (0, 1))], [], dC43, [(2, 2), (47, 1000), (0, 0), (7, 7)], [([(7, (0, 0))], [], [])], [], [], [], 0, 0), [([], [(0, 4)], [(1, .inr (0, 3, 1))], [], [], [(-6, -6), (1, 1)], [([(6, (0, 0)), (7, (1, 1))], [(6, 5)], [])], [], [], [], 0, 0)], 2, 101, 0, 0)
noncomputable def k581_a : ckAs := []
noncomputable def k581_c : List (Nat × ckCtr) := [(3, k573), (57, k25)]
theorem k581_ok (l : Launch) : ckCtrOk l ckMT ckTW ckCL k581 := mt_103 (as := k581_a) (cs := k581_c) (gx := []) (f := 200000) rfl (ckHc (k573_ok l) (ckHc (k25_ok l) (fun _ h => absurd h List.not_mem_nil))) True.intro (by decide +kernel)
-- FarMachineModel.hole
noncomputable def k582 : ckCtr := (103, ([(0, (1, 0)), (1, (0, 0)), (2, (0, 1))], [], dC43, [(3, 3), (46, 1000), (0, 0), (7, 7)], [([(7, (0, 0))], [], [])], [], [], [], 0, 0), [([], [(0, 4)], [(1, .inr (0, 3, 1))], [], [], [(-6, -6), (1, 1)], [([(6, (0, 0)), (7, (1, 1))], [(6, 5)], [])], [], [], [], 0, 0)], 2, 101, 0, 0)
noncomputable def k582_a : ckAs := []
noncomputable def k582_c : List (Nat × ckCtr) := [(3, k571), (57, k25)]
theorem k582_ok (l : Launch) : ckCtrOk l ckMT ckTW ckCL k582 := mt_103 (as := k582_a) (cs := k582_c) (gx := []) (f := 200000) rfl (ckHc (k571_ok l) (ckHc (k25_ok l) (fun _ h => absurd h List.not_mem_nil))) True.intro (by decide +kernel)
-- FarMachineModel.hole
noncomputable def k583 : ckCtr := (103, ([(0, (1, 0)), (1, (0, 0)), (2, (0, 1))], [], dC43, [(4, 4), (45, 1000), (0, 0), (7, 7)], [([(7, (0, 0))], [], [])], [], [], [], 0, 0), [([], [(0, 4)], [(1, .inr (0, 3, 1))], [], [], [(-6, -6), (1, 1)], [([(6, (0, 0)), (7, (1, 1))], [(6, 5)], [])], [], [], [], 0, 0)], 2, 101, 0, 0)
noncomputable def k583_a : ckAs := []
noncomputable def k583_c : List (Nat × ckCtr) := [(3, k569), (57, k25)]
theorem k583_ok (l : Launch) : ckCtrOk l ckMT ckTW ckCL k583 := mt_103 (as := k583_a) (cs := k583_c) (gx := []) (f := 200000) rfl (ckHc (k569_ok l) (ckHc (k25_ok l) (fun _ h => absurd h List.not_mem_nil))) True.intro (by decide +kernel)
-- FarMachineModel.hole
noncomputable def k584 : ckCtr := (103, ([(0, (1, 0)), (1, (0, 0)), (2, (0, 1))], [], dC43, [(5, 5), (44, 1000), (0, 0), (7, 7)], [([(7, (0, 0))], [], [])], [], [], [], 0, 0), [([], [(0, 4)], [(1, .inr (0, 3, 1))], [], [], [(-6, -6), (1, 1)], [([(6, (0, 0)), (7, (1, 1))], [(6, 5)], [])], [], [], [], 0, 0)], 2, 101, 0, 0)
noncomputable def k584_a : ckAs := []
noncomputable def k584_c : List (Nat × ckCtr) := [(3, k567), (57, k25)]
theorem k584_ok (l : Launch) : ckCtrOk l ckMT ckTW ckCL k584 := mt_103 (as := k584_a) (cs := k584_c) (gx := []) (f := 200000) rfl (ckHc (k567_ok l) (ckHc (k25_ok l) (fun _ h => absurd h List.not_mem_nil))) True.intro (by decide +kernel)
-- FarMachineModel.hole
noncomputable def k585 : ckCtr := (103, ([(0, (1, 0)), (1, (0, 0)), (2, (0, 1))], [], dC43, [(6, 6), (43, 1000), (0, 0), (7, 7)], [([(7, (0, 0))], [], [])], [], [], [], 0, 0), [([], [(0, 4)], [(1, .inr (0, 3, 1))], [], [], [(-6, -6), (1, 1)], [([(6, (0, 0)), (7, (1, 1))], [(6, 5)], [])], [], [], [], 0, 0)], 2, 101, 0, 0)
noncomputable def k585_a : ckAs := []
noncomputable def k585_c : List (Nat × ckCtr) := [(3, k565), (57, k25)]
theorem k585_ok (l : Launch) : ckCtrOk l ckMT ckTW ckCL k585 := mt_103 (as := k585_a) (cs := k585_c) (gx := []) (f := 200000) rfl (ckHc (k565_ok l) (ckHc (k25_ok l) (fun _ h => absurd h List.not_mem_nil))) True.intro (by decide +kernel)
-- FarMachineModel.hole
noncomputable def k586 : ckCtr := (103, ([(0, (1, 0)), (1, (0, 0)), (2, (0, 1))], [], dC105, [(7, 7), (42, 1000), (0, 0)], [([(7, (0, 0))], [], [])], [], [], [], 0, 0), [([], [(0, 3)], [(1, .inr (0, 0, 1))], [], [], [(-6, -6), (1, 1)], [([(6, (0, 0)), (7, (1, 1))], [(6, 4)], [])], [], [], [], 0, 0)], 2, 101, 0, 0)
noncomputable def k586_a : ckAs := []
noncomputable def k586_c : List (Nat × ckCtr) := [(3, k563), (57, k25)]
theorem k586_ok (l : Launch) : ckCtrOk l ckMT ckTW ckCL k586 := mt_103 (as := k586_a) (cs := k586_c) (gx := []) (f := 200000) rfl (ckHc (k563_ok l) (ckHc (k25_ok l) (fun _ h => absurd h List.not_mem_nil))) True.intro (by decide +kernel)
-- FarMachineModel.hole
noncomputable def k587 : ckCtr := (103, ([(0, (1, 0)), (1, (0, 0)), (2, (0, 1))], [], dC43, [(8, 8), (41, 1000), (0, 0), (7, 7)], [([(7, (0, 0))], [], [])], [], [], [], 0, 0), [([], [(0, 4)], [(1, .inr (0, 3, 1))], [], [], [(-6, -6), (1, 1)], [([(6, (0, 0)), (7, (1, 1))], [(6, 5)], [])], [], [], [], 0, 0)], 2, 101, 0, 0)
noncomputable def k587_a : ckAs := []
noncomputable def k587_c : List (Nat × ckCtr) := [(3, k561), (57, k25)]
theorem k587_ok (l : Launch) : ckCtrOk l ckMT ckTW ckCL k587 := mt_103 (as := k587_a) (cs := k587_c) (gx := []) (f := 200000) rfl (ckHc (k561_ok l) (ckHc (k25_ok l) (fun _ h => absurd h List.not_mem_nil))) True.intro (by decide +kernel)
-- FarMachineModel.hole
noncomputable def k588 : ckCtr := (103, ([(0, (1, 0)), (1, (0, 0)), (2, (0, 1))], [], dC43, [(9, 9), (40, 1000), (0, 0), (7, 7)], [([(7, (0, 0))], [], [])], [], [], [], 0, 0), [([], [(0, 4)], [(1, .inr (0, 3, 1))], [], [], [(-6, -6), (1, 1)], [([(6, (0, 0)), (7, (1, 1))], [(6, 5)], [])], [], [], [], 0, 0)], 2, 101, 0, 0)
noncomputable def k588_a : ckAs := []
noncomputable def k588_c : List (Nat × ckCtr) := [(3, k559), (57, k25)]
theorem k588_ok (l : Launch) : ckCtrOk l ckMT ckTW ckCL k588 := mt_103 (as := k588_a) (cs := k588_c) (gx := []) (f := 200000) rfl (ckHc (k559_ok l) (ckHc (k25_ok l) (fun _ h => absurd h List.not_mem_nil))) True.intro (by decide +kernel)
-- FarMachineModel.hole
noncomputable def k589 : ckCtr := (103, ([(0, (1, 0)), (1, (0, 0)), (2, (0, 1))], [], dC43, [(10, 10), (39, 1000), (0, 0), (7, 7)], [([(7, (0, 0))], [], [])], [], [], [], 0, 0), [([], [(0, 4)], [(1, .inr (0, 3, 1))], [], [], [(-6, -6), (1, 1)], [([(6, (0, 0)), (7, (1, 1))], [(6, 5)], [])], [], [], [], 0, 0)], 2, 101, 0, 0)
noncomputable def k589_a : ckAs := []
noncomputable def k589_c : List (Nat × ckCtr) := [(3, k557), (57, k25)]
theorem k589_ok (l : Launch) : ckCtrOk l ckMT ckTW ckCL k589 := mt_103 (as := k589_a) (cs := k589_c) (gx := []) (f := 200000) rfl (ckHc (k557_ok l) (ckHc (k25_ok l) (fun _ h => absurd h List.not_mem_nil))) True.intro (by decide +kernel)
-- FarMachineModel.hole
noncomputable def k590 : ckCtr := (103, ([(0, (1, 0)), (1, (0, 0)), (2, (0, 1))], [], dC43, [(11, 11), (38, 1000), (0, 0), (7, 7)], [([(7, (0, 0))], [], [])], [], [], [], 0, 0), [([], [(0, 4)], [(1, .inr (0, 3, 1))], [], [], [(-6, -6), (1, 1)], [([(6, (0, 0)), (7, (1, 1))], [(6, 5)], [])], [], [], [], 0, 0)], 2, 101, 0, 0)
noncomputable def k590_a : ckAs := []
noncomputable def k590_c : List (Nat × ckCtr) := [(3, k555), (57, k25)]
theorem k590_ok (l : Launch) : ckCtrOk l ckMT ckTW ckCL k590 := mt_103 (as := k590_a) (cs := k590_c) (gx := []) (f := 200000) rfl (ckHc (k555_ok l) (ckHc (k25_ok l) (fun _ h => absurd h List.not_mem_nil))) True.intro (by decide +kernel)
-- FarMachineModel.hole
noncomputable def k591 : ckCtr := (103, ([(0, (1, 0)), (1, (0, 0)), (2, (0, 1))], [], dC43, [(12, 12), (37, 1000), (0, 0), (7, 7)], [([(7, (0, 0))], [], [])], [], [], [], 0, 0), [([], [(0, 4)], [(1, .inr (0, 3, 1))], [], [], [(-6, -6), (1, 1)], [([(6, (0, 0)), (7, (1, 1))], [(6, 5)], [])], [], [], [], 0, 0)], 2, 101, 0, 0)
noncomputable def k591_a : ckAs := []
noncomputable def k591_c : List (Nat × ckCtr) := [(3, k553), (57, k25)]
theorem k591_ok (l : Launch) : ckCtrOk l ckMT ckTW ckCL k591 := mt_103 (as := k591_a) (cs := k591_c) (gx := []) (f := 200000) rfl (ckHc (k553_ok l) (ckHc (k25_ok l) (fun _ h => absurd h List.not_mem_nil))) True.intro (by decide +kernel)
-- FarMachineModel.hole
noncomputable def k592 : ckCtr := (103, ([(0, (1, 0)), (1, (0, 0)), (2, (0, 1))], [], dC43, [(13, 13), (36, 1000), (0, 0), (7, 7)], [([(7, (0, 0))], [], [])], [], [], [], 0, 0), [([], [(0, 4)], [(1, .inr (0, 3, 1))], [], [], [(-6, -6), (1, 1)], [([(6, (0, 0)), (7, (1, 1))], [(6, 5)], [])], [], [], [], 0, 0)], 2, 101, 0, 0)
noncomputable def k592_a : ckAs := []
noncomputable def k592_c : List (Nat × ckCtr) := [(3, k551), (57, k25)]
theorem k592_ok (l : Launch) : ckCtrOk l ckMT ckTW ckCL k592 := mt_103 (as := k592_a) (cs := k592_c) (gx := []) (f := 200000) rfl (ckHc (k551_ok l) (ckHc (k25_ok l) (fun _ h => absurd h List.not_mem_nil))) True.intro (by decide +kernel)
-- FarMachineModel.hole
noncomputable def k593 : ckCtr := (103, ([(0, (1, 0)), (1, (0, 0)), (2, (0, 1))], [], dC43, [(14, 14), (35, 1000), (0, 0), (7, 7)], [([(7, (0, 0))], [], [])], [], [], [], 0, 0), [([], [(0, 4)], [(1, .inr (0, 3, 1))], [], [], [(-6, -6), (1, 1)], [([(6, (0, 0)), (7, (1, 1))], [(6, 5)], [])], [], [], [], 0, 0)], 2, 101, 0, 0)
noncomputable def k593_a : ckAs := []
noncomputable def k593_c : List (Nat × ckCtr) := [(3, k549), (57, k25)]
theorem k593_ok (l : Launch) : ckCtrOk l ckMT ckTW ckCL k593 := mt_103 (as := k593_a) (cs := k593_c) (gx := []) (f := 200000) rfl (ckHc (k549_ok l) (ckHc (k25_ok l) (fun _ h => absurd h List.not_mem_nil))) True.intro (by decide +kernel)
-- FarMachineModel.hole
noncomputable def k594 : ckCtr := (103, ([(0, (1, 0)), (1, (0, 0)), (2, (0, 1))], [], dC43, [(15, 15), (34, 1000), (0, 0), (7, 7)], [([(7, (0, 0))], [], [])], [], [], [], 0, 0), [([], [(0, 4)], [(1, .inr (0, 3, 1))], [], [], [(-6, -6), (1, 1)], [([(6, (0, 0)), (7, (1, 1))], [(6, 5)], [])], [], [], [], 0, 0)], 2, 101, 0, 0)
noncomputable def k594_a : ckAs := []
noncomputable def k594_c : List (Nat × ckCtr) := [(3, k547), (57, k25)]
theorem k594_ok (l : Launch) : ckCtrOk l ckMT ckTW ckCL k594 := mt_103 (as := k594_a) (cs := k594_c) (gx := []) (f := 200000) rfl (ckHc (k547_ok l) (ckHc (k25_ok l) (fun _ h => absurd h List.not_mem_nil))) True.intro (by decide +kernel)
-- FarMachineModel.hole
noncomputable def k595 : ckCtr := (103, ([(0, (1, 0)), (1, (0, 0)), (2, (0, 1))], [], dC43, [(16, 16), (33, 1000), (0, 0), (7, 7)], [([(7, (0, 0))], [], [])], [], [], [], 0, 0), [([], [(0, 4)], [(1, .inr (0, 3, 1))], [], [], [(-6, -6), (1, 1)], [([(6, (0, 0)), (7, (1, 1))], [(6, 5)], [])], [], [], [], 0, 0)], 2, 101, 0, 0)
noncomputable def k595_a : ckAs := []
noncomputable def k595_c : List (Nat × ckCtr) := [(3, k545), (57, k25)]
theorem k595_ok (l : Launch) : ckCtrOk l ckMT ckTW ckCL k595 := mt_103 (as := k595_a) (cs := k595_c) (gx := []) (f := 200000) rfl (ckHc (k545_ok l) (ckHc (k25_ok l) (fun _ h => absurd h List.not_mem_nil))) True.intro (by decide +kernel)
-- FarMachineModel.hole
noncomputable def k596 : ckCtr := (103, ([(0, (1, 0)), (1, (0, 0)), (2, (0, 1))], [], dC43, [(17, 17), (32, 1000), (0, 0), (7, 7)], [([(7, (0, 0))], [], [])], [], [], [], 0, 0), [([], [(0, 4)], [(1, .inr (0, 3, 1))], [], [], [(-6, -6), (1, 1)], [([(6, (0, 0)), (7, (1, 1))], [(6, 5)], [])], [], [], [], 0, 0)], 2, 101, 0, 0)
noncomputable def k596_a : ckAs := []
noncomputable def k596_c : List (Nat × ckCtr) := [(3, k543), (57, k25)]
theorem k596_ok (l : Launch) : ckCtrOk l ckMT ckTW ckCL k596 := mt_103 (as := k596_a) (cs := k596_c) (gx := []) (f := 200000) rfl (ckHc (k543_ok l) (ckHc (k25_ok l) (fun _ h => absurd h List.not_mem_nil))) True.intro (by decide +kernel)
-- FarMachineModel.hole
noncomputable def k597 : ckCtr := (103, ([(0, (1, 0)), (1, (0, 0)), (2, (0, 1))], [], dC43, [(18, 18), (31, 1000), (0, 0), (7, 7)], [([(7, (0, 0))], [], [])], [], [], [], 0, 0), [([], [(0, 4)], [(1, .inr (0, 3, 1))], [], [], [(-6, -6), (1, 1)], [([(6, (0, 0)), (7, (1, 1))], [(6, 5)], [])], [], [], [], 0, 0)], 2, 101, 0, 0)
noncomputable def k597_a : ckAs := []
noncomputable def k597_c : List (Nat × ckCtr) := [(3, k541), (57, k25)]
theorem k597_ok (l : Launch) : ckCtrOk l ckMT ckTW ckCL k597 := mt_103 (as := k597_a) (cs := k597_c) (gx := []) (f := 200000) rfl (ckHc (k541_ok l) (ckHc (k25_ok l) (fun _ h => absurd h List.not_mem_nil))) True.intro (by decide +kernel)
-- FarMachineModel.hole
noncomputable def k598 : ckCtr := (103, ([(0, (1, 0)), (1, (0, 0)), (2, (0, 1))], [], dC43, [(19, 19), (30, 1000), (0, 0), (7, 7)], [([(7, (0, 0))], [], [])], [], [], [], 0, 0), [([], [(0, 4)], [(1, .inr (0, 3, 1))], [], [], [(-6, -6), (1, 1)], [([(6, (0, 0)), (7, (1, 1))], [(6, 5)], [])], [], [], [], 0, 0)], 2, 101, 0, 0)
noncomputable def k598_a : ckAs := []
noncomputable def k598_c : List (Nat × ckCtr) := [(3, k539), (57, k25)]
theorem k598_ok (l : Launch) : ckCtrOk l ckMT ckTW ckCL k598 := mt_103 (as := k598_a) (cs := k598_c) (gx := []) (f := 200000) rfl (ckHc (k539_ok l) (ckHc (k25_ok l) (fun _ h => absurd h List.not_mem_nil))) True.intro (by decide +kernel)
-- FarMachineModel.hole
noncomputable def k599 : ckCtr := (103, ([(0, (1, 0)), (1, (0, 0)), (2, (0, 1))], [], dC43, [(20, 20), (29, 1000), (0, 0), (7, 7)], [([(7, (0, 0))], [], [])], [], [], [], 0, 0), [([], [(0, 4)], [(1, .inr (0, 3, 1))], [], [], [(-6, -6), (1, 1)], [([(6, (0, 0)), (7, (1, 1))], [(6, 5)], [])], [], [], [], 0, 0)], 2, 101, 0, 0)
noncomputable def k599_a : ckAs := []
noncomputable def k599_c : List (Nat × ckCtr) := [(3, k537), (57, k25)]
theorem k599_ok (l : Launch) : ckCtrOk l ckMT ckTW ckCL k599 := mt_103 (as := k599_a) (cs := k599_c) (gx := []) (f := 200000) rfl (ckHc (k537_ok l) (ckHc (k25_ok l) (fun _ h => absurd h List.not_mem_nil))) True.intro (by decide +kernel)
-- FarMachineModel.hole
noncomputable def k600 : ckCtr := (103, ([(0, (1, 0)), (1, (0, 0)), (2, (0, 1))], [], dC43, [(21, 21), (28, 1000), (0, 0), (7, 7)], [([(7, (0, 0))], [], [])], [], [], [], 0, 0), [([], [(0, 4)], [(1, .inr (0, 3, 1))], [], [], [(-6, -6), (1, 1)], [([(6, (0, 0)), (7, (1, 1))], [(6, 5)], [])], [], [], [], 0, 0)], 2, 101, 0, 0)
noncomputable def k600_a : ckAs := []
noncomputable def k600_c : List (Nat × ckCtr) := [(3, k535), (57, k25)]
theorem k600_ok (l : Launch) : ckCtrOk l ckMT ckTW ckCL k600 := mt_103 (as := k600_a) (cs := k600_c) (gx := []) (f := 200000) rfl (ckHc (k535_ok l) (ckHc (k25_ok l) (fun _ h => absurd h List.not_mem_nil))) True.intro (by decide +kernel)
-- FarMachineModel.hole
noncomputable def k601 : ckCtr := (103, ([(0, (1, 0)), (1, (0, 0)), (2, (0, 1))], [], dC43, [(22, 22), (27, 1000), (0, 0), (7, 7)], [([(7, (0, 0))], [], [])], [], [], [], 0, 0), [([], [(0, 4)], [(1, .inr (0, 3, 1))], [], [], [(-6, -6), (1, 1)], [([(6, (0, 0)), (7, (1, 1))], [(6, 5)], [])], [], [], [], 0, 0)], 2, 101, 0, 0)
noncomputable def k601_a : ckAs := []
noncomputable def k601_c : List (Nat × ckCtr) := [(3, k533), (57, k25)]
theorem k601_ok (l : Launch) : ckCtrOk l ckMT ckTW ckCL k601 := mt_103 (as := k601_a) (cs := k601_c) (gx := []) (f := 200000) rfl (ckHc (k533_ok l) (ckHc (k25_ok l) (fun _ h => absurd h List.not_mem_nil))) True.intro (by decide +kernel)
-- FarMachineModel.hole
noncomputable def k602 : ckCtr := (103, ([(0, (1, 0)), (1, (0, 0)), (2, (0, 1))], [], dC43, [(23, 23), (26, 1000), (0, 0), (7, 7)], [([(7, (0, 0))], [], [])], [], [], [], 0, 0), [([], [(0, 4)], [(1, .inr (0, 3, 1))], [], [], [(-6, -6), (1, 1)], [([(6, (0, 0)), (7, (1, 1))], [(6, 5)], [])], [], [], [], 0, 0)], 2, 101, 0, 0)
noncomputable def k602_a : ckAs := []
noncomputable def k602_c : List (Nat × ckCtr) := [(3, k531), (57, k25)]
theorem k602_ok (l : Launch) : ckCtrOk l ckMT ckTW ckCL k602 := mt_103 (as := k602_a) (cs := k602_c) (gx := []) (f := 200000) rfl (ckHc (k531_ok l) (ckHc (k25_ok l) (fun _ h => absurd h List.not_mem_nil))) True.intro (by decide +kernel)
-- FarMachineModel.hole
noncomputable def k603 : ckCtr := (103, ([(0, (1, 0)), (1, (0, 0)), (2, (0, 1))], [], dC43, [(24, 24), (25, 1000), (0, 0), (7, 7)], [([(7, (0, 0))], [], [])], [], [], [], 0, 0), [([], [(0, 4)], [(1, .inr (0, 3, 1))], [], [], [(-6, -6), (1, 1)], [([(6, (0, 0)), (7, (1, 1))], [(6, 5)], [])], [], [], [], 0, 0)], 2, 101, 0, 0)
noncomputable def k603_a : ckAs := []
noncomputable def k603_c : List (Nat × ckCtr) := [(3, k529), (57, k25)]
theorem k603_ok (l : Launch) : ckCtrOk l ckMT ckTW ckCL k603 := mt_103 (as := k603_a) (cs := k603_c) (gx := []) (f := 200000) rfl (ckHc (k529_ok l) (ckHc (k25_ok l) (fun _ h => absurd h List.not_mem_nil))) True.intro (by decide +kernel)
-- FarMachineModel.hole
noncomputable def k604 : ckCtr := (103, ([(0, (1, 0)), (1, (0, 0)), (2, (0, 1))], [], dC43, [(25, 25), (24, 1000), (0, 0), (7, 7)], [([(7, (0, 0))], [], [])], [], [], [], 0, 0), [([], [(0, 4)], [(1, .inr (0, 3, 1))], [], [], [(-6, -6), (1, 1)], [([(6, (0, 0)), (7, (1, 1))], [(6, 5)], [])], [], [], [], 0, 0)], 2, 101, 0, 0)
noncomputable def k604_a : ckAs := []
noncomputable def k604_c : List (Nat × ckCtr) := [(3, k527), (57, k25)]
theorem k604_ok (l : Launch) : ckCtrOk l ckMT ckTW ckCL k604 := mt_103 (as := k604_a) (cs := k604_c) (gx := []) (f := 200000) rfl (ckHc (k527_ok l) (ckHc (k25_ok l) (fun _ h => absurd h List.not_mem_nil))) True.intro (by decide +kernel)
-- FarMachineModel.hole
noncomputable def k605 : ckCtr := (103, ([(0, (1, 0)), (1, (0, 0)), (2, (0, 1))], [], dC43, [(26, 26), (23, 1000), (0, 0), (7, 7)], [([(7, (0, 0))], [], [])], [], [], [], 0, 0), [([], [(0, 4)], [(1, .inr (0, 3, 1))], [], [], [(-6, -6), (1, 1)], [([(6, (0, 0)), (7, (1, 1))], [(6, 5)], [])], [], [], [], 0, 0)], 2, 101, 0, 0)
noncomputable def k605_a : ckAs := []
noncomputable def k605_c : List (Nat × ckCtr) := [(3, k525), (57, k25)]
theorem k605_ok (l : Launch) : ckCtrOk l ckMT ckTW ckCL k605 := mt_103 (as := k605_a) (cs := k605_c) (gx := []) (f := 200000) rfl (ckHc (k525_ok l) (ckHc (k25_ok l) (fun _ h => absurd h List.not_mem_nil))) True.intro (by decide +kernel)
-- FarMachineModel.hole
noncomputable def k606 : ckCtr := (103, ([(0, (1, 0)), (1, (0, 0)), (2, (0, 1))], [], dC43, [(27, 27), (22, 1000), (0, 0), (7, 7)], [([(7, (0, 0))], [], [])], [], [], [], 0, 0), [([], [(0, 4)], [(1, .inr (0, 3, 1))], [], [], [(-6, -6), (1, 1)], [([(6, (0, 0)), (7, (1, 1))], [(6, 5)], [])], [], [], [], 0, 0)], 2, 101, 0, 0)
noncomputable def k606_a : ckAs := []
noncomputable def k606_c : List (Nat × ckCtr) := [(3, k523), (57, k25)]
theorem k606_ok (l : Launch) : ckCtrOk l ckMT ckTW ckCL k606 := mt_103 (as := k606_a) (cs := k606_c) (gx := []) (f := 200000) rfl (ckHc (k523_ok l) (ckHc (k25_ok l) (fun _ h => absurd h List.not_mem_nil))) True.intro (by decide +kernel)
-- FarMachineModel.hole
noncomputable def k607 : ckCtr := (103, ([(0, (1, 0)), (1, (0, 0)), (2, (0, 1))], [], dC43, [(28, 28), (21, 1000), (0, 0), (7, 7)], [([(7, (0, 0))], [], [])], [], [], [], 0, 0), [([], [(0, 4)], [(1, .inr (0, 3, 1))], [], [], [(-6, -6), (1, 1)], [([(6, (0, 0)), (7, (1, 1))], [(6, 5)], [])], [], [], [], 0, 0)], 2, 101, 0, 0)
noncomputable def k607_a : ckAs := []
noncomputable def k607_c : List (Nat × ckCtr) := [(3, k521), (57, k25)]
theorem k607_ok (l : Launch) : ckCtrOk l ckMT ckTW ckCL k607 := mt_103 (as := k607_a) (cs := k607_c) (gx := []) (f := 200000) rfl (ckHc (k521_ok l) (ckHc (k25_ok l) (fun _ h => absurd h List.not_mem_nil))) True.intro (by decide +kernel)
-- FarMachineModel.hole
noncomputable def k608 : ckCtr := (103, ([(0, (1, 0)), (1, (0, 0)), (2, (0, 1))], [], dC43, [(29, 29), (20, 1000), (0, 0), (7, 7)], [([(7, (0, 0))], [], [])], [], [], [], 0, 0), [([], [(0, 4)], [(1, .inr (0, 3, 1))], [], [], [(-6, -6), (1, 1)], [([(6, (0, 0)), (7, (1, 1))], [(6, 5)], [])], [], [], [], 0, 0)], 2, 101, 0, 0)
noncomputable def k608_a : ckAs := []
noncomputable def k608_c : List (Nat × ckCtr) := [(3, k519), (57, k25)]
theorem k608_ok (l : Launch) : ckCtrOk l ckMT ckTW ckCL k608 := mt_103 (as := k608_a) (cs := k608_c) (gx := []) (f := 200000) rfl (ckHc (k519_ok l) (ckHc (k25_ok l) (fun _ h => absurd h List.not_mem_nil))) True.intro (by decide +kernel)
-- FarMachineModel.hole
noncomputable def k609 : ckCtr := (103, ([(0, (1, 0)), (1, (0, 0)), (2, (0, 1))], [], dC43, [(30, 30), (19, 1000), (0, 0), (7, 7)], [([(7, (0, 0))], [], [])], [], [], [], 0, 0), [([], [(0, 4)], [(1, .inr (0, 3, 1))], [], [], [(-6, -6), (1, 1)], [([(6, (0, 0)), (7, (1, 1))], [(6, 5)], [])], [], [], [], 0, 0)], 2, 101, 0, 0)
noncomputable def k609_a : ckAs := []
noncomputable def k609_c : List (Nat × ckCtr) := [(3, k517), (57, k25)]
theorem k609_ok (l : Launch) : ckCtrOk l ckMT ckTW ckCL k609 := mt_103 (as := k609_a) (cs := k609_c) (gx := []) (f := 200000) rfl (ckHc (k517_ok l) (ckHc (k25_ok l) (fun _ h => absurd h List.not_mem_nil))) True.intro (by decide +kernel)
-- FarMachineModel.hole
noncomputable def k610 : ckCtr := (103, ([(0, (1, 0)), (1, (0, 0)), (2, (0, 1))], [], dC43, [(31, 31), (18, 1000), (0, 0), (7, 7)], [([(7, (0, 0))], [], [])], [], [], [], 0, 0), [([], [(0, 4)], [(1, .inr (0, 3, 1))], [], [], [(-6, -6), (1, 1)], [([(6, (0, 0)), (7, (1, 1))], [(6, 5)], [])], [], [], [], 0, 0)], 2, 101, 0, 0)
noncomputable def k610_a : ckAs := []
noncomputable def k610_c : List (Nat × ckCtr) := [(3, k515), (57, k25)]
theorem k610_ok (l : Launch) : ckCtrOk l ckMT ckTW ckCL k610 := mt_103 (as := k610_a) (cs := k610_c) (gx := []) (f := 200000) rfl (ckHc (k515_ok l) (ckHc (k25_ok l) (fun _ h => absurd h List.not_mem_nil))) True.intro (by decide +kernel)
-- FarMachineModel.hole
noncomputable def k611 : ckCtr := (103, ([(0, (1, 0)), (1, (0, 0)), (2, (0, 1))], [], dC43, [(32, 32), (17, 1000), (0, 0), (7, 7)], [([(7, (0, 0))], [], [])], [], [], [], 0, 0), [([], [(0, 4)], [(1, .inr (0, 3, 1))], [], [], [(-6, -6), (1, 1)], [([(6, (0, 0)), (7, (1, 1))], [(6, 5)], [])], [], [], [], 0, 0)], 2, 101, 0, 0)
noncomputable def k611_a : ckAs := []
noncomputable def k611_c : List (Nat × ckCtr) := [(3, k513), (57, k25)]
theorem k611_ok (l : Launch) : ckCtrOk l ckMT ckTW ckCL k611 := mt_103 (as := k611_a) (cs := k611_c) (gx := []) (f := 200000) rfl (ckHc (k513_ok l) (ckHc (k25_ok l) (fun _ h => absurd h List.not_mem_nil))) True.intro (by decide +kernel)
-- FarMachineModel.hole
noncomputable def k612 : ckCtr := (103, ([(0, (1, 0)), (1, (0, 0)), (2, (0, 1))], [], dC43, [(33, 33), (16, 1000), (0, 0), (7, 7)], [([(7, (0, 0))], [], [])], [], [], [], 0, 0), [([], [(0, 4)], [(1, .inr (0, 3, 1))], [], [], [(-6, -6), (1, 1)], [([(6, (0, 0)), (7, (1, 1))], [(6, 5)], [])], [], [], [], 0, 0)], 2, 101, 0, 0)
noncomputable def k612_a : ckAs := []
noncomputable def k612_c : List (Nat × ckCtr) := [(3, k511), (57, k25)]
theorem k612_ok (l : Launch) : ckCtrOk l ckMT ckTW ckCL k612 := mt_103 (as := k612_a) (cs := k612_c) (gx := []) (f := 200000) rfl (ckHc (k511_ok l) (ckHc (k25_ok l) (fun _ h => absurd h List.not_mem_nil))) True.intro (by decide +kernel)
-- FarMachineModel.hole
noncomputable def k613 : ckCtr := (103, ([(0, (1, 0)), (1, (0, 0)), (2, (0, 1))], [], dC43, [(34, 34), (15, 1000), (0, 0), (7, 7)], [([(7, (0, 0))], [], [])], [], [], [], 0, 0), [([], [(0, 4)], [(1, .inr (0, 3, 1))], [], [], [(-6, -6), (1, 1)], [([(6, (0, 0)), (7, (1, 1))], [(6, 5)], [])], [], [], [], 0, 0)], 2, 101, 0, 0)
noncomputable def k613_a : ckAs := []
noncomputable def k613_c : List (Nat × ckCtr) := [(3, k509), (57, k25)]
theorem k613_ok (l : Launch) : ckCtrOk l ckMT ckTW ckCL k613 := mt_103 (as := k613_a) (cs := k613_c) (gx := []) (f := 200000) rfl (ckHc (k509_ok l) (ckHc (k25_ok l) (fun _ h => absurd h List.not_mem_nil))) True.intro (by decide +kernel)
-- FarMachineModel.hole
noncomputable def k614 : ckCtr := (103, ([(0, (1, 0)), (1, (0, 0)), (2, (0, 1))], [], dC43, [(35, 35), (14, 1000), (0, 0), (7, 7)], [([(7, (0, 0))], [], [])], [], [], [], 0, 0), [([], [(0, 4)], [(1, .inr (0, 3, 1))], [], [], [(-6, -6), (1, 1)], [([(6, (0, 0)), (7, (1, 1))], [(6, 5)], [])], [], [], [], 0, 0)], 2, 101, 0, 0)
noncomputable def k614_a : ckAs := []
noncomputable def k614_c : List (Nat × ckCtr) := [(3, k507), (57, k25)]
theorem k614_ok (l : Launch) : ckCtrOk l ckMT ckTW ckCL k614 := mt_103 (as := k614_a) (cs := k614_c) (gx := []) (f := 200000) rfl (ckHc (k507_ok l) (ckHc (k25_ok l) (fun _ h => absurd h List.not_mem_nil))) True.intro (by decide +kernel)
-- FarMachineModel.hole
noncomputable def k615 : ckCtr := (103, ([(0, (1, 0)), (1, (0, 0)), (2, (0, 1))], [], dC43, [(36, 36), (13, 1000), (0, 0), (7, 7)], [([(7, (0, 0))], [], [])], [], [], [], 0, 0), [([], [(0, 4)], [(1, .inr (0, 3, 1))], [], [], [(-6, -6), (1, 1)], [([(6, (0, 0)), (7, (1, 1))], [(6, 5)], [])], [], [], [], 0, 0)], 2, 101, 0, 0)
noncomputable def k615_a : ckAs := []
noncomputable def k615_c : List (Nat × ckCtr) := [(3, k505), (57, k25)]
theorem k615_ok (l : Launch) : ckCtrOk l ckMT ckTW ckCL k615 := mt_103 (as := k615_a) (cs := k615_c) (gx := []) (f := 200000) rfl (ckHc (k505_ok l) (ckHc (k25_ok l) (fun _ h => absurd h List.not_mem_nil))) True.intro (by decide +kernel)
-- FarMachineModel.hole
noncomputable def k616 : ckCtr := (103, ([(0, (1, 0)), (1, (0, 0)), (2, (0, 1))], [], dC43, [(37, 37), (12, 1000), (0, 0), (7, 7)], [([(7, (0, 0))], [], [])], [], [], [], 0, 0), [([], [(0, 4)], [(1, .inr (0, 3, 1))], [], [], [(-6, -6), (1, 1)], [([(6, (0, 0)), (7, (1, 1))], [(6, 5)], [])], [], [], [], 0, 0)], 2, 101, 0, 0)
noncomputable def k616_a : ckAs := []
noncomputable def k616_c : List (Nat × ckCtr) := [(3, k503), (57, k25)]
theorem k616_ok (l : Launch) : ckCtrOk l ckMT ckTW ckCL k616 := mt_103 (as := k616_a) (cs := k616_c) (gx := []) (f := 200000) rfl (ckHc (k503_ok l) (ckHc (k25_ok l) (fun _ h => absurd h List.not_mem_nil))) True.intro (by decide +kernel)
-- FarMachineModel.hole
noncomputable def k617 : ckCtr := (103, ([(0, (1, 0)), (1, (0, 0)), (2, (0, 1))], [], dC43, [(38, 38), (11, 1000), (0, 0), (7, 7)], [([(7, (0, 0))], [], [])], [], [], [], 0, 0), [([], [(0, 4)], [(1, .inr (0, 3, 1))], [], [], [(-6, -6), (1, 1)], [([(6, (0, 0)), (7, (1, 1))], [(6, 5)], [])], [], [], [], 0, 0)], 2, 101, 0, 0)
noncomputable def k617_a : ckAs := []
noncomputable def k617_c : List (Nat × ckCtr) := [(3, k501), (57, k25)]
theorem k617_ok (l : Launch) : ckCtrOk l ckMT ckTW ckCL k617 := mt_103 (as := k617_a) (cs := k617_c) (gx := []) (f := 200000) rfl (ckHc (k501_ok l) (ckHc (k25_ok l) (fun _ h => absurd h List.not_mem_nil))) True.intro (by decide +kernel)
-- FarMachineModel.hole
noncomputable def k618 : ckCtr := (103, ([(0, (1, 0)), (1, (0, 0)), (2, (0, 1))], [], dC43, [(39, 39), (10, 1000), (0, 0), (7, 7)], [([(7, (0, 0))], [], [])], [], [], [], 0, 0), [([], [(0, 4)], [(1, .inr (0, 3, 1))], [], [], [(-6, -6), (1, 1)], [([(6, (0, 0)), (7, (1, 1))], [(6, 5)], [])], [], [], [], 0, 0)], 2, 101, 0, 0)
noncomputable def k618_a : ckAs := []
noncomputable def k618_c : List (Nat × ckCtr) := [(3, k499), (57, k25)]
theorem k618_ok (l : Launch) : ckCtrOk l ckMT ckTW ckCL k618 := mt_103 (as := k618_a) (cs := k618_c) (gx := []) (f := 200000) rfl (ckHc (k499_ok l) (ckHc (k25_ok l) (fun _ h => absurd h List.not_mem_nil))) True.intro (by decide +kernel)
-- FarMachineModel.hole
noncomputable def k619 : ckCtr := (103, ([(0, (1, 0)), (1, (0, 0)), (2, (0, 1))], [], dC43, [(40, 40), (9, 1000), (0, 0), (7, 7)], [([(7, (0, 0))], [], [])], [], [], [], 0, 0), [([], [(0, 4)], [(1, .inr (0, 3, 1))], [], [], [(-6, -6), (1, 1)], [([(6, (0, 0)), (7, (1, 1))], [(6, 5)], [])], [], [], [], 0, 0)], 2, 101, 0, 0)
noncomputable def k619_a : ckAs := []
noncomputable def k619_c : List (Nat × ckCtr) := [(3, k497), (57, k25)]
theorem k619_ok (l : Launch) : ckCtrOk l ckMT ckTW ckCL k619 := mt_103 (as := k619_a) (cs := k619_c) (gx := []) (f := 200000) rfl (ckHc (k497_ok l) (ckHc (k25_ok l) (fun _ h => absurd h List.not_mem_nil))) True.intro (by decide +kernel)
-- FarMachineModel.hole
noncomputable def k620 : ckCtr := (103, ([(0, (1, 0)), (1, (0, 0)), (2, (0, 1))], [], dC43, [(41, 41), (8, 1000), (0, 0), (7, 7)], [([(7, (0, 0))], [], [])], [], [], [], 0, 0), [([], [(0, 4)], [(1, .inr (0, 3, 1))], [], [], [(-6, -6), (1, 1)], [([(6, (0, 0)), (7, (1, 1))], [(6, 5)], [])], [], [], [], 0, 0)], 2, 101, 0, 0)
noncomputable def k620_a : ckAs := []
noncomputable def k620_c : List (Nat × ckCtr) := [(3, k495), (57, k25)]
theorem k620_ok (l : Launch) : ckCtrOk l ckMT ckTW ckCL k620 := mt_103 (as := k620_a) (cs := k620_c) (gx := []) (f := 200000) rfl (ckHc (k495_ok l) (ckHc (k25_ok l) (fun _ h => absurd h List.not_mem_nil))) True.intro (by decide +kernel)
-- FarMachineModel.hole
noncomputable def k621 : ckCtr := (103, ([(0, (1, 0)), (1, (0, 0)), (2, (0, 1))], [], dC43, [(42, 42), (7, 1000), (0, 0), (7, 7)], [([(7, (0, 0))], [], [])], [], [], [], 0, 0), [([], [(0, 4)], [(1, .inr (0, 3, 1))], [], [], [(-6, -6), (1, 1)], [([(6, (0, 0)), (7, (1, 1))], [(6, 5)], [])], [], [], [], 0, 0)], 2, 101, 0, 0)
noncomputable def k621_a : ckAs := []
noncomputable def k621_c : List (Nat × ckCtr) := [(3, k493), (57, k25)]
theorem k621_ok (l : Launch) : ckCtrOk l ckMT ckTW ckCL k621 := mt_103 (as := k621_a) (cs := k621_c) (gx := []) (f := 200000) rfl (ckHc (k493_ok l) (ckHc (k25_ok l) (fun _ h => absurd h List.not_mem_nil))) True.intro (by decide +kernel)
-- FarMachineModel.hole
noncomputable def k622 : ckCtr := (103, ([(0, (1, 0)), (1, (0, 0)), (2, (0, 1))], [], dC43, [(43, 43), (6, 1000), (0, 0), (7, 7)], [([(7, (0, 0))], [], [])], [], [], [], 0, 0), [([], [(0, 4)], [(1, .inr (0, 3, 1))], [], [], [(-6, -6), (1, 1)], [([(6, (0, 0)), (7, (1, 1))], [(6, 5)], [])], [], [], [], 0, 0)], 2, 101, 0, 0)
noncomputable def k622_a : ckAs := []
noncomputable def k622_c : List (Nat × ckCtr) := [(3, k491), (57, k25)]
theorem k622_ok (l : Launch) : ckCtrOk l ckMT ckTW ckCL k622 := mt_103 (as := k622_a) (cs := k622_c) (gx := []) (f := 200000) rfl (ckHc (k491_ok l) (ckHc (k25_ok l) (fun _ h => absurd h List.not_mem_nil))) True.intro (by decide +kernel)
-- FarMachineModel.hole
noncomputable def k623 : ckCtr := (103, ([(0, (1, 0)), (1, (0, 0)), (2, (0, 1))], [], dC43, [(44, 44), (5, 1000), (0, 0), (7, 7)], [([(7, (0, 0))], [], [])], [], [], [], 0, 0), [([], [(0, 4)], [(1, .inr (0, 3, 1))], [], [], [(-6, -6), (1, 1)], [([(6, (0, 0)), (7, (1, 1))], [(6, 5)], [])], [], [], [], 0, 0)], 2, 101, 0, 0)
noncomputable def k623_a : ckAs := []
noncomputable def k623_c : List (Nat × ckCtr) := [(3, k489), (57, k25)]
theorem k623_ok (l : Launch) : ckCtrOk l ckMT ckTW ckCL k623 := mt_103 (as := k623_a) (cs := k623_c) (gx := []) (f := 200000) rfl (ckHc (k489_ok l) (ckHc (k25_ok l) (fun _ h => absurd h List.not_mem_nil))) True.intro (by decide +kernel)
-- FarMachineModel.hole
noncomputable def k624 : ckCtr := (103, ([(0, (1, 0)), (1, (0, 0)), (2, (0, 1))], [], dC43, [(45, 45), (4, 1000), (0, 0), (7, 7)], [([(7, (0, 0))], [], [])], [], [], [], 0, 0), [([], [(0, 4)], [(1, .inr (0, 3, 1))], [], [], [(-6, -6), (1, 1)], [([(6, (0, 0)), (7, (1, 1))], [(6, 5)], [])], [], [], [], 0, 0)], 2, 101, 0, 0)
noncomputable def k624_a : ckAs := []
noncomputable def k624_c : List (Nat × ckCtr) := [(3, k487), (57, k25)]
theorem k624_ok (l : Launch) : ckCtrOk l ckMT ckTW ckCL k624 := mt_103 (as := k624_a) (cs := k624_c) (gx := []) (f := 200000) rfl (ckHc (k487_ok l) (ckHc (k25_ok l) (fun _ h => absurd h List.not_mem_nil))) True.intro (by decide +kernel)
-- FarMachineModel.hole
noncomputable def k625 : ckCtr := (103, ([(0, (1, 0)), (1, (0, 0)), (2, (0, 1))], [], dC43, [(46, 46), (3, 1000), (0, 0), (7, 7)], [([(7, (0, 0))], [], [])], [], [], [], 0, 0), [([], [(0, 4)], [(1, .inr (0, 3, 1))], [], [], [(-6, -6), (1, 1)], [([(6, (0, 0)), (7, (1, 1))], [(6, 5)], [])], [], [], [], 0, 0)], 2, 101, 0, 0)
noncomputable def k625_a : ckAs := []
noncomputable def k625_c : List (Nat × ckCtr) := [(3, k485), (57, k25)]
theorem k625_ok (l : Launch) : ckCtrOk l ckMT ckTW ckCL k625 := mt_103 (as := k625_a) (cs := k625_c) (gx := []) (f := 200000) rfl (ckHc (k485_ok l) (ckHc (k25_ok l) (fun _ h => absurd h List.not_mem_nil))) True.intro (by decide +kernel)
-- FarMachineModel.hole
noncomputable def k626 : ckCtr := (103, ([(0, (1, 0)), (1, (0, 0)), (2, (0, 1))], [], dC43, [(47, 47), (2, 1000), (0, 0), (7, 7)], [([(7, (0, 0))], [], [])], [], [], [], 0, 0), [([], [(0, 4)], [(1, .inr (0, 3, 1))], [], [], [(-6, -6), (1, 1)], [([(6, (0, 0)), (7, (1, 1))], [(6, 5)], [])], [], [], [], 0, 0)], 2, 101, 0, 0)
noncomputable def k626_a : ckAs := []
noncomputable def k626_c : List (Nat × ckCtr) := [(3, k483), (57, k25)]
theorem k626_ok (l : Launch) : ckCtrOk l ckMT ckTW ckCL k626 := mt_103 (as := k626_a) (cs := k626_c) (gx := []) (f := 200000) rfl (ckHc (k483_ok l) (ckHc (k25_ok l) (fun _ h => absurd h List.not_mem_nil))) True.intro (by decide +kernel)
-- FarMachineModel.hole
noncomputable def k627 : ckCtr := (103, ([(0, (1, 0)), (1, (0, 0)), (2, (0, 1))], [], dC106, [(0, 0), (1001, 2147483647), (7, 7)], [([(7, (0, 0))], [], [])], [], [], [], 0, 0), [([], [(0, 3)], [(1, .inr (0, 2, 1))], [], [], [(-6, -6), (1, 1)], [([(6, (0, 0)), (7, (1, 1))], [(6, 4)], [])], [], [], [], 0, 0)], 2, 101, 0, 0)
noncomputable def k627_a : ckAs := []
noncomputable def k627_c : List (Nat × ckCtr) := [(3, k577), (57, k25)]
theorem k627_ok (l : Launch) : ckCtrOk l ckMT ckTW ckCL k627 := mt_103 (as := k627_a) (cs := k627_c) (gx := []) (f := 200000) rfl (ckHc (k577_ok l) (ckHc (k25_ok l) (fun _ h => absurd h List.not_mem_nil))) True.intro (by decide +kernel)
-- FarMachineModel.hole
noncomputable def k628 : ckCtr := (103, ([(0, (1, 0)), (1, (0, 0)), (2, (0, 1))], [], dC43, [(1, 1), (1001, 2147483647), (0, 0), (7, 7)], [([(7, (0, 0))], [], [])], [], [], [], 0, 0), [([], [(0, 4)], [(1, .inr (0, 3, 1))], [], [], [(-6, -6)], [([(6, (0, 0)), (7, (1, 1))], [(6, 0)], [])], [], [], [], 0, 0)], 2, 101, 0, 0)
noncomputable def k628_a : ckAs := []
noncomputable def k628_c : List (Nat × ckCtr) := [(3, k575), (57, k25)]
theorem k628_ok (l : Launch) : ckCtrOk l ckMT ckTW ckCL k628 := mt_103 (as := k628_a) (cs := k628_c) (gx := []) (f := 200000) rfl (ckHc (k575_ok l) (ckHc (k25_ok l) (fun _ h => absurd h List.not_mem_nil))) True.intro (by decide +kernel)
-- FarMachineModel.hole
noncomputable def k629 : ckCtr := (103, ([(0, (1, 0)), (1, (0, 0)), (2, (0, 1))], [], dC43, [(2, 2), (1001, 2147483647), (0, 0), (7, 7)], [([(7, (0, 0))], [], [])], [], [], [], 0, 0), [([], [(0, 4)], [(1, .inr (0, 3, 1))], [], [], [(-6, -6), (1, 1)], [([(6, (0, 0)), (7, (1, 1))], [(6, 5)], [])], [], [], [], 0, 0)], 2, 101, 0, 0)
noncomputable def k629_a : ckAs := []
noncomputable def k629_c : List (Nat × ckCtr) := [(3, k573), (57, k25)]
theorem k629_ok (l : Launch) : ckCtrOk l ckMT ckTW ckCL k629 := mt_103 (as := k629_a) (cs := k629_c) (gx := []) (f := 200000) rfl (ckHc (k573_ok l) (ckHc (k25_ok l) (fun _ h => absurd h List.not_mem_nil))) True.intro (by decide +kernel)
-- FarMachineModel.hole
noncomputable def k630 : ckCtr := (103, ([(0, (1, 0)), (1, (0, 0)), (2, (0, 1))], [], dC43, [(3, 3), (1001, 2147483647), (0, 0), (7, 7)], [([(7, (0, 0))], [], [])], [], [], [], 0, 0), [([], [(0, 4)], [(1, .inr (0, 3, 1))], [], [], [(-6, -6), (1, 1)], [([(6, (0, 0)), (7, (1, 1))], [(6, 5)], [])], [], [], [], 0, 0)], 2, 101, 0, 0)
noncomputable def k630_a : ckAs := []
noncomputable def k630_c : List (Nat × ckCtr) := [(3, k571), (57, k25)]
theorem k630_ok (l : Launch) : ckCtrOk l ckMT ckTW ckCL k630 := mt_103 (as := k630_a) (cs := k630_c) (gx := []) (f := 200000) rfl (ckHc (k571_ok l) (ckHc (k25_ok l) (fun _ h => absurd h List.not_mem_nil))) True.intro (by decide +kernel)
-- FarMachineModel.hole
noncomputable def k631 : ckCtr := (103, ([(0, (1, 0)), (1, (0, 0)), (2, (0, 1))], [], dC43, [(4, 4), (1001, 2147483647), (0, 0), (7, 7)], [([(7, (0, 0))], [], [])], [], [], [], 0, 0), [([], [(0, 4)], [(1, .inr (0, 3, 1))], [], [], [(-6, -6), (1, 1)], [([(6, (0, 0)), (7, (1, 1))], [(6, 5)], [])], [], [], [], 0, 0)], 2, 101, 0, 0)
noncomputable def k631_a : ckAs := []
noncomputable def k631_c : List (Nat × ckCtr) := [(3, k569), (57, k25)]
theorem k631_ok (l : Launch) : ckCtrOk l ckMT ckTW ckCL k631 := mt_103 (as := k631_a) (cs := k631_c) (gx := []) (f := 200000) rfl (ckHc (k569_ok l) (ckHc (k25_ok l) (fun _ h => absurd h List.not_mem_nil))) True.intro (by decide +kernel)
-- FarMachineModel.hole
noncomputable def k632 : ckCtr := (103, ([(0, (1, 0)), (1, (0, 0)), (2, (0, 1))], [], dC43, [(5, 5), (1001, 2147483647), (0, 0), (7, 7)], [([(7, (0, 0))], [], [])], [], [], [], 0, 0), [([], [(0, 4)], [(1, .inr (0, 3, 1))], [], [], [(-6, -6), (1, 1)], [([(6, (0, 0)), (7, (1, 1))], [(6, 5)], [])], [], [], [], 0, 0)], 2, 101, 0, 0)
noncomputable def k632_a : ckAs := []
noncomputable def k632_c : List (Nat × ckCtr) := [(3, k567), (57, k25)]
theorem k632_ok (l : Launch) : ckCtrOk l ckMT ckTW ckCL k632 := mt_103 (as := k632_a) (cs := k632_c) (gx := []) (f := 200000) rfl (ckHc (k567_ok l) (ckHc (k25_ok l) (fun _ h => absurd h List.not_mem_nil))) True.intro (by decide +kernel)
-- FarMachineModel.hole
noncomputable def k633 : ckCtr := (103, ([(0, (1, 0)), (1, (0, 0)), (2, (0, 1))], [], dC43, [(6, 6), (1001, 2147483647), (0, 0), (7, 7)], [([(7, (0, 0))], [], [])], [], [], [], 0, 0), [([], [(0, 4)], [(1, .inr (0, 3, 1))], [], [], [(-6, -6), (1, 1)], [([(6, (0, 0)), (7, (1, 1))], [(6, 5)], [])], [], [], [], 0, 0)], 2, 101, 0, 0)
noncomputable def k633_a : ckAs := []
noncomputable def k633_c : List (Nat × ckCtr) := [(3, k565), (57, k25)]
theorem k633_ok (l : Launch) : ckCtrOk l ckMT ckTW ckCL k633 := mt_103 (as := k633_a) (cs := k633_c) (gx := []) (f := 200000) rfl (ckHc (k565_ok l) (ckHc (k25_ok l) (fun _ h => absurd h List.not_mem_nil))) True.intro (by decide +kernel)
-- FarMachineModel.hole
noncomputable def k634 : ckCtr := (103, ([(0, (1, 0)), (1, (0, 0)), (2, (0, 1))], [], dC105, [(7, 7), (1001, 2147483647), (0, 0)], [([(7, (0, 0))], [], [])], [], [], [], 0, 0), [([], [(0, 3)], [(1, .inr (0, 0, 1))], [], [], [(-6, -6), (1, 1)], [([(6, (0, 0)), (7, (1, 1))], [(6, 4)], [])], [], [], [], 0, 0)], 2, 101, 0, 0)
noncomputable def k634_a : ckAs := []
noncomputable def k634_c : List (Nat × ckCtr) := [(3, k563), (57, k25)]
theorem k634_ok (l : Launch) : ckCtrOk l ckMT ckTW ckCL k634 := mt_103 (as := k634_a) (cs := k634_c) (gx := []) (f := 200000) rfl (ckHc (k563_ok l) (ckHc (k25_ok l) (fun _ h => absurd h List.not_mem_nil))) True.intro (by decide +kernel)
-- FarMachineModel.hole
noncomputable def k635 : ckCtr := (103, ([(0, (1, 0)), (1, (0, 0)), (2, (0, 1))], [], dC43, [(8, 8), (1001, 2147483647), (0, 0), (7, 7)], [([(7, (0, 0))], [], [])], [], [], [], 0, 0), [([], [(0, 4)], [(1, .inr (0, 3, 1))], [], [], [(-6, -6), (1, 1)], [([(6, (0, 0)), (7, (1, 1))], [(6, 5)], [])], [], [], [], 0, 0)], 2, 101, 0, 0)
noncomputable def k635_a : ckAs := []
noncomputable def k635_c : List (Nat × ckCtr) := [(3, k561), (57, k25)]
theorem k635_ok (l : Launch) : ckCtrOk l ckMT ckTW ckCL k635 := mt_103 (as := k635_a) (cs := k635_c) (gx := []) (f := 200000) rfl (ckHc (k561_ok l) (ckHc (k25_ok l) (fun _ h => absurd h List.not_mem_nil))) True.intro (by decide +kernel)
-- FarMachineModel.hole
noncomputable def k636 : ckCtr := (103, ([(0, (1, 0)), (1, (0, 0)), (2, (0, 1))], [], dC43, [(9, 9), (1001, 2147483647), (0, 0), (7, 7)], [([(7, (0, 0))], [], [])], [], [], [], 0, 0), [([], [(0, 4)], [(1, .inr (0, 3, 1))], [], [], [(-6, -6), (1, 1)], [([(6, (0, 0)), (7, (1, 1))], [(6, 5)], [])], [], [], [], 0, 0)], 2, 101, 0, 0)
noncomputable def k636_a : ckAs := []
noncomputable def k636_c : List (Nat × ckCtr) := [(3, k559), (57, k25)]
theorem k636_ok (l : Launch) : ckCtrOk l ckMT ckTW ckCL k636 := mt_103 (as := k636_a) (cs := k636_c) (gx := []) (f := 200000) rfl (ckHc (k559_ok l) (ckHc (k25_ok l) (fun _ h => absurd h List.not_mem_nil))) True.intro (by decide +kernel)
-- FarMachineModel.hole
noncomputable def k637 : ckCtr := (103, ([(0, (1, 0)), (1, (0, 0)), (2, (0, 1))], [], dC43, [(10, 10), (1001, 2147483647), (0, 0), (7, 7)], [([(7, (0, 0))], [], [])], [], [], [], 0, 0), [([], [(0, 4)], [(1, .inr (0, 3, 1))], [], [], [(-6, -6), (1, 1)], [([(6, (0, 0)), (7, (1, 1))], [(6, 5)], [])], [], [], [], 0, 0)], 2, 101, 0, 0)
noncomputable def k637_a : ckAs := []
noncomputable def k637_c : List (Nat × ckCtr) := [(3, k557), (57, k25)]
theorem k637_ok (l : Launch) : ckCtrOk l ckMT ckTW ckCL k637 := mt_103 (as := k637_a) (cs := k637_c) (gx := []) (f := 200000) rfl (ckHc (k557_ok l) (ckHc (k25_ok l) (fun _ h => absurd h List.not_mem_nil))) True.intro (by decide +kernel)
-- FarMachineModel.hole
noncomputable def k638 : ckCtr := (103, ([(0, (1, 0)), (1, (0, 0)), (2, (0, 1))], [], dC43, [(11, 11), (1001, 2147483647), (0, 0), (7, 7)], [([(7, (0, 0))], [], [])], [], [], [], 0, 0), [([], [(0, 4)], [(1, .inr (0, 3, 1))], [], [], [(-6, -6), (1, 1)], [([(6, (0, 0)), (7, (1, 1))], [(6, 5)], [])], [], [], [], 0, 0)], 2, 101, 0, 0)
noncomputable def k638_a : ckAs := []
noncomputable def k638_c : List (Nat × ckCtr) := [(3, k555), (57, k25)]
theorem k638_ok (l : Launch) : ckCtrOk l ckMT ckTW ckCL k638 := mt_103 (as := k638_a) (cs := k638_c) (gx := []) (f := 200000) rfl (ckHc (k555_ok l) (ckHc (k25_ok l) (fun _ h => absurd h List.not_mem_nil))) True.intro (by decide +kernel)
-- FarMachineModel.hole
noncomputable def k639 : ckCtr := (103, ([(0, (1, 0)), (1, (0, 0)), (2, (0, 1))], [], dC43, [(12, 12), (1001, 2147483647), (0, 0), (7, 7)], [([(7, (0, 0))], [], [])], [], [], [], 0, 0), [([], [(0, 4)], [(1, .inr (0, 3, 1))], [], [], [(-6, -6), (1, 1)], [([(6, (0, 0)), (7, (1, 1))], [(6, 5)], [])], [], [], [], 0, 0)], 2, 101, 0, 0)
noncomputable def k639_a : ckAs := []
noncomputable def k639_c : List (Nat × ckCtr) := [(3, k553), (57, k25)]
theorem k639_ok (l : Launch) : ckCtrOk l ckMT ckTW ckCL k639 := mt_103 (as := k639_a) (cs := k639_c) (gx := []) (f := 200000) rfl (ckHc (k553_ok l) (ckHc (k25_ok l) (fun _ h => absurd h List.not_mem_nil))) True.intro (by decide +kernel)
-- FarMachineModel.hole
noncomputable def k640 : ckCtr := (103, ([(0, (1, 0)), (1, (0, 0)), (2, (0, 1))], [], dC43, [(13, 13), (1001, 2147483647), (0, 0), (7, 7)], [([(7, (0, 0))], [], [])], [], [], [], 0, 0), [([], [(0, 4)], [(1, .inr (0, 3, 1))], [], [], [(-6, -6), (1, 1)], [([(6, (0, 0)), (7, (1, 1))], [(6, 5)], [])], [], [], [], 0, 0)], 2, 101, 0, 0)
noncomputable def k640_a : ckAs := []
noncomputable def k640_c : List (Nat × ckCtr) := [(3, k551), (57, k25)]
theorem k640_ok (l : Launch) : ckCtrOk l ckMT ckTW ckCL k640 := mt_103 (as := k640_a) (cs := k640_c) (gx := []) (f := 200000) rfl (ckHc (k551_ok l) (ckHc (k25_ok l) (fun _ h => absurd h List.not_mem_nil))) True.intro (by decide +kernel)
-- FarMachineModel.hole
noncomputable def k641 : ckCtr := (103, ([(0, (1, 0)), (1, (0, 0)), (2, (0, 1))], [], dC43, [(14, 14), (1001, 2147483647), (0, 0), (7, 7)], [([(7, (0, 0))], [], [])], [], [], [], 0, 0), [([], [(0, 4)], [(1, .inr (0, 3, 1))], [], [], [(-6, -6), (1, 1)], [([(6, (0, 0)), (7, (1, 1))], [(6, 5)], [])], [], [], [], 0, 0)], 2, 101, 0, 0)
noncomputable def k641_a : ckAs := []
noncomputable def k641_c : List (Nat × ckCtr) := [(3, k549), (57, k25)]
theorem k641_ok (l : Launch) : ckCtrOk l ckMT ckTW ckCL k641 := mt_103 (as := k641_a) (cs := k641_c) (gx := []) (f := 200000) rfl (ckHc (k549_ok l) (ckHc (k25_ok l) (fun _ h => absurd h List.not_mem_nil))) True.intro (by decide +kernel)
-- FarMachineModel.hole
noncomputable def k642 : ckCtr := (103, ([(0, (1, 0)), (1, (0, 0)), (2, (0, 1))], [], dC43, [(15, 15), (1001, 2147483647), (0, 0), (7, 7)], [([(7, (0, 0))], [], [])], [], [], [], 0, 0), [([], [(0, 4)], [(1, .inr (0, 3, 1))], [], [], [(-6, -6), (1, 1)], [([(6, (0, 0)), (7, (1, 1))], [(6, 5)], [])], [], [], [], 0, 0)], 2, 101, 0, 0)
noncomputable def k642_a : ckAs := []
noncomputable def k642_c : List (Nat × ckCtr) := [(3, k547), (57, k25)]
theorem k642_ok (l : Launch) : ckCtrOk l ckMT ckTW ckCL k642 := mt_103 (as := k642_a) (cs := k642_c) (gx := []) (f := 200000) rfl (ckHc (k547_ok l) (ckHc (k25_ok l) (fun _ h => absurd h List.not_mem_nil))) True.intro (by decide +kernel)
-- FarMachineModel.hole
noncomputable def k643 : ckCtr := (103, ([(0, (1, 0)), (1, (0, 0)), (2, (0, 1))], [], dC43, [(16, 16), (1001, 2147483647), (0, 0), (7, 7)], [([(7, (0, 0))], [], [])], [], [], [], 0, 0), [([], [(0, 4)], [(1, .inr (0, 3, 1))], [], [], [(-6, -6), (1, 1)], [([(6, (0, 0)), (7, (1, 1))], [(6, 5)], [])], [], [], [], 0, 0)], 2, 101, 0, 0)
noncomputable def k643_a : ckAs := []
noncomputable def k643_c : List (Nat × ckCtr) := [(3, k545), (57, k25)]
theorem k643_ok (l : Launch) : ckCtrOk l ckMT ckTW ckCL k643 := mt_103 (as := k643_a) (cs := k643_c) (gx := []) (f := 200000) rfl (ckHc (k545_ok l) (ckHc (k25_ok l) (fun _ h => absurd h List.not_mem_nil))) True.intro (by decide +kernel)
-- FarMachineModel.hole
noncomputable def k644 : ckCtr := (103, ([(0, (1, 0)), (1, (0, 0)), (2, (0, 1))], [], dC43, [(17, 17), (1001, 2147483647), (0, 0), (7, 7)], [([(7, (0, 0))], [], [])], [], [], [], 0, 0), [([], [(0, 4)], [(1, .inr (0, 3, 1))], [], [], [(-6, -6), (1, 1)], [([(6, (0, 0)), (7, (1, 1))], [(6, 5)], [])], [], [], [], 0, 0)], 2, 101, 0, 0)
noncomputable def k644_a : ckAs := []
noncomputable def k644_c : List (Nat × ckCtr) := [(3, k543), (57, k25)]
theorem k644_ok (l : Launch) : ckCtrOk l ckMT ckTW ckCL k644 := mt_103 (as := k644_a) (cs := k644_c) (gx := []) (f := 200000) rfl (ckHc (k543_ok l) (ckHc (k25_ok l) (fun _ h => absurd h List.not_mem_nil))) True.intro (by decide +kernel)
-- FarMachineModel.hole
noncomputable def k645 : ckCtr := (103, ([(0, (1, 0)), (1, (0, 0)), (2, (0, 1))], [], dC43, [(18, 18), (1001, 2147483647), (0, 0), (7, 7)], [([(7, (0, 0))], [], [])], [], [], [], 0, 0), [([], [(0, 4)], [(1, .inr (0, 3, 1))], [], [], [(-6, -6), (1, 1)], [([(6, (0, 0)), (7, (1, 1))], [(6, 5)], [])], [], [], [], 0, 0)], 2, 101, 0, 0)
noncomputable def k645_a : ckAs := []
noncomputable def k645_c : List (Nat × ckCtr) := [(3, k541), (57, k25)]
theorem k645_ok (l : Launch) : ckCtrOk l ckMT ckTW ckCL k645 := mt_103 (as := k645_a) (cs := k645_c) (gx := []) (f := 200000) rfl (ckHc (k541_ok l) (ckHc (k25_ok l) (fun _ h => absurd h List.not_mem_nil))) True.intro (by decide +kernel)
-- FarMachineModel.hole
noncomputable def k646 : ckCtr := (103, ([(0, (1, 0)), (1, (0, 0)), (2, (0, 1))], [], dC43, [(19, 19), (1001, 2147483647), (0, 0), (7, 7)], [([(7, (0, 0))], [], [])], [], [], [], 0, 0), [([], [(0, 4)], [(1, .inr (0, 3, 1))], [], [], [(-6, -6), (1, 1)], [([(6, (0, 0)), (7, (1, 1))], [(6, 5)], [])], [], [], [], 0, 0)], 2, 101, 0, 0)
noncomputable def k646_a : ckAs := []
noncomputable def k646_c : List (Nat × ckCtr) := [(3, k539), (57, k25)]
theorem k646_ok (l : Launch) : ckCtrOk l ckMT ckTW ckCL k646 := mt_103 (as := k646_a) (cs := k646_c) (gx := []) (f := 200000) rfl (ckHc (k539_ok l) (ckHc (k25_ok l) (fun _ h => absurd h List.not_mem_nil))) True.intro (by decide +kernel)
-- FarMachineModel.hole
noncomputable def k647 : ckCtr := (103, ([(0, (1, 0)), (1, (0, 0)), (2, (0, 1))], [], dC43, [(20, 20), (1001, 2147483647), (0, 0), (7, 7)], [([(7, (0, 0))], [], [])], [], [], [], 0, 0), [([], [(0, 4)], [(1, .inr (0, 3, 1))], [], [], [(-6, -6), (1, 1)], [([(6, (0, 0)), (7, (1, 1))], [(6, 5)], [])], [], [], [], 0, 0)], 2, 101, 0, 0)
noncomputable def k647_a : ckAs := []
noncomputable def k647_c : List (Nat × ckCtr) := [(3, k537), (57, k25)]
theorem k647_ok (l : Launch) : ckCtrOk l ckMT ckTW ckCL k647 := mt_103 (as := k647_a) (cs := k647_c) (gx := []) (f := 200000) rfl (ckHc (k537_ok l) (ckHc (k25_ok l) (fun _ h => absurd h List.not_mem_nil))) True.intro (by decide +kernel)
-- FarMachineModel.hole
noncomputable def k648 : ckCtr := (103, ([(0, (1, 0)), (1, (0, 0)), (2, (0, 1))], [], dC43, [(21, 21), (1001, 2147483647), (0, 0), (7, 7)], [([(7, (0, 0))], [], [])], [], [], [], 0, 0), [([], [(0, 4)], [(1, .inr (0, 3, 1))], [], [], [(-6, -6), (1, 1)], [([(6, (0, 0)), (7, (1, 1))], [(6, 5)], [])], [], [], [], 0, 0)], 2, 101, 0, 0)
noncomputable def k648_a : ckAs := []
noncomputable def k648_c : List (Nat × ckCtr) := [(3, k535), (57, k25)]
theorem k648_ok (l : Launch) : ckCtrOk l ckMT ckTW ckCL k648 := mt_103 (as := k648_a) (cs := k648_c) (gx := []) (f := 200000) rfl (ckHc (k535_ok l) (ckHc (k25_ok l) (fun _ h => absurd h List.not_mem_nil))) True.intro (by decide +kernel)
-- FarMachineModel.hole
noncomputable def k649 : ckCtr := (103, ([(0, (1, 0)), (1, (0, 0)), (2, (0, 1))], [], dC43, [(22, 22), (1001, 2147483647), (0, 0), (7, 7)], [([(7, (0, 0))], [], [])], [], [], [], 0, 0), [([], [(0, 4)], [(1, .inr (0, 3, 1))], [], [], [(-6, -6), (1, 1)], [([(6, (0, 0)), (7, (1, 1))], [(6, 5)], [])], [], [], [], 0, 0)], 2, 101, 0, 0)
noncomputable def k649_a : ckAs := []
noncomputable def k649_c : List (Nat × ckCtr) := [(3, k533), (57, k25)]
theorem k649_ok (l : Launch) : ckCtrOk l ckMT ckTW ckCL k649 := mt_103 (as := k649_a) (cs := k649_c) (gx := []) (f := 200000) rfl (ckHc (k533_ok l) (ckHc (k25_ok l) (fun _ h => absurd h List.not_mem_nil))) True.intro (by decide +kernel)
-- FarMachineModel.hole
noncomputable def k650 : ckCtr := (103, ([(0, (1, 0)), (1, (0, 0)), (2, (0, 1))], [], dC43, [(23, 23), (1001, 2147483647), (0, 0), (7, 7)], [([(7, (0, 0))], [], [])], [], [], [], 0, 0), [([], [(0, 4)], [(1, .inr (0, 3, 1))], [], [], [(-6, -6), (1, 1)], [([(6, (0, 0)), (7, (1, 1))], [(6, 5)], [])], [], [], [], 0, 0)], 2, 101, 0, 0)
noncomputable def k650_a : ckAs := []
noncomputable def k650_c : List (Nat × ckCtr) := [(3, k531), (57, k25)]
theorem k650_ok (l : Launch) : ckCtrOk l ckMT ckTW ckCL k650 := mt_103 (as := k650_a) (cs := k650_c) (gx := []) (f := 200000) rfl (ckHc (k531_ok l) (ckHc (k25_ok l) (fun _ h => absurd h List.not_mem_nil))) True.intro (by decide +kernel)
-- FarMachineModel.hole
noncomputable def k651 : ckCtr := (103, ([(0, (1, 0)), (1, (0, 0)), (2, (0, 1))], [], dC43, [(24, 24), (1001, 2147483647), (0, 0), (7, 7)], [([(7, (0, 0))], [], [])], [], [], [], 0, 0), [([], [(0, 4)], [(1, .inr (0, 3, 1))], [], [], [(-6, -6), (1, 1)], [([(6, (0, 0)), (7, (1, 1))], [(6, 5)], [])], [], [], [], 0, 0)], 2, 101, 0, 0)
noncomputable def k651_a : ckAs := []
noncomputable def k651_c : List (Nat × ckCtr) := [(3, k529), (57, k25)]
theorem k651_ok (l : Launch) : ckCtrOk l ckMT ckTW ckCL k651 := mt_103 (as := k651_a) (cs := k651_c) (gx := []) (f := 200000) rfl (ckHc (k529_ok l) (ckHc (k25_ok l) (fun _ h => absurd h List.not_mem_nil))) True.intro (by decide +kernel)
-- FarMachineModel.hole
noncomputable def k652 : ckCtr := (103, ([(0, (1, 0)), (1, (0, 0)), (2, (0, 1))], [], dC43, [(25, 25), (1001, 2147483647), (0, 0), (7, 7)], [([(7, (0, 0))], [], [])], [], [], [], 0, 0), [([], [(0, 4)], [(1, .inr (0, 3, 1))], [], [], [(-6, -6), (1, 1)], [([(6, (0, 0)), (7, (1, 1))], [(6, 5)], [])], [], [], [], 0, 0)], 2, 101, 0, 0)
noncomputable def k652_a : ckAs := []
noncomputable def k652_c : List (Nat × ckCtr) := [(3, k527), (57, k25)]
theorem k652_ok (l : Launch) : ckCtrOk l ckMT ckTW ckCL k652 := mt_103 (as := k652_a) (cs := k652_c) (gx := []) (f := 200000) rfl (ckHc (k527_ok l) (ckHc (k25_ok l) (fun _ h => absurd h List.not_mem_nil))) True.intro (by decide +kernel)
-- FarMachineModel.hole
noncomputable def k653 : ckCtr := (103, ([(0, (1, 0)), (1, (0, 0)), (2, (0, 1))], [], dC43, [(26, 26), (1001, 2147483647), (0, 0), (7, 7)], [([(7, (0, 0))], [], [])], [], [], [], 0, 0), [([], [(0, 4)], [(1, .inr (0, 3, 1))], [], [], [(-6, -6), (1, 1)], [([(6, (0, 0)), (7, (1, 1))], [(6, 5)], [])], [], [], [], 0, 0)], 2, 101, 0, 0)
noncomputable def k653_a : ckAs := []
noncomputable def k653_c : List (Nat × ckCtr) := [(3, k525), (57, k25)]
theorem k653_ok (l : Launch) : ckCtrOk l ckMT ckTW ckCL k653 := mt_103 (as := k653_a) (cs := k653_c) (gx := []) (f := 200000) rfl (ckHc (k525_ok l) (ckHc (k25_ok l) (fun _ h => absurd h List.not_mem_nil))) True.intro (by decide +kernel)
-- FarMachineModel.hole
noncomputable def k654 : ckCtr := (103, ([(0, (1, 0)), (1, (0, 0)), (2, (0, 1))], [], dC43, [(27, 27), (1001, 2147483647), (0, 0), (7, 7)], [([(7, (0, 0))], [], [])], [], [], [], 0, 0), [([], [(0, 4)], [(1, .inr (0, 3, 1))], [], [], [(-6, -6), (1, 1)], [([(6, (0, 0)), (7, (1, 1))], [(6, 5)], [])], [], [], [], 0, 0)], 2, 101, 0, 0)
noncomputable def k654_a : ckAs := []
noncomputable def k654_c : List (Nat × ckCtr) := [(3, k523), (57, k25)]
theorem k654_ok (l : Launch) : ckCtrOk l ckMT ckTW ckCL k654 := mt_103 (as := k654_a) (cs := k654_c) (gx := []) (f := 200000) rfl (ckHc (k523_ok l) (ckHc (k25_ok l) (fun _ h => absurd h List.not_mem_nil))) True.intro (by decide +kernel)
-- FarMachineModel.hole
noncomputable def k655 : ckCtr := (103, ([(0, (1, 0)), (1, (0, 0)), (2, (0, 1))], [], dC43, [(28, 28), (1001, 2147483647), (0, 0), (7, 7)], [([(7, (0, 0))], [], [])], [], [], [], 0, 0), [([], [(0, 4)], [(1, .inr (0, 3, 1))], [], [], [(-6, -6), (1, 1)], [([(6, (0, 0)), (7, (1, 1))], [(6, 5)], [])], [], [], [], 0, 0)], 2, 101, 0, 0)
noncomputable def k655_a : ckAs := []
noncomputable def k655_c : List (Nat × ckCtr) := [(3, k521), (57, k25)]
theorem k655_ok (l : Launch) : ckCtrOk l ckMT ckTW ckCL k655 := mt_103 (as := k655_a) (cs := k655_c) (gx := []) (f := 200000) rfl (ckHc (k521_ok l) (ckHc (k25_ok l) (fun _ h => absurd h List.not_mem_nil))) True.intro (by decide +kernel)
-- FarMachineModel.hole
noncomputable def k656 : ckCtr := (103, ([(0, (1, 0)), (1, (0, 0)), (2, (0, 1))], [], dC43, [(29, 29), (1001, 2147483647), (0, 0), (7, 7)], [([(7, (0, 0))], [], [])], [], [], [], 0, 0), [([], [(0, 4)], [(1, .inr (0, 3, 1))], [], [], [(-6, -6), (1, 1)], [([(6, (0, 0)), (7, (1, 1))], [(6, 5)], [])], [], [], [], 0, 0)], 2, 101, 0, 0)
noncomputable def k656_a : ckAs := []
noncomputable def k656_c : List (Nat × ckCtr) := [(3, k519), (57, k25)]
theorem k656_ok (l : Launch) : ckCtrOk l ckMT ckTW ckCL k656 := mt_103 (as := k656_a) (cs := k656_c) (gx := []) (f := 200000) rfl (ckHc (k519_ok l) (ckHc (k25_ok l) (fun _ h => absurd h List.not_mem_nil))) True.intro (by decide +kernel)
-- FarMachineModel.hole
noncomputable def k657 : ckCtr := (103, ([(0, (1, 0)), (1, (0, 0)), (2, (0, 1))], [], dC43, [(30, 30), (1001, 2147483647), (0, 0), (7, 7)], [([(7, (0, 0))], [], [])], [], [], [], 0, 0), [([], [(0, 4)], [(1, .inr (0, 3, 1))], [], [], [(-6, -6), (1, 1)], [([(6, (0, 0)), (7, (1, 1))], [(6, 5)], [])], [], [], [], 0, 0)], 2, 101, 0, 0)
noncomputable def k657_a : ckAs := []
noncomputable def k657_c : List (Nat × ckCtr) := [(3, k517), (57, k25)]
theorem k657_ok (l : Launch) : ckCtrOk l ckMT ckTW ckCL k657 := mt_103 (as := k657_a) (cs := k657_c) (gx := []) (f := 200000) rfl (ckHc (k517_ok l) (ckHc (k25_ok l) (fun _ h => absurd h List.not_mem_nil))) True.intro (by decide +kernel)
-- FarMachineModel.hole
noncomputable def k658 : ckCtr := (103, ([(0, (1, 0)), (1, (0, 0)), (2, (0, 1))], [], dC43, [(31, 31), (1001, 2147483647), (0, 0), (7, 7)], [([(7, (0, 0))], [], [])], [], [], [], 0, 0), [([], [(0, 4)], [(1, .inr (0, 3, 1))], [], [], [(-6, -6), (1, 1)], [([(6, (0, 0)), (7, (1, 1))], [(6, 5)], [])], [], [], [], 0, 0)], 2, 101, 0, 0)
noncomputable def k658_a : ckAs := []
noncomputable def k658_c : List (Nat × ckCtr) := [(3, k515), (57, k25)]
theorem k658_ok (l : Launch) : ckCtrOk l ckMT ckTW ckCL k658 := mt_103 (as := k658_a) (cs := k658_c) (gx := []) (f := 200000) rfl (ckHc (k515_ok l) (ckHc (k25_ok l) (fun _ h => absurd h List.not_mem_nil))) True.intro (by decide +kernel)
-- FarMachineModel.hole
noncomputable def k659 : ckCtr := (103, ([(0, (1, 0)), (1, (0, 0)), (2, (0, 1))], [], dC43, [(32, 32), (1001, 2147483647), (0, 0), (7, 7)], [([(7, (0, 0))], [], [])], [], [], [], 0, 0), [([], [(0, 4)], [(1, .inr (0, 3, 1))], [], [], [(-6, -6), (1, 1)], [([(6, (0, 0)), (7, (1, 1))], [(6, 5)], [])], [], [], [], 0, 0)], 2, 101, 0, 0)
noncomputable def k659_a : ckAs := []
noncomputable def k659_c : List (Nat × ckCtr) := [(3, k513), (57, k25)]
theorem k659_ok (l : Launch) : ckCtrOk l ckMT ckTW ckCL k659 := mt_103 (as := k659_a) (cs := k659_c) (gx := []) (f := 200000) rfl (ckHc (k513_ok l) (ckHc (k25_ok l) (fun _ h => absurd h List.not_mem_nil))) True.intro (by decide +kernel)
-- FarMachineModel.hole
noncomputable def k660 : ckCtr := (103, ([(0, (1, 0)), (1, (0, 0)), (2, (0, 1))], [], dC43, [(33, 33), (1001, 2147483647), (0, 0), (7, 7)], [([(7, (0, 0))], [], [])], [], [], [], 0, 0), [([], [(0, 4)], [(1, .inr (0, 3, 1))], [], [], [(-6, -6), (1, 1)], [([(6, (0, 0)), (7, (1, 1))], [(6, 5)], [])], [], [], [], 0, 0)], 2, 101, 0, 0)
noncomputable def k660_a : ckAs := []
noncomputable def k660_c : List (Nat × ckCtr) := [(3, k511), (57, k25)]
theorem k660_ok (l : Launch) : ckCtrOk l ckMT ckTW ckCL k660 := mt_103 (as := k660_a) (cs := k660_c) (gx := []) (f := 200000) rfl (ckHc (k511_ok l) (ckHc (k25_ok l) (fun _ h => absurd h List.not_mem_nil))) True.intro (by decide +kernel)
