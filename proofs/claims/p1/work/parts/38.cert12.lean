/-! THE CHECKER: contracts with their certificates (printed by wip/gen/p1gen.py) -/
noncomputable def dC444 : List ckC := [.inl (9, [(4, 10), (1, 1), (4, 11), (1, 2), (4, 12), (4, 13), (4, 14), (4, 15), (4, 16), (4, 17), (4, 18), (4, 19), (4, 20), (4, 21), (4, 22), (4, 23), (0, 0), (0, 0), (0, 0), (0, 0), (0, 0), (0, 0), (0, 0), (4, 24), (0, 0), (4, 25), (0, 0), (0, 0), (0, 0), (0, 0), (4, 26), (0, 0), (0, 0), (0, 0), (0, 0), (4, 26), (1, 1), (0, 0), (4, 27), (4, 28), (0, 0), (0, 0)]), .inr (0, 1, 0), .inr (0, 1, 1)]
noncomputable def dP445 : List (Nat × ckC) := [(0, .inl (9, [(4, 10), (1, 1), (4, 11), (1, 2), (4, 12), (4, 13), (4, 14), (4, 15), (4, 16), (4, 17), (4, 18), (4, 19), (4, 20), (4, 21), (4, 22), (4, 23), (0, 0), (0, 2), (0, 0), (0, 0), (0, 0), (0, 0), (0, 0), (4, 24), (0, 0), (4, 25), (0, 0), (0, 0), (0, 0), (0, 0), (4, 26), (0, 0), (0, 0), (0, 0), (0, 0), (4, 26), (1, 1), (0, 0), (4, 27), (4, 28), (0, 0), (0, 0)])), (2, .inr (0, 1, 2))]
-- FarMachineModel.image
noncomputable def k927 : ckCtr := (109, ([(0, (1, 0))], [], dC444, [(0, 0), (318, 318)], dG238, [], [], [], 0, 0), [([], [(0, 0)], dP445, [], [], [(1, 1)], [([(1, (0, 200)), (318, (0, 200))], [], [])], [], [], [], 0, 0)], 2, 102, 0, 0)
noncomputable def k927_a : ckAs := []
noncomputable def k927_c : List (Nat × ckCtr) := [(8, k285)]
theorem k927_ok (l : Launch) : ckCtrOk l ckMT ckTW ckCL k927 := mt_109 (as := k927_a) (cs := k927_c) (gx := []) (f := 200000) rfl (ckHc (k285_ok l) (fun _ h => absurd h List.not_mem_nil)) True.intro (by decide +kernel)
noncomputable def dC446 : List ckC := [.inl (8, [(4, 10), (4, 11), (0, 0), (4, 12), (4, 13), (4, 14), (4, 15), (1, 1)]), .inr (0, 1, 0)]
-- FarMachine.on
noncomputable def k928 : ckCtr := (32, ([(0, (1, 0))], [], dC446, [(0, 0), (7, 7)], [([(7, (0, 0))], [], [])], [], [], [], 0, 0), [([], [(0, 2)], [(1, .inr (0, 1, 1))], [], [], [(-3, -3), (1, 1)], [([(3, (0, 0)), (4, (1, 1)), (7, (0, 0))], [(3, 3)], [])], [], [], [], 0, 0)], 2, 101, 0, 0)
noncomputable def k928_a : ckAs := []
noncomputable def k928_c : List (Nat × ckCtr) := [(10, k312)]
theorem k928_ok (l : Launch) : ckCtrOk l ckMT ckTW ckCL k928 := mt_32 (as := k928_a) (cs := k928_c) (gx := []) (f := 200000) rfl (ckHc (k312_ok l) (fun _ h => absurd h List.not_mem_nil)) True.intro (by decide +kernel)
noncomputable def dC447 : List ckC := [.inl (9, [(1, 1), (4, 10), (4, 11), (4, 12), (4, 13), (4, 14), (4, 15), (4, 16), (4, 17), (4, 18), (4, 19), (4, 20), (4, 21), (4, 22), (4, 23), (4, 24), (0, 0), (0, 0), (0, 0), (0, 0), (0, 0), (0, 0), (0, 0), (4, 25), (0, 0), (4, 26), (0, 0), (0, 0), (0, 0), (0, 0), (4, 27), (0, 0), (0, 0), (0, 0), (0, 0), (4, 27), (4, 10), (0, 0), (4, 28), (4, 29), (0, 0), (0, 0)]), .inr (0, 1, 0)]
-- FarMachineModel.on
noncomputable def k929 : ckCtr := (110, ([(0, (1, 0))], [], dC447, [(0, 0), (7, 7)], [([(7, (0, 0))], [], [])], [], [], [], 0, 0), [([], [(0, 2)], [(1, .inr (0, 1, 1))], [], [], [(-3, -3), (1, 1)], [([(3, (0, 0)), (4, (1, 1)), (7, (0, 0))], [(3, 3)], [])], [], [], [], 0, 0)], 2, 101, 0, 0)
noncomputable def k929_a : ckAs := []
noncomputable def k929_c : List (Nat × ckCtr) := [(10, k316)]
theorem k929_ok (l : Launch) : ckCtrOk l ckMT ckTW ckCL k929 := mt_110 (as := k929_a) (cs := k929_c) (gx := []) (f := 200000) rfl (ckHc (k316_ok l) (fun _ h => absurd h List.not_mem_nil)) True.intro (by decide +kernel)
noncomputable def dC448 : List ckC := [.inl (8, [(1, 1), (4, 10), (0, 1), (1, 2), (1, 3), (4, 11), (4, 12), (1, 4)]), .inl (7, [(1, 5), (4, 13), (0, 1), (4, 14), (4, 15), (1, 6), (4, 16), (1, 7), (1, 8), (1, 9)]), .inl (0, [(4, 17), (0, 1)]), .inl (0, [(4, 18), (0, 1)]), .inr (0, 2, 0), .inl (2, [(4, 19), (4, 20), (1, 10), (0, 1), (0, 1), (0, 1), (0, 3), (0, 4), (0, 1), (0, 1), (0, 5), (0, 6), (0, 7), (0, 8), (0, 1), (0, 1)]), .inl (0, [(4, 21), (0, 1)]), .inl (5, [(4, 22), (4, 23), (4, 24), (4, 25), (4, 26), (0, 1)]), .inl (1, [(4, 27), (4, 28), (4, 29), (4, 30), (0, 1)]), .inl (0, [(4, 31), (0, 1)]), .inl (1, [(4, 32), (4, 33), (4, 34), (4, 35), (0, 1)])]
-- FarMachine.count
noncomputable def k930 : ckCtr := (33, ([(0, (1, 0)), (1, (0, 0))], [], dC448, dT398, [([(7, (0, 0))], [], [])], [], [], [], 0, 0), [([], [(0, 1)], [], [], [(0, (11, 16))], [], [], [], [], [], 0, 0), ([], [(0, 9)], [], [], [(0, (17, 2147483647))], [(-9, -9)], [], [], [], [], 0, 0), ([], [(0, 9)], [], [], [(0, (-2147483648, -1))], [(-9, -9)], [], [], [], [], 0, 0), ([], [(0, 9)], [], [], [(0, (8, 10))], [(-9, -9)], [], [], [], [], 0, 0), ([], [(0, 1)], [], [], [(0, (0, 0))], [], [], [], [], [], 0, 0), ([], [(0, 1)], [], [], [(0, (1, 1))], [], [], [], [], [], 0, 0), ([], [(0, 1)], [], [], [(0, (2, 2))], [], [], [], [], [], 0, 0), ([], [(0, 1)], [], [], [(0, (3, 3))], [], [], [], [], [], 0, 0), ([], [(0, 1)], [], [], [(0, (4, 4))], [], [], [], [], [], 0, 0), ([], [(0, 1)], [], [], [(0, (5, 5))], [], [], [], [], [], 0, 0), ([], [(0, 1)], [], [], [(0, (6, 6))], [], [], [], [], [], 0, 0), ([], [(0, 1)], [], [], [(0, (7, 7))], [], [], [], [], [], 0, 0)], 1, 80, 0, 0)
noncomputable def k930_a : ckAs := []
noncomputable def k930_c : List (Nat × ckCtr) := []
theorem k930_ok (l : Launch) : ckCtrOk l ckMT ckTW ckCL k930 := mt_33 (as := k930_a) (cs := k930_c) (gx := []) (f := 200000) rfl (fun _ h => absurd h List.not_mem_nil) True.intro (by decide +kernel)
-- FarMachineModel.count
noncomputable def k931 : ckCtr := (111, ([(0, (1, 0)), (1, (0, 0))], [], dC111, [(0, 0), (318, 318)], dG40, [], [], [], 0, 0), [([], [(0, 0)], [], [], [], [], [], [], [], [], 0, 0)], 1, 80, 0, 0)
noncomputable def k931_a : ckAs := []
noncomputable def k931_c : List (Nat × ckCtr) := []
theorem k931_ok (l : Launch) : ckCtrOk l ckMT ckTW ckCL k931 := mt_111 (as := k931_a) (cs := k931_c) (gx := []) (f := 200000) rfl (fun _ h => absurd h List.not_mem_nil) True.intro (by decide +kernel)
-- FarMachineModel.count
noncomputable def k932 : ckCtr := (111, ([(0, (1, 0)), (1, (0, 0))], [], dC46, [(1, 1), (0, 0), (318, 318)], dG40, [], [], [], 0, 0), [([], [(0, 1)], [], [], [], [], [], [], [], [], 0, 0)], 1, 80, 0, 0)
noncomputable def k932_a : ckAs := []
noncomputable def k932_c : List (Nat × ckCtr) := []
theorem k932_ok (l : Launch) : ckCtrOk l ckMT ckTW ckCL k932 := mt_111 (as := k932_a) (cs := k932_c) (gx := []) (f := 200000) rfl (fun _ h => absurd h List.not_mem_nil) True.intro (by decide +kernel)
-- FarMachineModel.count
noncomputable def k933 : ckCtr := (111, ([(0, (1, 0)), (1, (0, 0))], [], dC306, [(2, 2), (0, 0)], [], [], [], [], 0, 0), [([], [(0, 1)], [], [], [], [], [], [], [], [], 0, 0)], 1, 80, 0, 0)
noncomputable def k933_a : ckAs := []
noncomputable def k933_c : List (Nat × ckCtr) := []
theorem k933_ok (l : Launch) : ckCtrOk l ckMT ckTW ckCL k933 := mt_111 (as := k933_a) (cs := k933_c) (gx := []) (f := 200000) rfl (fun _ h => absurd h List.not_mem_nil) True.intro (by decide +kernel)
-- FarMachineModel.count
noncomputable def k934 : ckCtr := (111, ([(0, (1, 0)), (1, (0, 0))], [], dC306, [(3, 3), (0, 0)], [], [], [], [], 0, 0), [([], [(0, 1)], [], [], [], [], [], [], [], [], 0, 0)], 1, 80, 0, 0)
noncomputable def k934_a : ckAs := []
noncomputable def k934_c : List (Nat × ckCtr) := []
theorem k934_ok (l : Launch) : ckCtrOk l ckMT ckTW ckCL k934 := mt_111 (as := k934_a) (cs := k934_c) (gx := []) (f := 200000) rfl (fun _ h => absurd h List.not_mem_nil) True.intro (by decide +kernel)
-- FarMachineModel.count
noncomputable def k935 : ckCtr := (111, ([(0, (1, 0)), (1, (0, 0))], [], dC306, [(4, 4), (0, 0)], [], [], [], [], 0, 0), [([], [(0, 1)], [], [], [], [], [], [], [], [], 0, 0)], 1, 80, 0, 0)
noncomputable def k935_a : ckAs := []
noncomputable def k935_c : List (Nat × ckCtr) := []
theorem k935_ok (l : Launch) : ckCtrOk l ckMT ckTW ckCL k935 := mt_111 (as := k935_a) (cs := k935_c) (gx := []) (f := 200000) rfl (fun _ h => absurd h List.not_mem_nil) True.intro (by decide +kernel)
-- FarMachineModel.count
noncomputable def k936 : ckCtr := (111, ([(0, (1, 0)), (1, (0, 0))], [], dC306, [(5, 5), (0, 0)], [], [], [], [], 0, 0), [([], [(0, 1)], [], [], [], [], [], [], [], [], 0, 0)], 1, 80, 0, 0)
noncomputable def k936_a : ckAs := []
noncomputable def k936_c : List (Nat × ckCtr) := []
theorem k936_ok (l : Launch) : ckCtrOk l ckMT ckTW ckCL k936 := mt_111 (as := k936_a) (cs := k936_c) (gx := []) (f := 200000) rfl (fun _ h => absurd h List.not_mem_nil) True.intro (by decide +kernel)
-- FarMachineModel.count
noncomputable def k937 : ckCtr := (111, ([(0, (1, 0)), (1, (0, 0))], [], dC306, [(6, 6), (0, 0)], [], [], [], [], 0, 0), [([], [(0, 1)], [], [], [], [], [], [], [], [], 0, 0)], 1, 80, 0, 0)
noncomputable def k937_a : ckAs := []
noncomputable def k937_c : List (Nat × ckCtr) := []
theorem k937_ok (l : Launch) : ckCtrOk l ckMT ckTW ckCL k937 := mt_111 (as := k937_a) (cs := k937_c) (gx := []) (f := 200000) rfl (fun _ h => absurd h List.not_mem_nil) True.intro (by decide +kernel)
-- FarMachineModel.count
noncomputable def k938 : ckCtr := (111, ([(0, (1, 0)), (1, (0, 0))], [], dC306, [(7, 7), (0, 0)], [], [], [], [], 0, 0), [([], [(0, 1)], [], [], [], [], [], [], [], [], 0, 0)], 1, 80, 0, 0)
noncomputable def k938_a : ckAs := []
noncomputable def k938_c : List (Nat × ckCtr) := []
theorem k938_ok (l : Launch) : ckCtrOk l ckMT ckTW ckCL k938 := mt_111 (as := k938_a) (cs := k938_c) (gx := []) (f := 200000) rfl (fun _ h => absurd h List.not_mem_nil) True.intro (by decide +kernel)
-- FarMachineModel.count
noncomputable def k939 : ckCtr := (111, ([(0, (1, 0)), (1, (0, 0))], [], dC306, [(8, 10), (0, 0)], [], [], [], [], 0, 0), [([], [(0, 2)], [], [], [], [(-9, -9)], [], [], [], [], 0, 0)], 1, 80, 0, 0)
noncomputable def k939_a : ckAs := []
noncomputable def k939_c : List (Nat × ckCtr) := []
theorem k939_ok (l : Launch) : ckCtrOk l ckMT ckTW ckCL k939 := mt_111 (as := k939_a) (cs := k939_c) (gx := []) (f := 200000) rfl (fun _ h => absurd h List.not_mem_nil) True.intro (by decide +kernel)
-- FarMachineModel.count
noncomputable def k940 : ckCtr := (111, ([(0, (1, 0)), (1, (0, 0))], [], dC42, [(11, 16), (0, 0), (7, 7)], [([(7, (0, 0))], [], [])], [], [], [], 0, 0), [([], [(0, 1)], [], [], [], [], [], [], [], [], 0, 0)], 1, 80, 0, 0)
noncomputable def k940_a : ckAs := []
noncomputable def k940_c : List (Nat × ckCtr) := []
theorem k940_ok (l : Launch) : ckCtrOk l ckMT ckTW ckCL k940 := mt_111 (as := k940_a) (cs := k940_c) (gx := []) (f := 200000) rfl (fun _ h => absurd h List.not_mem_nil) True.intro (by decide +kernel)
-- FarMachineModel.count
noncomputable def k941 : ckCtr := (111, ([(0, (1, 0)), (1, (0, 0))], [], dC306, [(17, 2147483647), (0, 0)], [], [], [], [], 0, 0), [([], [(0, 2)], [], [], [], [(-9, -9)], [], [], [], [], 0, 0)], 1, 80, 0, 0)
noncomputable def k941_a : ckAs := []
noncomputable def k941_c : List (Nat × ckCtr) := []
theorem k941_ok (l : Launch) : ckCtrOk l ckMT ckTW ckCL k941 := mt_111 (as := k941_a) (cs := k941_c) (gx := []) (f := 200000) rfl (fun _ h => absurd h List.not_mem_nil) True.intro (by decide +kernel)
-- FarMachineModel.count
noncomputable def k942 : ckCtr := (111, ([(0, (1, 0)), (1, (0, 0))], [], dC306, [(-2147483648, -1), (0, 0)], [], [], [], [], 0, 0), [([], [(0, 2)], [], [], [], [(-9, -9)], [], [], [], [], 0, 0)], 1, 80, 0, 0)
noncomputable def k942_a : ckAs := []
noncomputable def k942_c : List (Nat × ckCtr) := []
theorem k942_ok (l : Launch) : ckCtrOk l ckMT ckTW ckCL k942 := mt_111 (as := k942_a) (cs := k942_c) (gx := []) (f := 200000) rfl (fun _ h => absurd h List.not_mem_nil) True.intro (by decide +kernel)
