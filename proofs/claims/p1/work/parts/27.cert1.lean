/-! THE CHECKER: contracts with their certificates (printed by wip/gen/p1gen.py) -/
noncomputable def dT70 : List ckI := [(7, 7), (1, 99), (0, 0), (50, 50), (60, 60), (10, 10), (24, 24), (200, 200), (9, 9)]
noncomputable def dP71 : List (Nat × ckC) := [(0, .inl (2, [(4, 10), (4, 11), (4, 12), (0, 2), (0, 2), (0, 2), (0, 3), (0, 4), (0, 2), (0, 2), (0, 5), (0, 1), (0, 7), (0, 8), (0, 2), (0, 2)]))]
-- FarMachine$Machine.tell
noncomputable def k62 : ckCtr := (130, ([(0, (1, 0)), (1, (0, 0)), (2, (0, 1))], [], dC47, dT70, [], [], [], [], 0, 0), [([], [], dP71, [], [], [], [], [], [], [], 0, 0)], 1, 80, 0, 0)
noncomputable def k62_a : ckAs := []
noncomputable def k62_c : List (Nat × ckCtr) := []
theorem k62_ok (l : Launch) : ckCtrOk l ckMT ckTW ckCL k62 := mt_130 (as := k62_a) (cs := k62_c) (gx := []) (f := 200000) rfl (fun _ h => absurd h List.not_mem_nil) True.intro (by decide +kernel)
noncomputable def dT72 : List ckI := [(2, 2), (0, 99), (0, 0), (50, 50), (60, 60), (10, 10), (24, 24), (200, 200), (9, 9)]
noncomputable def dP73 : List (Nat × ckC) := [(0, .inl (2, [(4, 10), (4, 11), (4, 12), (0, 2), (0, 2), (0, 2), (0, 1), (0, 4), (0, 2), (0, 2), (0, 5), (0, 6), (0, 7), (0, 8), (0, 2), (0, 2)]))]
-- FarMachine$Machine.tell
noncomputable def k63 : ckCtr := (130, ([(0, (1, 0)), (1, (0, 0)), (2, (0, 1))], [], dC47, dT72, [], [], [], [], 0, 0), [([], [], dP73, [], [], [], [], [], [], [], 0, 0)], 1, 80, 0, 0)
noncomputable def k63_a : ckAs := []
noncomputable def k63_c : List (Nat × ckCtr) := []
theorem k63_ok (l : Launch) : ckCtrOk l ckMT ckTW ckCL k63 := mt_130 (as := k63_a) (cs := k63_c) (gx := []) (f := 200000) rfl (fun _ h => absurd h List.not_mem_nil) True.intro (by decide +kernel)
noncomputable def dT74 : List ckI := [(3, 3), (0, 99), (0, 0), (50, 50), (60, 60), (10, 10), (24, 24), (200, 200), (9, 9)]
noncomputable def dP75 : List (Nat × ckC) := [(0, .inl (2, [(4, 10), (4, 11), (4, 12), (0, 2), (0, 2), (0, 2), (0, 3), (0, 1), (0, 2), (0, 2), (0, 5), (0, 6), (0, 7), (0, 8), (0, 2), (0, 2)]))]
-- FarMachine$Machine.tell
noncomputable def k64 : ckCtr := (130, ([(0, (1, 0)), (1, (0, 0)), (2, (0, 1))], [], dC47, dT74, [], [], [], [], 0, 0), [([], [], dP75, [], [], [], [], [], [], [], 0, 0)], 1, 80, 0, 0)
noncomputable def k64_a : ckAs := []
noncomputable def k64_c : List (Nat × ckCtr) := []
theorem k64_ok (l : Launch) : ckCtrOk l ckMT ckTW ckCL k64 := mt_130 (as := k64_a) (cs := k64_c) (gx := []) (f := 200000) rfl (fun _ h => absurd h List.not_mem_nil) True.intro (by decide +kernel)
noncomputable def dT76 : List ckI := [(6, 6), (0, 99), (0, 0), (50, 50), (60, 60), (10, 10), (24, 24), (200, 200), (9, 9)]
noncomputable def dP77 : List (Nat × ckC) := [(0, .inl (2, [(4, 10), (4, 11), (4, 12), (0, 2), (0, 2), (0, 2), (0, 3), (0, 4), (0, 2), (0, 2), (0, 1), (0, 6), (0, 7), (0, 8), (0, 2), (0, 2)]))]
-- FarMachine$Machine.tell
noncomputable def k65 : ckCtr := (130, ([(0, (1, 0)), (1, (0, 0)), (2, (0, 1))], [], dC47, dT76, [], [], [], [], 0, 0), [([], [], dP77, [], [], [], [], [], [], [], 0, 0)], 1, 80, 0, 0)
noncomputable def k65_a : ckAs := []
noncomputable def k65_c : List (Nat × ckCtr) := []
theorem k65_ok (l : Launch) : ckCtrOk l ckMT ckTW ckCL k65 := mt_130 (as := k65_a) (cs := k65_c) (gx := []) (f := 200000) rfl (fun _ h => absurd h List.not_mem_nil) True.intro (by decide +kernel)
noncomputable def dT78 : List ckI := [(1, 1), (-128, 127), (0, 0), (50, 50), (60, 60), (10, 10), (24, 24), (200, 200), (9, 9)]
noncomputable def dP79 : List (Nat × ckC) := [(0, .inl (2, [(4, 10), (4, 11), (4, 12), (0, 2), (0, 2), (0, 1), (0, 3), (0, 4), (0, 2), (0, 2), (0, 5), (0, 6), (0, 7), (0, 8), (0, 2), (0, 2)]))]
-- FarMachine$Machine.tell
noncomputable def k66 : ckCtr := (130, ([(0, (1, 0)), (1, (0, 0)), (2, (0, 1))], [], dC47, dT78, [], [], [], [], 0, 0), [([], [], dP79, [], [], [], [], [], [], [], 0, 0)], 1, 80, 0, 0)
noncomputable def k66_a : ckAs := []
noncomputable def k66_c : List (Nat × ckCtr) := []
theorem k66_ok (l : Launch) : ckCtrOk l ckMT ckTW ckCL k66 := mt_130 (as := k66_a) (cs := k66_c) (gx := []) (f := 200000) rfl (fun _ h => absurd h List.not_mem_nil) True.intro (by decide +kernel)
noncomputable def dT80 : List ckI := [(8, 8), (1, 999), (0, 0), (50, 50), (60, 60), (10, 10), (24, 24), (200, 200), (9, 9)]
noncomputable def dP81 : List (Nat × ckC) := [(0, .inl (2, [(4, 10), (4, 11), (4, 12), (0, 2), (0, 2), (0, 2), (0, 3), (0, 4), (0, 2), (0, 2), (0, 5), (0, 6), (0, 1), (0, 8), (0, 2), (0, 2)]))]
-- FarMachine$Machine.tell
noncomputable def k67 : ckCtr := (130, ([(0, (1, 0)), (1, (0, 0)), (2, (0, 1))], [], dC47, dT80, [], [], [], [], 0, 0), [([], [], dP81, [], [], [], [], [], [], [], 0, 0)], 1, 80, 0, 0)
noncomputable def k67_a : ckAs := []
noncomputable def k67_c : List (Nat × ckCtr) := []
theorem k67_ok (l : Launch) : ckCtrOk l ckMT ckTW ckCL k67 := mt_130 (as := k67_a) (cs := k67_c) (gx := []) (f := 200000) rfl (fun _ h => absurd h List.not_mem_nil) True.intro (by decide +kernel)
noncomputable def dC82 : List ckC := [.inl (8, [(1, 1), (4, 10), (0, 2), (4, 11), (4, 12), (4, 13), (4, 14), (1, 2)]), .inl (7, [(1, 3), (4, 15), (0, 2), (4, 16), (4, 17), (4, 18), (4, 19), (4, 20), (4, 21), (4, 22)]), .inr (0, 3, 0), .inl (2, [(4, 23), (4, 24), (4, 25), (0, 2), (0, 2), (0, 2), (0, 4), (0, 5), (0, 2), (0, 2), (0, 6), (0, 7), (0, 8), (0, 9), (0, 2), (0, 2)])]
noncomputable def dT83 : List ckI := [ckTop, ckTop, (0, 0), (7, 7), (50, 50), (60, 60), (10, 10), (24, 24), (200, 200), (9, 9)]
noncomputable def dP84 : List (Nat × ckC) := [(3, .inl (2, [(4, 23), (4, 24), (4, 25), (0, 0), (0, 1), (0, 0), (0, 4), (0, 5), (0, 0), (0, 0), (0, 6), (0, 7), (0, 8), (0, 9), (0, 0), (0, 0)]))]
noncomputable def dP85 : List (Nat × ckC) := [(3, .inl (2, [(4, 23), (4, 24), (4, 25), (0, 2), (0, 2), (0, 1), (0, 4), (0, 5), (0, 2), (0, 2), (0, 6), (0, 7), (0, 8), (0, 9), (0, 2), (0, 2)]))]
noncomputable def dP86 : List (Nat × ckC) := [(3, .inl (2, [(4, 23), (4, 24), (4, 25), (0, 2), (0, 2), (0, 2), (0, 1), (0, 5), (0, 2), (0, 2), (0, 6), (0, 7), (0, 8), (0, 9), (0, 2), (0, 2)]))]
noncomputable def dP87 : List (Nat × ckC) := [(3, .inl (2, [(4, 23), (4, 24), (4, 25), (0, 2), (0, 2), (0, 2), (0, 4), (0, 1), (0, 2), (0, 2), (0, 6), (0, 7), (0, 8), (0, 9), (0, 2), (0, 2)]))]
noncomputable def dP88 : List (Nat × ckC) := [(3, .inl (2, [(4, 23), (4, 24), (4, 25), (0, 2), (0, 2), (0, 2), (0, 4), (0, 5), (0, 1), (0, 2), (0, 6), (0, 7), (0, 8), (0, 9), (0, 2), (0, 2)]))]
noncomputable def dP89 : List (Nat × ckC) := [(3, .inl (2, [(4, 23), (4, 24), (4, 25), (0, 2), (0, 2), (0, 2), (0, 4), (0, 5), (0, 2), (0, 1), (0, 6), (0, 7), (0, 8), (0, 9), (0, 2), (0, 2)]))]
noncomputable def dP90 : List (Nat × ckC) := [(3, .inl (2, [(4, 23), (4, 24), (4, 25), (0, 2), (0, 2), (0, 2), (0, 4), (0, 5), (0, 2), (0, 2), (0, 1), (0, 7), (0, 8), (0, 9), (0, 2), (0, 2)]))]
noncomputable def dP91 : List (Nat × ckC) := [(3, .inl (2, [(4, 23), (4, 24), (4, 25), (0, 2), (0, 2), (0, 2), (0, 4), (0, 5), (0, 2), (0, 2), (0, 6), (0, 1), (0, 8), (0, 9), (0, 2), (0, 2)]))]
noncomputable def dP92 : List (Nat × ckC) := [(3, .inl (2, [(4, 23), (4, 24), (4, 25), (0, 2), (0, 2), (0, 2), (0, 4), (0, 5), (0, 2), (0, 2), (0, 6), (0, 7), (0, 1), (0, 9), (0, 2), (0, 2)]))]
noncomputable def dP93 : List (Nat × ckC) := [(3, .inl (2, [(4, 23), (4, 24), (4, 25), (0, 2), (0, 2), (0, 2), (0, 4), (0, 5), (0, 2), (0, 2), (0, 6), (0, 7), (0, 8), (0, 1), (0, 2), (0, 2)]))]
-- FarMachine.set
noncomputable def k68 : ckCtr := (4, ([(0, (1, 0)), (1, (0, 0)), (2, (0, 1))], [], dC82, dT83, [([(7, (0, 0))], [], [])], [], [], [], 0, 0), [([], [(0, 10)], [(2, .inr (0, 3, 1))], [], [(0, (-2147483648, -1))], [(-2, -2), (1, 1)], [([(2, (0, 0)), (3, (1, 1)), (7, (0, 0))], [(2, 11)], [])], [], [], [], 0, 0), ([], [(0, 10)], [(2, .inr (0, 3, 1))], [], [(0, (0, 0)), (1, (-2147483648, -1))], [(-4, -4), (1, 1)], [([(4, (0, 0)), (5, (1, 1)), (7, (0, 0))], [(4, 11)], [])], [], [], [], 0, 0), ([], [(0, 10)], [(2, .inr (0, 3, 1))], [], [(0, (0, 0)), (1, (48, 2147483647))], [(-6, -6), (1, 1)], [([(6, (0, 0)), (7, (1, 1))], [(6, 11)], [])], [], [], [], 0, 0), ([], [(0, 10)], dP84, [], [(0, (0, 0)), (1, (0, 47))], [(1, 1)], [], [], [], [], 0, 0), ([], [(0, 10)], [(2, .inr (0, 3, 1))], [], [(0, (1, 1)), (1, (-2147483648, -129))], [(-4, -4), (1, 1)], [([(4, (0, 0)), (5, (1, 1)), (7, (0, 0))], [(4, 11)], [])], [], [], [], 0, 0), ([], [(0, 10)], [(2, .inr (0, 3, 1))], [], [(0, (1, 1)), (1, (128, 2147483647))], [(-6, -6), (1, 1)], [([(6, (0, 0)), (7, (1, 1))], [(6, 11)], [])], [], [], [], 0, 0), ([], [(0, 10)], dP85, [], [(0, (1, 1)), (1, (-128, 127))], [(1, 1)], [], [], [], [], 0, 0), ([], [(0, 10)], [(2, .inr (0, 3, 1))], [], [(0, (2, 2)), (1, (-2147483648, -1))], [(-4, -4), (1, 1)], [([(4, (0, 0)), (5, (1, 1)), (7, (0, 0))], [(4, 11)], [])], [], [], [], 0, 0), ([], [(0, 10)], [(2, .inr (0, 3, 1))], [], [(0, (2, 2)), (1, (100, 2147483647))], [(-6, -6), (1, 1)], [([(6, (0, 0)), (7, (1, 1))], [(6, 11)], [])], [], [], [], 0, 0), ([], [(0, 10)], dP86, [], [(0, (2, 2)), (1, (0, 99))], [(1, 1)], [], [], [], [], 0, 0), ([], [(0, 10)], [(2, .inr (0, 3, 1))], [], [(0, (3, 3)), (1, (-2147483648, -1))], [(-4, -4), (1, 1)], [([(4, (0, 0)), (5, (1, 1)), (7, (0, 0))], [(4, 11)], [])], [], [], [], 0, 0), ([], [(0, 10)], [(2, .inr (0, 3, 1))], [], [(0, (3, 3)), (1, (100, 2147483647))], [(-6, -6), (1, 1)], [([(6, (0, 0)), (7, (1, 1))], [(6, 11)], [])], [], [], [], 0, 0), ([], [(0, 10)], dP87, [], [(0, (3, 3)), (1, (0, 99))], [(1, 1)], [], [], [], [], 0, 0), ([], [(0, 10)], [(2, .inr (0, 3, 1))], [], [(0, (4, 4)), (1, (-2147483648, -21))], [(-4, -4), (1, 1)], [([(4, (0, 0)), (5, (1, 1)), (7, (0, 0))], [(4, 11)], [])], [], [], [], 0, 0), ([], [(0, 10)], [(2, .inr (0, 3, 1))], [], [(0, (4, 4)), (1, (21, 2147483647))], [(-6, -6), (1, 1)], [([(6, (0, 0)), (7, (1, 1))], [(6, 11)], [])], [], [], [], 0, 0), ([], [(0, 10)], dP88, [], [(0, (4, 4)), (1, (-20, 20))], [(1, 1)], [], [], [], [], 0, 0), ([], [(0, 10)], [(2, .inr (0, 3, 1))], [], [(0, (5, 5)), (1, (-2147483648, -1))], [(-4, -4), (1, 1)], [([(4, (0, 0)), (5, (1, 1)), (7, (0, 0))], [(4, 11)], [])], [], [], [], 0, 0), ([], [(0, 10)], [(2, .inr (0, 3, 1))], [], [(0, (5, 5)), (1, (32, 2147483647))], [(-6, -6), (1, 1)], [([(6, (0, 0)), (7, (1, 1))], [(6, 11)], [])], [], [], [], 0, 0), ([], [(0, 10)], dP89, [], [(0, (5, 5)), (1, (0, 31))], [(1, 1)], [], [], [], [], 0, 0), ([], [(0, 10)], [(2, .inr (0, 3, 1))], [], [(0, (6, 6)), (1, (-2147483648, -1))], [(-4, -4), (1, 1)], [([(4, (0, 0)), (5, (1, 1)), (7, (0, 0))], [(4, 11)], [])], [], [], [], 0, 0), ([], [(0, 10)], [(2, .inr (0, 3, 1))], [], [(0, (6, 6)), (1, (100, 2147483647))], [(-6, -6), (1, 1)], [([(6, (0, 0)), (7, (1, 1))], [(6, 11)], [])], [], [], [], 0, 0), ([], [(0, 10)], dP90, [], [(0, (6, 6)), (1, (0, 99))], [(1, 1)], [], [], [], [], 0, 0), ([], [(0, 10)], [(2, .inr (0, 3, 1))], [], [(0, (7, 7)), (1, (-2147483648, 0))], [(-4, -4), (1, 1)], [([(4, (0, 0)), (5, (1, 1)), (7, (0, 0))], [(4, 11)], [])], [], [], [], 0, 0), ([], [(0, 10)], [(2, .inr (0, 3, 1))], [], [(0, (7, 7)), (1, (100, 2147483647))], [(-6, -6), (1, 1)], [([(6, (0, 0)), (7, (1, 1))], [(6, 11)], [])], [], [], [], 0, 0), ([], [(0, 10)], dP91, [], [(0, (7, 7)), (1, (1, 99))], [(1, 1)], [], [], [], [], 0, 0), ([], [(0, 10)], [(2, .inr (0, 3, 1))], [], [(0, (8, 8)), (1, (-2147483648, 0))], [(-4, -4), (1, 1)], [([(4, (0, 0)), (5, (1, 1)), (7, (0, 0))], [(4, 11)], [])], [], [], [], 0, 0), ([], [(0, 10)], [(2, .inr (0, 3, 1))], [], [(0, (8, 8)), (1, (1000, 2147483647))], [(-6, -6), (1, 1)], [([(6, (0, 0)), (7, (1, 1))], [(6, 11)], [])], [], [], [], 0, 0), ([], [(0, 10)], dP92, [], [(0, (8, 8)), (1, (1, 999))], [(1, 1)], [], [], [], [], 0, 0), ([], [(0, 10)], [(2, .inr (0, 3, 1))], [], [(0, (9, 9)), (1, (-2147483648, -1))], [(-4, -4), (1, 1)], [([(4, (0, 0)), (5, (1, 1)), (7, (0, 0))], [(4, 11)], [])], [], [], [], 0, 0), ([], [(0, 10)], [(2, .inr (0, 3, 1))], [], [(0, (9, 9)), (1, (21, 2147483647))], [(-6, -6), (1, 1)], [([(6, (0, 0)), (7, (1, 1))], [(6, 11)], [])], [], [], [], 0, 0), ([], [(0, 10)], dP93, [], [(0, (9, 9)), (1, (0, 20))], [(1, 1)], [], [], [], [], 0, 0), ([], [(0, 10)], [(2, .inr (0, 3, 1))], [], [(0, (10, 2147483647))], [(-2, -2), (1, 1)], [([(2, (0, 0)), (3, (1, 1)), (7, (0, 0))], [(2, 11)], [])], [], [], [], 0, 0)], 2, 102, 0, 0)
noncomputable def k68_a : ckAs := [(0, [(964504, [(3, 1, 0, ([], [], [], [], [], [(4, 4)], [], [], [], [], 0, 0))]), (611886, [(3, 0, 0, ([], [], [], [], [], [], [], [], [], [], 0, 0)), (3, 1, 0, ([], [], [], [], [], [(1, 1)], [], [], [], [], 0, 0))]), (85757, [(3, 0, 0, ([], [], [], [], [], [], [], [], [], [], 0, 0)), (3, 0, 0, ([], [], [], [], [], [], [], [], [], [], 0, 0)), (3, 1, 0, ([], [], [], [], [], [(0, 0)], [], [], [], [], 0, 0))]), (243715, [(3, 0, 0, ([], [], [], [], [], [], [], [], [], [], 0, 0)), (3, 0, 0, ([], [], [], [], [], [], [], [], [], [], 0, 0)), (3, 0, 0, ([], [], [], [], [], [], [], [], [], [], 0, 0)), (3, 1, 0, ([], [], [], [], [], [(-1, -1)], [], [], [], [], 0, 0))]), (340285, [(3, 0, 0, ([], [], [], [], [], [], [], [], [], [], 0, 0)), (3, 0, 0, ([], [], [], [], [], [], [], [], [], [], 0, 0)), (3, 1, 0, ([], [], [], [], [], [(3, 3)], [], [], [], [], 0, 0))]), (498243, [(3, 0, 0, ([], [], [], [], [], [], [], [], [], [], 0, 0)), (3, 0, 0, ([], [], [], [], [], [], [], [], [], [], 0, 0)), (3, 0, 0, ([], [], [], [], [], [], [], [], [], [], 0, 0)), (3, 1, 0, ([], [], [], [], [], [(2, 2)], [], [], [], [], 0, 0))]), (375794, [(3, 0, 0, ([], [], [], [], [], [], [], [], [], [], 0, 0)), (3, 1, 0, ([], [], [], [], [], [(7, 7)], [], [], [], [], 0, 0))]), (549305, [(3, 0, 0, ([], [], [], [], [], [], [], [], [], [], 0, 0)), (3, 0, 0, ([], [], [], [], [], [], [], [], [], [], 0, 0)), (3, 1, 0, ([], [], [], [], [], [(6, 6)], [], [], [], [], 0, 0))]), (707263, [(3, 0, 0, ([], [], [], [], [], [], [], [], [], [], 0, 0)), (3, 0, 0, ([], [], [], [], [], [], [], [], [], [], 0, 0)), (3, 0, 0, ([], [], [], [], [], [], [], [], [], [], 0, 0)), (3, 1, 0, ([], [], [], [], [], [(5, 5)], [], [], [], [], 0, 0))]), (58685, [(3, 0, 0, ([], [], [], [], [], [], [], [], [], [], 0, 0)), (3, 0, 0, ([], [], [], [], [], [], [], [], [], [], 0, 0)), (3, 1, 0, ([], [], [], [], [], [(9, 9)], [], [], [], [], 0, 0))]), (916283, [(3, 0, 0, ([], [], [], [], [], [], [], [], [], [], 0, 0)), (3, 0, 0, ([], [], [], [], [], [], [], [], [], [], 0, 0)), (3, 0, 0, ([], [], [], [], [], [], [], [], [], [], 0, 0)), (3, 1, 0, ([], [], [], [], [], [(8, 8)], [], [], [], [], 0, 0))])])]
noncomputable def k68_c : List (Nat × ckCtr) := [(23, k39), (39, k15), (55, k16), (68, k58), (68, k59), (68, k60), (68, k61), (68, k62), (68, k63), (68, k64), (68, k65), (68, k66), (68, k67)]
theorem k68_ok (l : Launch) : ckCtrOk l ckMT ckTW ckCL k68 := mt_4 (as := k68_a) (cs := k68_c) (gx := []) (f := 200000) rfl (ckHc (k39_ok l) (ckHc (k15_ok l) (ckHc (k16_ok l) (ckHc (k58_ok l) (ckHc (k59_ok l) (ckHc (k60_ok l) (ckHc (k61_ok l) (ckHc (k62_ok l) (ckHc (k63_ok l) (ckHc (k64_ok l) (ckHc (k65_ok l) (ckHc (k66_ok l) (ckHc (k67_ok l) (fun _ h => absurd h List.not_mem_nil)))))))))))))) True.intro (by decide +kernel)
-- FarMachineModel.within
noncomputable def k69 : ckCtr := (46, ([(0, (0, 0)), (1, (0, 1)), (2, (0, 2))], [], [], [(0, 20), (0, 0), (20, 20)], [], [], [], [], 0, 0), [([], [(0, 1)], [], [], [], [], [], [], [], [], 0, 0)], 1, 80, 0, 0)
noncomputable def k69_a : ckAs := []
noncomputable def k69_c : List (Nat × ckCtr) := []
theorem k69_ok (l : Launch) : ckCtrOk l ckMT ckTW ckCL k69 := mt_46 (as := k69_a) (cs := k69_c) (gx := []) (f := 200000) rfl (fun _ h => absurd h List.not_mem_nil) True.intro (by decide +kernel)
noncomputable def dG94 : List ckG := [([(50, (0, 0)), (51, (50, 50)), (52, (60, 60)), (54, (0, 0)), (55, (10, 10)), (56, (24, 24)), (57, (200, 200)), (58, (0, 20)), (318, (0, 0))], [(57, 1)], [])]
-- FarMachineModel.set
noncomputable def k70 : ckCtr := (64, ([(0, (1, 0)), (1, (0, 0)), (2, (0, 1))], [], dC39, [(9, 9), (0, 20), (0, 0), (318, 318)], dG40, [], [], [], 0, 0), [([], [(0, 4)], [(1, .inr (0, 3, 1))], [], [], [(1, 1)], dG94, [], [], [], 0, 0)], 2, 102, 0, 0)
noncomputable def k70_a : ckAs := []
noncomputable def k70_c : List (Nat × ckCtr) := [(140, k69)]
theorem k70_ok (l : Launch) : ckCtrOk l ckMT ckTW ckCL k70 := mt_64 (as := k70_a) (cs := k70_c) (gx := []) (f := 200000) rfl (ckHc (k69_ok l) (fun _ h => absurd h List.not_mem_nil)) True.intro (by decide +kernel)
-- FarMachineModel.within
noncomputable def k71 : ckCtr := (46, ([(0, (0, 0)), (1, (0, 1)), (2, (0, 2))], [], [], [(0, 31), (0, 0), (31, 31)], [], [], [], [], 0, 0), [([], [(0, 1)], [], [], [], [], [], [], [], [], 0, 0)], 1, 80, 0, 0)
noncomputable def k71_a : ckAs := []
noncomputable def k71_c : List (Nat × ckCtr) := []
theorem k71_ok (l : Launch) : ckCtrOk l ckMT ckTW ckCL k71 := mt_46 (as := k71_a) (cs := k71_c) (gx := []) (f := 200000) rfl (fun _ h => absurd h List.not_mem_nil) True.intro (by decide +kernel)
noncomputable def dG95 : List ckG := [([(50, (0, 0)), (51, (50, 50)), (52, (60, 60)), (53, (0, 0)), (54, (0, 31)), (55, (10, 10)), (56, (24, 24)), (57, (200, 200)), (58, (9, 9)), (318, (0, 0))], [(53, 1)], [])]
-- FarMachineModel.set
noncomputable def k72 : ckCtr := (64, ([(0, (1, 0)), (1, (0, 0)), (2, (0, 1))], [], dC39, [(5, 5), (0, 31), (0, 0), (318, 318)], dG40, [], [], [], 0, 0), [([], [(0, 4)], [(1, .inr (0, 3, 1))], [], [], [(1, 1)], dG95, [], [], [], 0, 0)], 2, 102, 0, 0)
noncomputable def k72_a : ckAs := []
noncomputable def k72_c : List (Nat × ckCtr) := [(106, k71)]
theorem k72_ok (l : Launch) : ckCtrOk l ckMT ckTW ckCL k72 := mt_64 (as := k72_a) (cs := k72_c) (gx := []) (f := 200000) rfl (ckHc (k71_ok l) (fun _ h => absurd h List.not_mem_nil)) True.intro (by decide +kernel)
-- FarMachineModel.within
noncomputable def k73 : ckCtr := (46, ([(0, (0, 0)), (1, (0, 1)), (2, (0, 2))], [], [], [(-20, 20), (-20, -20), (20, 20)], [], [], [], [], 0, 0), [([], [(0, 3)], [], [], [], [(0, 0)], [], [], [], [], 0, 0)], 1, 80, 0, 0)
noncomputable def k73_a : ckAs := []
noncomputable def k73_c : List (Nat × ckCtr) := []
theorem k73_ok (l : Launch) : ckCtrOk l ckMT ckTW ckCL k73 := mt_46 (as := k73_a) (cs := k73_c) (gx := []) (f := 200000) rfl (fun _ h => absurd h List.not_mem_nil) True.intro (by decide +kernel)
noncomputable def dG96 : List ckG := [([(50, (0, 0)), (51, (50, 50)), (52, (60, 60)), (53, (-20, 20)), (54, (0, 0)), (55, (10, 10)), (56, (24, 24)), (57, (200, 200)), (58, (9, 9)), (318, (0, 0))], [(52, 1)], [])]
-- FarMachineModel.set
noncomputable def k74 : ckCtr := (64, ([(0, (1, 0)), (1, (0, 0)), (2, (0, 1))], [], dC39, [(4, 4), (-20, 20), (0, 0), (318, 318)], dG40, [], [], [], 0, 0), [([], [(0, 4)], [(1, .inr (0, 3, 1))], [], [], [(1, 1)], dG96, [], [], [], 0, 0)], 2, 102, 0, 0)
noncomputable def k74_a : ckAs := []
noncomputable def k74_c : List (Nat × ckCtr) := [(95, k73)]
theorem k74_ok (l : Launch) : ckCtrOk l ckMT ckTW ckCL k74 := mt_64 (as := k74_a) (cs := k74_c) (gx := []) (f := 200000) rfl (ckHc (k73_ok l) (fun _ h => absurd h List.not_mem_nil)) True.intro (by decide +kernel)
-- FarMachineModel.within
noncomputable def k75 : ckCtr := (46, ([(0, (0, 0)), (1, (0, 1)), (2, (0, 2))], [], [], [(0, 47), (0, 0), (47, 47)], [], [], [], [], 0, 0), [([], [(0, 1)], [], [], [], [], [], [], [], [], 0, 0)], 1, 80, 0, 0)
noncomputable def k75_a : ckAs := []
noncomputable def k75_c : List (Nat × ckCtr) := []
theorem k75_ok (l : Launch) : ckCtrOk l ckMT ckTW ckCL k75 := mt_46 (as := k75_a) (cs := k75_c) (gx := []) (f := 200000) rfl (fun _ h => absurd h List.not_mem_nil) True.intro (by decide +kernel)
noncomputable def dC97 : List ckC := [.inl (9, [(4, 10), (1, 1), (4, 11), (4, 12), (4, 13), (4, 14), (4, 15), (4, 16), (4, 17), (4, 18), (4, 19), (4, 20), (4, 21), (4, 22), (4, 23), (4, 24), (0, 0), (0, 0), (0, 0), (0, 0), (0, 0), (0, 0), (0, 0), (4, 25), (0, 0), (4, 26), (0, 0), (0, 0), (0, 0), (0, 0), (4, 27), (0, 0), (0, 0), (0, 0), (0, 0), (4, 27), (1, 1), (0, 0), (4, 28), (4, 29), (0, 0), (0, 0)]), .inr (0, 2, 0)]
noncomputable def dG98 : List ckG := [([(48, (0, 0)), (49, (0, 47)), (50, (0, 0)), (51, (50, 50)), (52, (60, 60)), (54, (0, 0)), (55, (10, 10)), (56, (24, 24)), (57, (200, 200)), (58, (9, 9)), (318, (0, 0))], [(48, 1)], [])]
-- FarMachineModel.set
noncomputable def k76 : ckCtr := (64, ([(0, (1, 0)), (1, (0, 0)), (2, (0, 1))], [], dC97, [(0, 0), (0, 47), (318, 318)], dG40, [], [], [], 0, 0), [([], [(0, 3)], [(1, .inr (0, 2, 1))], [], [], [(1, 1)], dG98, [], [], [], 0, 0)], 2, 102, 0, 0)
noncomputable def k76_a : ckAs := []
noncomputable def k76_c : List (Nat × ckCtr) := [(60, k75)]
theorem k76_ok (l : Launch) : ckCtrOk l ckMT ckTW ckCL k76 := mt_64 (as := k76_a) (cs := k76_c) (gx := []) (f := 200000) rfl (ckHc (k75_ok l) (fun _ h => absurd h List.not_mem_nil)) True.intro (by decide +kernel)
-- FarMachineModel.within
noncomputable def k77 : ckCtr := (46, ([(0, (0, 0)), (1, (0, 1)), (2, (0, 2))], [], [], [(1, 99), (1, 1), (99, 99)], [], [], [], [], 0, 0), [([], [(0, 3)], [], [], [], [(0, 0)], [], [], [], [], 0, 0)], 1, 80, 0, 0)
noncomputable def k77_a : ckAs := []
noncomputable def k77_c : List (Nat × ckCtr) := []
theorem k77_ok (l : Launch) : ckCtrOk l ckMT ckTW ckCL k77 := mt_46 (as := k77_a) (cs := k77_c) (gx := []) (f := 200000) rfl (fun _ h => absurd h List.not_mem_nil) True.intro (by decide +kernel)
noncomputable def dG99 : List ckG := [([(50, (0, 0)), (51, (50, 50)), (52, (60, 60)), (54, (0, 0)), (55, (10, 10)), (56, (1, 99)), (57, (200, 200)), (58, (9, 9)), (318, (0, 0))], [(55, 1)], [])]
-- FarMachineModel.set
noncomputable def k78 : ckCtr := (64, ([(0, (1, 0)), (1, (0, 0)), (2, (0, 1))], [], dC39, [(7, 7), (1, 99), (0, 0), (318, 318)], dG40, [], [], [], 0, 0), [([], [(0, 4)], [(1, .inr (0, 3, 1))], [], [], [(1, 1)], dG99, [], [], [], 0, 0)], 2, 102, 0, 0)
noncomputable def k78_a : ckAs := []
noncomputable def k78_c : List (Nat × ckCtr) := [(117, k77)]
theorem k78_ok (l : Launch) : ckCtrOk l ckMT ckTW ckCL k78 := mt_64 (as := k78_a) (cs := k78_c) (gx := []) (f := 200000) rfl (ckHc (k77_ok l) (fun _ h => absurd h List.not_mem_nil)) True.intro (by decide +kernel)
-- FarMachineModel.within
noncomputable def k79 : ckCtr := (46, ([(0, (0, 0)), (1, (0, 1)), (2, (0, 2))], [], [], [(0, 99), (0, 0), (99, 99)], [], [], [], [], 0, 0), [([], [(0, 1)], [], [], [], [], [], [], [], [], 0, 0)], 1, 80, 0, 0)
noncomputable def k79_a : ckAs := []
noncomputable def k79_c : List (Nat × ckCtr) := []
theorem k79_ok (l : Launch) : ckCtrOk l ckMT ckTW ckCL k79 := mt_46 (as := k79_a) (cs := k79_c) (gx := []) (f := 200000) rfl (fun _ h => absurd h List.not_mem_nil) True.intro (by decide +kernel)
noncomputable def dG100 : List ckG := [([(50, (0, 0)), (51, (0, 99)), (52, (60, 60)), (54, (0, 0)), (55, (10, 10)), (56, (24, 24)), (57, (200, 200)), (58, (9, 9)), (318, (0, 0))], [(50, 1)], [])]
-- FarMachineModel.set
noncomputable def k80 : ckCtr := (64, ([(0, (1, 0)), (1, (0, 0)), (2, (0, 1))], [], dC39, [(2, 2), (0, 99), (0, 0), (318, 318)], dG40, [], [], [], 0, 0), [([], [(0, 4)], [(1, .inr (0, 3, 1))], [], [], [(1, 1)], dG100, [], [], [], 0, 0)], 2, 102, 0, 0)
noncomputable def k80_a : ckAs := []
noncomputable def k80_c : List (Nat × ckCtr) := [(83, k79)]
theorem k80_ok (l : Launch) : ckCtrOk l ckMT ckTW ckCL k80 := mt_64 (as := k80_a) (cs := k80_c) (gx := []) (f := 200000) rfl (ckHc (k79_ok l) (fun _ h => absurd h List.not_mem_nil)) True.intro (by decide +kernel)
noncomputable def dG101 : List ckG := [([(50, (0, 0)), (51, (50, 50)), (52, (0, 99)), (54, (0, 0)), (55, (10, 10)), (56, (24, 24)), (57, (200, 200)), (58, (9, 9)), (318, (0, 0))], [(51, 1)], [])]
-- FarMachineModel.set
noncomputable def k81 : ckCtr := (64, ([(0, (1, 0)), (1, (0, 0)), (2, (0, 1))], [], dC39, [(3, 3), (0, 99), (0, 0), (318, 318)], dG40, [], [], [], 0, 0), [([], [(0, 4)], [(1, .inr (0, 3, 1))], [], [], [(1, 1)], dG101, [], [], [], 0, 0)], 2, 102, 0, 0)
noncomputable def k81_a : ckAs := []
noncomputable def k81_c : List (Nat × ckCtr) := [(83, k79)]
theorem k81_ok (l : Launch) : ckCtrOk l ckMT ckTW ckCL k81 := mt_64 (as := k81_a) (cs := k81_c) (gx := []) (f := 200000) rfl (ckHc (k79_ok l) (fun _ h => absurd h List.not_mem_nil)) True.intro (by decide +kernel)
noncomputable def dG102 : List ckG := [([(50, (0, 0)), (51, (50, 50)), (52, (60, 60)), (54, (0, 0)), (55, (0, 99)), (56, (24, 24)), (57, (200, 200)), (58, (9, 9)), (318, (0, 0))], [(54, 1)], [])]
-- FarMachineModel.set
noncomputable def k82 : ckCtr := (64, ([(0, (1, 0)), (1, (0, 0)), (2, (0, 1))], [], dC39, [(6, 6), (0, 99), (0, 0), (318, 318)], dG40, [], [], [], 0, 0), [([], [(0, 4)], [(1, .inr (0, 3, 1))], [], [], [(1, 1)], dG102, [], [], [], 0, 0)], 2, 102, 0, 0)
noncomputable def k82_a : ckAs := []
noncomputable def k82_c : List (Nat × ckCtr) := [(83, k79)]
theorem k82_ok (l : Launch) : ckCtrOk l ckMT ckTW ckCL k82 := mt_64 (as := k82_a) (cs := k82_c) (gx := []) (f := 200000) rfl (ckHc (k79_ok l) (fun _ h => absurd h List.not_mem_nil)) True.intro (by decide +kernel)
-- FarMachineModel.within
noncomputable def k83 : ckCtr := (46, ([(0, (0, 0)), (1, (0, 1)), (2, (0, 2))], [], [], [(-128, 127), (-128, -128), (127, 127)], [], [], [], [], 0, 0), [([], [(0, 3)], [], [], [], [(0, 0)], [], [], [], [], 0, 0)], 1, 80, 0, 0)
noncomputable def k83_a : ckAs := []
noncomputable def k83_c : List (Nat × ckCtr) := []
theorem k83_ok (l : Launch) : ckCtrOk l ckMT ckTW ckCL k83 := mt_46 (as := k83_a) (cs := k83_c) (gx := []) (f := 200000) rfl (fun _ h => absurd h List.not_mem_nil) True.intro (by decide +kernel)
noncomputable def dG103 : List ckG := [([(49, (0, 0)), (50, (-128, 127)), (51, (50, 50)), (52, (60, 60)), (54, (0, 0)), (55, (10, 10)), (56, (24, 24)), (57, (200, 200)), (58, (9, 9)), (318, (0, 0))], [(49, 1)], [])]
-- FarMachineModel.set
noncomputable def k84 : ckCtr := (64, ([(0, (1, 0)), (1, (0, 0)), (2, (0, 1))], [], dC39, [(1, 1), (-128, 127), (0, 0), (318, 318)], dG40, [], [], [], 0, 0), [([], [(0, 0)], [(1, .inr (0, 3, 1))], [], [], [], dG103, [], [], [], 0, 0)], 2, 102, 0, 0)
noncomputable def k84_a : ckAs := []
noncomputable def k84_c : List (Nat × ckCtr) := [(72, k83)]
theorem k84_ok (l : Launch) : ckCtrOk l ckMT ckTW ckCL k84 := mt_64 (as := k84_a) (cs := k84_c) (gx := []) (f := 200000) rfl (ckHc (k83_ok l) (fun _ h => absurd h List.not_mem_nil)) True.intro (by decide +kernel)
-- FarMachineModel.within
noncomputable def k85 : ckCtr := (46, ([(0, (0, 0)), (1, (0, 1)), (2, (0, 2))], [], [], [(1, 999), (1, 1), (999, 999)], [], [], [], [], 0, 0), [([], [(0, 3)], [], [], [], [(0, 0)], [], [], [], [], 0, 0)], 1, 80, 0, 0)
noncomputable def k85_a : ckAs := []
noncomputable def k85_c : List (Nat × ckCtr) := []
theorem k85_ok (l : Launch) : ckCtrOk l ckMT ckTW ckCL k85 := mt_46 (as := k85_a) (cs := k85_c) (gx := []) (f := 200000) rfl (fun _ h => absurd h List.not_mem_nil) True.intro (by decide +kernel)
noncomputable def dG104 : List ckG := [([(50, (0, 0)), (51, (50, 50)), (52, (60, 60)), (54, (0, 0)), (55, (10, 10)), (56, (24, 24)), (57, (1, 999)), (58, (9, 9)), (318, (0, 0))], [(56, 1)], [])]
-- FarMachineModel.set
noncomputable def k86 : ckCtr := (64, ([(0, (1, 0)), (1, (0, 0)), (2, (0, 1))], [], dC39, [(8, 8), (1, 999), (0, 0), (318, 318)], dG40, [], [], [], 0, 0), [([], [(0, 4)], [(1, .inr (0, 3, 1))], [], [], [(1, 1)], dG104, [], [], [], 0, 0)], 2, 102, 0, 0)
noncomputable def k86_a : ckAs := []
noncomputable def k86_c : List (Nat × ckCtr) := [(129, k85)]
theorem k86_ok (l : Launch) : ckCtrOk l ckMT ckTW ckCL k86 := mt_64 (as := k86_a) (cs := k86_c) (gx := []) (f := 200000) rfl (ckHc (k85_ok l) (fun _ h => absurd h List.not_mem_nil)) True.intro (by decide +kernel)
-- FarMachineModel.within
noncomputable def k87 : ckCtr := (46, ([(0, (0, 0)), (1, (0, 1)), (2, (0, 2))], [], [], [(1000, 2147483647), (1, 1), (999, 999)], [], [], [], [], 0, 0), [([], [(0, 3)], [], [], [], [(-6, -6)], [], [], [], [], 0, 0)], 1, 80, 0, 0)
noncomputable def k87_a : ckAs := []
noncomputable def k87_c : List (Nat × ckCtr) := []
theorem k87_ok (l : Launch) : ckCtrOk l ckMT ckTW ckCL k87 := mt_46 (as := k87_a) (cs := k87_c) (gx := []) (f := 200000) rfl (fun _ h => absurd h List.not_mem_nil) True.intro (by decide +kernel)
-- FarMachineModel.set
noncomputable def k88 : ckCtr := (64, ([(0, (1, 0)), (1, (0, 0)), (2, (0, 1))], [], dC43, [(8, 8), (1000, 2147483647), (0, 0), (7, 7)], [([(7, (0, 0))], [], [])], [], [], [], 0, 0), [([], [(0, 4)], [(1, .inr (0, 3, 1))], [], [], [(-6, -6), (1, 1)], [([(6, (0, 0)), (7, (1, 1))], [(6, 5)], [])], [], [], [], 0, 0)], 2, 102, 0, 0)
noncomputable def k88_a : ckAs := []
noncomputable def k88_c : List (Nat × ckCtr) := [(129, k87), (156, k25)]
theorem k88_ok (l : Launch) : ckCtrOk l ckMT ckTW ckCL k88 := mt_64 (as := k88_a) (cs := k88_c) (gx := []) (f := 200000) rfl (ckHc (k87_ok l) (ckHc (k25_ok l) (fun _ h => absurd h List.not_mem_nil))) True.intro (by decide +kernel)
-- FarMachineModel.within
noncomputable def k89 : ckCtr := (46, ([(0, (0, 0)), (1, (0, 1)), (2, (0, 2))], [], [], [(-2147483648, -129), (-128, -128), (127, 127)], [], [], [], [], 0, 0), [([], [(0, 3)], [], [], [], [(-4, -4)], [], [], [], [], 0, 0)], 1, 80, 0, 0)
noncomputable def k89_a : ckAs := []
noncomputable def k89_c : List (Nat × ckCtr) := []
theorem k89_ok (l : Launch) : ckCtrOk l ckMT ckTW ckCL k89 := mt_46 (as := k89_a) (cs := k89_c) (gx := []) (f := 200000) rfl (fun _ h => absurd h List.not_mem_nil) True.intro (by decide +kernel)
-- FarMachineModel.set
noncomputable def k90 : ckCtr := (64, ([(0, (1, 0)), (1, (0, 0)), (2, (0, 1))], [], dC43, [(1, 1), (-2147483648, -129), (0, 0), (7, 7)], [([(7, (0, 0))], [], [])], [], [], [], 0, 0), [([], [(0, 4)], [(1, .inr (0, 3, 1))], [], [], [(-4, -4)], [([(4, (0, 0)), (5, (1, 1)), (7, (0, 0))], [(4, 0)], [])], [], [], [], 0, 0)], 2, 102, 0, 0)
noncomputable def k90_a : ckAs := []
noncomputable def k90_c : List (Nat × ckCtr) := [(72, k89), (156, k28)]
theorem k90_ok (l : Launch) : ckCtrOk l ckMT ckTW ckCL k90 := mt_64 (as := k90_a) (cs := k90_c) (gx := []) (f := 200000) rfl (ckHc (k89_ok l) (ckHc (k28_ok l) (fun _ h => absurd h List.not_mem_nil))) True.intro (by decide +kernel)
-- FarMachineModel.within
noncomputable def k91 : ckCtr := (46, ([(0, (0, 0)), (1, (0, 1)), (2, (0, 2))], [], [], [(128, 2147483647), (-128, -128), (127, 127)], [], [], [], [], 0, 0), [([], [(0, 3)], [], [], [], [(-6, -6)], [], [], [], [], 0, 0)], 1, 80, 0, 0)
noncomputable def k91_a : ckAs := []
noncomputable def k91_c : List (Nat × ckCtr) := []
theorem k91_ok (l : Launch) : ckCtrOk l ckMT ckTW ckCL k91 := mt_46 (as := k91_a) (cs := k91_c) (gx := []) (f := 200000) rfl (fun _ h => absurd h List.not_mem_nil) True.intro (by decide +kernel)
-- FarMachineModel.set
noncomputable def k92 : ckCtr := (64, ([(0, (1, 0)), (1, (0, 0)), (2, (0, 1))], [], dC43, [(1, 1), (128, 2147483647), (0, 0), (7, 7)], [([(7, (0, 0))], [], [])], [], [], [], 0, 0), [([], [(0, 4)], [(1, .inr (0, 3, 1))], [], [], [(-6, -6)], [([(6, (0, 0)), (7, (1, 1))], [(6, 0)], [])], [], [], [], 0, 0)], 2, 102, 0, 0)
noncomputable def k92_a : ckAs := []
noncomputable def k92_c : List (Nat × ckCtr) := [(72, k91), (156, k25)]
theorem k92_ok (l : Launch) : ckCtrOk l ckMT ckTW ckCL k92 := mt_64 (as := k92_a) (cs := k92_c) (gx := []) (f := 200000) rfl (ckHc (k91_ok l) (ckHc (k25_ok l) (fun _ h => absurd h List.not_mem_nil))) True.intro (by decide +kernel)
-- FarMachineModel.within
noncomputable def k93 : ckCtr := (46, ([(0, (0, 0)), (1, (0, 1)), (2, (0, 2))], [], [], [(100, 2147483647), (0, 0), (99, 99)], [], [], [], [], 0, 0), [([], [(0, 3)], [], [], [], [(-6, -6)], [], [], [], [], 0, 0)], 1, 80, 0, 0)
noncomputable def k93_a : ckAs := []
noncomputable def k93_c : List (Nat × ckCtr) := []
theorem k93_ok (l : Launch) : ckCtrOk l ckMT ckTW ckCL k93 := mt_46 (as := k93_a) (cs := k93_c) (gx := []) (f := 200000) rfl (fun _ h => absurd h List.not_mem_nil) True.intro (by decide +kernel)
-- FarMachineModel.set
noncomputable def k94 : ckCtr := (64, ([(0, (1, 0)), (1, (0, 0)), (2, (0, 1))], [], dC43, [(2, 2), (100, 2147483647), (0, 0), (7, 7)], [([(7, (0, 0))], [], [])], [], [], [], 0, 0), [([], [(0, 4)], [(1, .inr (0, 3, 1))], [], [], [(-6, -6), (1, 1)], [([(6, (0, 0)), (7, (1, 1))], [(6, 5)], [])], [], [], [], 0, 0)], 2, 102, 0, 0)
noncomputable def k94_a : ckAs := []
noncomputable def k94_c : List (Nat × ckCtr) := [(83, k93), (156, k25)]
theorem k94_ok (l : Launch) : ckCtrOk l ckMT ckTW ckCL k94 := mt_64 (as := k94_a) (cs := k94_c) (gx := []) (f := 200000) rfl (ckHc (k93_ok l) (ckHc (k25_ok l) (fun _ h => absurd h List.not_mem_nil))) True.intro (by decide +kernel)
-- FarMachineModel.set
noncomputable def k95 : ckCtr := (64, ([(0, (1, 0)), (1, (0, 0)), (2, (0, 1))], [], dC43, [(3, 3), (100, 2147483647), (0, 0), (7, 7)], [([(7, (0, 0))], [], [])], [], [], [], 0, 0), [([], [(0, 4)], [(1, .inr (0, 3, 1))], [], [], [(-6, -6), (1, 1)], [([(6, (0, 0)), (7, (1, 1))], [(6, 5)], [])], [], [], [], 0, 0)], 2, 102, 0, 0)
noncomputable def k95_a : ckAs := []
noncomputable def k95_c : List (Nat × ckCtr) := [(83, k93), (156, k25)]
theorem k95_ok (l : Launch) : ckCtrOk l ckMT ckTW ckCL k95 := mt_64 (as := k95_a) (cs := k95_c) (gx := []) (f := 200000) rfl (ckHc (k93_ok l) (ckHc (k25_ok l) (fun _ h => absurd h List.not_mem_nil))) True.intro (by decide +kernel)
-- FarMachineModel.set
noncomputable def k96 : ckCtr := (64, ([(0, (1, 0)), (1, (0, 0)), (2, (0, 1))], [], dC43, [(6, 6), (100, 2147483647), (0, 0), (7, 7)], [([(7, (0, 0))], [], [])], [], [], [], 0, 0), [([], [(0, 4)], [(1, .inr (0, 3, 1))], [], [], [(-6, -6), (1, 1)], [([(6, (0, 0)), (7, (1, 1))], [(6, 5)], [])], [], [], [], 0, 0)], 2, 102, 0, 0)
noncomputable def k96_a : ckAs := []
noncomputable def k96_c : List (Nat × ckCtr) := [(83, k93), (156, k25)]
theorem k96_ok (l : Launch) : ckCtrOk l ckMT ckTW ckCL k96 := mt_64 (as := k96_a) (cs := k96_c) (gx := []) (f := 200000) rfl (ckHc (k93_ok l) (ckHc (k25_ok l) (fun _ h => absurd h List.not_mem_nil))) True.intro (by decide +kernel)
-- FarMachineModel.within
noncomputable def k97 : ckCtr := (46, ([(0, (0, 0)), (1, (0, 1)), (2, (0, 2))], [], [], [(100, 2147483647), (1, 1), (99, 99)], [], [], [], [], 0, 0), [([], [(0, 3)], [], [], [], [(-6, -6)], [], [], [], [], 0, 0)], 1, 80, 0, 0)
noncomputable def k97_a : ckAs := []
noncomputable def k97_c : List (Nat × ckCtr) := []
theorem k97_ok (l : Launch) : ckCtrOk l ckMT ckTW ckCL k97 := mt_46 (as := k97_a) (cs := k97_c) (gx := []) (f := 200000) rfl (fun _ h => absurd h List.not_mem_nil) True.intro (by decide +kernel)
noncomputable def dC105 : List ckC := [.inl (9, [(1, 1), (4, 10), (4, 11), (4, 12), (4, 13), (4, 14), (4, 15), (4, 16), (4, 17), (4, 18), (4, 19), (4, 20), (4, 21), (4, 22), (4, 23), (4, 24), (0, 2), (0, 2), (0, 2), (0, 2), (0, 2), (0, 2), (0, 2), (4, 25), (0, 2), (4, 26), (0, 2), (0, 2), (0, 2), (0, 2), (4, 27), (0, 2), (0, 2), (0, 2), (0, 2), (4, 27), (4, 10), (0, 2), (4, 28), (4, 29), (0, 2), (0, 2)]), .inr (0, 0, 0)]
-- FarMachineModel.set
noncomputable def k98 : ckCtr := (64, ([(0, (1, 0)), (1, (0, 0)), (2, (0, 1))], [], dC105, [(7, 7), (100, 2147483647), (0, 0)], [([(7, (0, 0))], [], [])], [], [], [], 0, 0), [([], [(0, 3)], [(1, .inr (0, 0, 1))], [], [], [(-6, -6), (1, 1)], [([(6, (0, 0)), (7, (1, 1))], [(6, 4)], [])], [], [], [], 0, 0)], 2, 102, 0, 0)
noncomputable def k98_a : ckAs := []
noncomputable def k98_c : List (Nat × ckCtr) := [(117, k97), (156, k25)]
theorem k98_ok (l : Launch) : ckCtrOk l ckMT ckTW ckCL k98 := mt_64 (as := k98_a) (cs := k98_c) (gx := []) (f := 200000) rfl (ckHc (k97_ok l) (ckHc (k25_ok l) (fun _ h => absurd h List.not_mem_nil))) True.intro (by decide +kernel)
-- FarMachineModel.within
noncomputable def k99 : ckCtr := (46, ([(0, (0, 0)), (1, (0, 1)), (2, (0, 2))], [], [], [(48, 2147483647), (0, 0), (47, 47)], [], [], [], [], 0, 0), [([], [(0, 3)], [], [], [], [(-6, -6)], [], [], [], [], 0, 0)], 1, 80, 0, 0)
noncomputable def k99_a : ckAs := []
noncomputable def k99_c : List (Nat × ckCtr) := []
theorem k99_ok (l : Launch) : ckCtrOk l ckMT ckTW ckCL k99 := mt_46 (as := k99_a) (cs := k99_c) (gx := []) (f := 200000) rfl (fun _ h => absurd h List.not_mem_nil) True.intro (by decide +kernel)
noncomputable def dC106 : List ckC := [.inl (9, [(1, 1), (4, 10), (4, 11), (4, 12), (4, 13), (4, 14), (4, 15), (4, 16), (4, 17), (4, 18), (4, 19), (4, 20), (4, 21), (4, 22), (4, 23), (4, 24), (0, 0), (0, 0), (0, 0), (0, 0), (0, 0), (0, 0), (0, 0), (4, 25), (0, 0), (4, 26), (0, 0), (0, 0), (0, 0), (0, 0), (4, 27), (0, 0), (0, 0), (0, 0), (0, 0), (4, 27), (4, 10), (0, 0), (4, 28), (4, 29), (0, 0), (0, 0)]), .inr (0, 2, 0)]
-- FarMachineModel.set
noncomputable def k100 : ckCtr := (64, ([(0, (1, 0)), (1, (0, 0)), (2, (0, 1))], [], dC106, [(0, 0), (48, 2147483647), (7, 7)], [([(7, (0, 0))], [], [])], [], [], [], 0, 0), [([], [(0, 3)], [(1, .inr (0, 2, 1))], [], [], [(-6, -6), (1, 1)], [([(6, (0, 0)), (7, (1, 1))], [(6, 4)], [])], [], [], [], 0, 0)], 2, 102, 0, 0)
noncomputable def k100_a : ckAs := []
noncomputable def k100_c : List (Nat × ckCtr) := [(60, k99), (156, k25)]
theorem k100_ok (l : Launch) : ckCtrOk l ckMT ckTW ckCL k100 := mt_64 (as := k100_a) (cs := k100_c) (gx := []) (f := 200000) rfl (ckHc (k99_ok l) (ckHc (k25_ok l) (fun _ h => absurd h List.not_mem_nil))) True.intro (by decide +kernel)
-- FarMachineModel.within
noncomputable def k101 : ckCtr := (46, ([(0, (0, 0)), (1, (0, 1)), (2, (0, 2))], [], [], [(32, 2147483647), (0, 0), (31, 31)], [], [], [], [], 0, 0), [([], [(0, 3)], [], [], [], [(-6, -6)], [], [], [], [], 0, 0)], 1, 80, 0, 0)
noncomputable def k101_a : ckAs := []
noncomputable def k101_c : List (Nat × ckCtr) := []
theorem k101_ok (l : Launch) : ckCtrOk l ckMT ckTW ckCL k101 := mt_46 (as := k101_a) (cs := k101_c) (gx := []) (f := 200000) rfl (fun _ h => absurd h List.not_mem_nil) True.intro (by decide +kernel)
-- FarMachineModel.set
noncomputable def k102 : ckCtr := (64, ([(0, (1, 0)), (1, (0, 0)), (2, (0, 1))], [], dC43, [(5, 5), (32, 2147483647), (0, 0), (7, 7)], [([(7, (0, 0))], [], [])], [], [], [], 0, 0), [([], [(0, 4)], [(1, .inr (0, 3, 1))], [], [], [(-6, -6), (1, 1)], [([(6, (0, 0)), (7, (1, 1))], [(6, 5)], [])], [], [], [], 0, 0)], 2, 102, 0, 0)
noncomputable def k102_a : ckAs := []
noncomputable def k102_c : List (Nat × ckCtr) := [(106, k101), (156, k25)]
theorem k102_ok (l : Launch) : ckCtrOk l ckMT ckTW ckCL k102 := mt_64 (as := k102_a) (cs := k102_c) (gx := []) (f := 200000) rfl (ckHc (k101_ok l) (ckHc (k25_ok l) (fun _ h => absurd h List.not_mem_nil))) True.intro (by decide +kernel)
-- FarMachineModel.within
noncomputable def k103 : ckCtr := (46, ([(0, (0, 0)), (1, (0, 1)), (2, (0, 2))], [], [], [(21, 2147483647), (-20, -20), (20, 20)], [], [], [], [], 0, 0), [([], [(0, 3)], [], [], [], [(-6, -6)], [], [], [], [], 0, 0)], 1, 80, 0, 0)
noncomputable def k103_a : ckAs := []
noncomputable def k103_c : List (Nat × ckCtr) := []
theorem k103_ok (l : Launch) : ckCtrOk l ckMT ckTW ckCL k103 := mt_46 (as := k103_a) (cs := k103_c) (gx := []) (f := 200000) rfl (fun _ h => absurd h List.not_mem_nil) True.intro (by decide +kernel)
-- FarMachineModel.set
noncomputable def k104 : ckCtr := (64, ([(0, (1, 0)), (1, (0, 0)), (2, (0, 1))], [], dC43, [(4, 4), (21, 2147483647), (0, 0), (7, 7)], [([(7, (0, 0))], [], [])], [], [], [], 0, 0), [([], [(0, 4)], [(1, .inr (0, 3, 1))], [], [], [(-6, -6), (1, 1)], [([(6, (0, 0)), (7, (1, 1))], [(6, 5)], [])], [], [], [], 0, 0)], 2, 102, 0, 0)
noncomputable def k104_a : ckAs := []
noncomputable def k104_c : List (Nat × ckCtr) := [(95, k103), (156, k25)]
theorem k104_ok (l : Launch) : ckCtrOk l ckMT ckTW ckCL k104 := mt_64 (as := k104_a) (cs := k104_c) (gx := []) (f := 200000) rfl (ckHc (k103_ok l) (ckHc (k25_ok l) (fun _ h => absurd h List.not_mem_nil))) True.intro (by decide +kernel)
-- FarMachineModel.within
noncomputable def k105 : ckCtr := (46, ([(0, (0, 0)), (1, (0, 1)), (2, (0, 2))], [], [], [(21, 2147483647), (0, 0), (20, 20)], [], [], [], [], 0, 0), [([], [(0, 3)], [], [], [], [(-6, -6)], [], [], [], [], 0, 0)], 1, 80, 0, 0)
noncomputable def k105_a : ckAs := []
noncomputable def k105_c : List (Nat × ckCtr) := []
theorem k105_ok (l : Launch) : ckCtrOk l ckMT ckTW ckCL k105 := mt_46 (as := k105_a) (cs := k105_c) (gx := []) (f := 200000) rfl (fun _ h => absurd h List.not_mem_nil) True.intro (by decide +kernel)
-- FarMachineModel.set
noncomputable def k106 : ckCtr := (64, ([(0, (1, 0)), (1, (0, 0)), (2, (0, 1))], [], dC43, [(9, 9), (21, 2147483647), (0, 0), (7, 7)], [([(7, (0, 0))], [], [])], [], [], [], 0, 0), [([], [(0, 4)], [(1, .inr (0, 3, 1))], [], [], [(-6, -6), (1, 1)], [([(6, (0, 0)), (7, (1, 1))], [(6, 5)], [])], [], [], [], 0, 0)], 2, 102, 0, 0)
noncomputable def k106_a : ckAs := []
noncomputable def k106_c : List (Nat × ckCtr) := [(140, k105), (156, k25)]
theorem k106_ok (l : Launch) : ckCtrOk l ckMT ckTW ckCL k106 := mt_64 (as := k106_a) (cs := k106_c) (gx := []) (f := 200000) rfl (ckHc (k105_ok l) (ckHc (k25_ok l) (fun _ h => absurd h List.not_mem_nil))) True.intro (by decide +kernel)
-- FarMachineModel.within
noncomputable def k107 : ckCtr := (46, ([(0, (0, 0)), (1, (0, 1)), (2, (0, 2))], [], [], [(-2147483648, -21), (-20, -20), (20, 20)], [], [], [], [], 0, 0), [([], [(0, 3)], [], [], [], [(-4, -4)], [], [], [], [], 0, 0)], 1, 80, 0, 0)
noncomputable def k107_a : ckAs := []
noncomputable def k107_c : List (Nat × ckCtr) := []
theorem k107_ok (l : Launch) : ckCtrOk l ckMT ckTW ckCL k107 := mt_46 (as := k107_a) (cs := k107_c) (gx := []) (f := 200000) rfl (fun _ h => absurd h List.not_mem_nil) True.intro (by decide +kernel)
-- FarMachineModel.set
noncomputable def k108 : ckCtr := (64, ([(0, (1, 0)), (1, (0, 0)), (2, (0, 1))], [], dC43, [(4, 4), (-2147483648, -21), (0, 0), (7, 7)], [([(7, (0, 0))], [], [])], [], [], [], 0, 0), [([], [(0, 4)], [(1, .inr (0, 3, 1))], [], [], [(-4, -4), (1, 1)], [([(4, (0, 0)), (5, (1, 1)), (7, (0, 0))], [(4, 5)], [])], [], [], [], 0, 0)], 2, 102, 0, 0)
noncomputable def k108_a : ckAs := []
noncomputable def k108_c : List (Nat × ckCtr) := [(95, k107), (156, k28)]
theorem k108_ok (l : Launch) : ckCtrOk l ckMT ckTW ckCL k108 := mt_64 (as := k108_a) (cs := k108_c) (gx := []) (f := 200000) rfl (ckHc (k107_ok l) (ckHc (k28_ok l) (fun _ h => absurd h List.not_mem_nil))) True.intro (by decide +kernel)
-- FarMachineModel.within
noncomputable def k109 : ckCtr := (46, ([(0, (0, 0)), (1, (0, 1)), (2, (0, 2))], [], [], [(-2147483648, -1), (0, 0), (47, 47)], [], [], [], [], 0, 0), [([], [(0, 3)], [], [], [], [(-4, -4)], [], [], [], [], 0, 0)], 1, 80, 0, 0)
noncomputable def k109_a : ckAs := []
noncomputable def k109_c : List (Nat × ckCtr) := []
theorem k109_ok (l : Launch) : ckCtrOk l ckMT ckTW ckCL k109 := mt_46 (as := k109_a) (cs := k109_c) (gx := []) (f := 200000) rfl (fun _ h => absurd h List.not_mem_nil) True.intro (by decide +kernel)
-- FarMachineModel.set
noncomputable def k110 : ckCtr := (64, ([(0, (1, 0)), (1, (0, 0)), (2, (0, 1))], [], dC106, [(0, 0), (-2147483648, -1), (7, 7)], [([(7, (0, 0))], [], [])], [], [], [], 0, 0), [([], [(0, 3)], [(1, .inr (0, 2, 1))], [], [], [(-4, -4), (1, 1)], [([(4, (0, 0)), (5, (1, 1)), (7, (0, 0))], [(4, 4)], [])], [], [], [], 0, 0)], 2, 102, 0, 0)
noncomputable def k110_a : ckAs := []
noncomputable def k110_c : List (Nat × ckCtr) := [(60, k109), (156, k28)]
theorem k110_ok (l : Launch) : ckCtrOk l ckMT ckTW ckCL k110 := mt_64 (as := k110_a) (cs := k110_c) (gx := []) (f := 200000) rfl (ckHc (k109_ok l) (ckHc (k28_ok l) (fun _ h => absurd h List.not_mem_nil))) True.intro (by decide +kernel)
-- FarMachineModel.within
noncomputable def k111 : ckCtr := (46, ([(0, (0, 0)), (1, (0, 1)), (2, (0, 2))], [], [], [(-2147483648, -1), (0, 0), (99, 99)], [], [], [], [], 0, 0), [([], [(0, 3)], [], [], [], [(-4, -4)], [], [], [], [], 0, 0)], 1, 80, 0, 0)
noncomputable def k111_a : ckAs := []
noncomputable def k111_c : List (Nat × ckCtr) := []
theorem k111_ok (l : Launch) : ckCtrOk l ckMT ckTW ckCL k111 := mt_46 (as := k111_a) (cs := k111_c) (gx := []) (f := 200000) rfl (fun _ h => absurd h List.not_mem_nil) True.intro (by decide +kernel)
-- FarMachineModel.set
noncomputable def k112 : ckCtr := (64, ([(0, (1, 0)), (1, (0, 0)), (2, (0, 1))], [], dC43, [(2, 2), (-2147483648, -1), (0, 0), (7, 7)], [([(7, (0, 0))], [], [])], [], [], [], 0, 0), [([], [(0, 4)], [(1, .inr (0, 3, 1))], [], [], [(-4, -4), (1, 1)], [([(4, (0, 0)), (5, (1, 1)), (7, (0, 0))], [(4, 5)], [])], [], [], [], 0, 0)], 2, 102, 0, 0)
noncomputable def k112_a : ckAs := []
noncomputable def k112_c : List (Nat × ckCtr) := [(83, k111), (156, k28)]
theorem k112_ok (l : Launch) : ckCtrOk l ckMT ckTW ckCL k112 := mt_64 (as := k112_a) (cs := k112_c) (gx := []) (f := 200000) rfl (ckHc (k111_ok l) (ckHc (k28_ok l) (fun _ h => absurd h List.not_mem_nil))) True.intro (by decide +kernel)
-- FarMachineModel.set
noncomputable def k113 : ckCtr := (64, ([(0, (1, 0)), (1, (0, 0)), (2, (0, 1))], [], dC43, [(3, 3), (-2147483648, -1), (0, 0), (7, 7)], [([(7, (0, 0))], [], [])], [], [], [], 0, 0), [([], [(0, 4)], [(1, .inr (0, 3, 1))], [], [], [(-4, -4), (1, 1)], [([(4, (0, 0)), (5, (1, 1)), (7, (0, 0))], [(4, 5)], [])], [], [], [], 0, 0)], 2, 102, 0, 0)
noncomputable def k113_a : ckAs := []
noncomputable def k113_c : List (Nat × ckCtr) := [(83, k111), (156, k28)]
theorem k113_ok (l : Launch) : ckCtrOk l ckMT ckTW ckCL k113 := mt_64 (as := k113_a) (cs := k113_c) (gx := []) (f := 200000) rfl (ckHc (k111_ok l) (ckHc (k28_ok l) (fun _ h => absurd h List.not_mem_nil))) True.intro (by decide +kernel)
-- FarMachineModel.within
noncomputable def k114 : ckCtr := (46, ([(0, (0, 0)), (1, (0, 1)), (2, (0, 2))], [], [], [(-2147483648, -1), (0, 0), (31, 31)], [], [], [], [], 0, 0), [([], [(0, 3)], [], [], [], [(-4, -4)], [], [], [], [], 0, 0)], 1, 80, 0, 0)
noncomputable def k114_a : ckAs := []
noncomputable def k114_c : List (Nat × ckCtr) := []
theorem k114_ok (l : Launch) : ckCtrOk l ckMT ckTW ckCL k114 := mt_46 (as := k114_a) (cs := k114_c) (gx := []) (f := 200000) rfl (fun _ h => absurd h List.not_mem_nil) True.intro (by decide +kernel)
-- FarMachineModel.set
noncomputable def k115 : ckCtr := (64, ([(0, (1, 0)), (1, (0, 0)), (2, (0, 1))], [], dC43, [(5, 5), (-2147483648, -1), (0, 0), (7, 7)], [([(7, (0, 0))], [], [])], [], [], [], 0, 0), [([], [(0, 4)], [(1, .inr (0, 3, 1))], [], [], [(-4, -4), (1, 1)], [([(4, (0, 0)), (5, (1, 1)), (7, (0, 0))], [(4, 5)], [])], [], [], [], 0, 0)], 2, 102, 0, 0)
noncomputable def k115_a : ckAs := []
noncomputable def k115_c : List (Nat × ckCtr) := [(106, k114), (156, k28)]
theorem k115_ok (l : Launch) : ckCtrOk l ckMT ckTW ckCL k115 := mt_64 (as := k115_a) (cs := k115_c) (gx := []) (f := 200000) rfl (ckHc (k114_ok l) (ckHc (k28_ok l) (fun _ h => absurd h List.not_mem_nil))) True.intro (by decide +kernel)
-- FarMachineModel.set
noncomputable def k116 : ckCtr := (64, ([(0, (1, 0)), (1, (0, 0)), (2, (0, 1))], [], dC43, [(6, 6), (-2147483648, -1), (0, 0), (7, 7)], [([(7, (0, 0))], [], [])], [], [], [], 0, 0), [([], [(0, 4)], [(1, .inr (0, 3, 1))], [], [], [(-4, -4), (1, 1)], [([(4, (0, 0)), (5, (1, 1)), (7, (0, 0))], [(4, 5)], [])], [], [], [], 0, 0)], 2, 102, 0, 0)
noncomputable def k116_a : ckAs := []
noncomputable def k116_c : List (Nat × ckCtr) := [(83, k111), (156, k28)]
theorem k116_ok (l : Launch) : ckCtrOk l ckMT ckTW ckCL k116 := mt_64 (as := k116_a) (cs := k116_c) (gx := []) (f := 200000) rfl (ckHc (k111_ok l) (ckHc (k28_ok l) (fun _ h => absurd h List.not_mem_nil))) True.intro (by decide +kernel)
-- FarMachineModel.within
noncomputable def k117 : ckCtr := (46, ([(0, (0, 0)), (1, (0, 1)), (2, (0, 2))], [], [], [(-2147483648, -1), (0, 0), (20, 20)], [], [], [], [], 0, 0), [([], [(0, 3)], [], [], [], [(-4, -4)], [], [], [], [], 0, 0)], 1, 80, 0, 0)
noncomputable def k117_a : ckAs := []
noncomputable def k117_c : List (Nat × ckCtr) := []
theorem k117_ok (l : Launch) : ckCtrOk l ckMT ckTW ckCL k117 := mt_46 (as := k117_a) (cs := k117_c) (gx := []) (f := 200000) rfl (fun _ h => absurd h List.not_mem_nil) True.intro (by decide +kernel)
-- FarMachineModel.set
noncomputable def k118 : ckCtr := (64, ([(0, (1, 0)), (1, (0, 0)), (2, (0, 1))], [], dC43, [(9, 9), (-2147483648, -1), (0, 0), (7, 7)], [([(7, (0, 0))], [], [])], [], [], [], 0, 0), [([], [(0, 4)], [(1, .inr (0, 3, 1))], [], [], [(-4, -4), (1, 1)], [([(4, (0, 0)), (5, (1, 1)), (7, (0, 0))], [(4, 5)], [])], [], [], [], 0, 0)], 2, 102, 0, 0)
noncomputable def k118_a : ckAs := []
noncomputable def k118_c : List (Nat × ckCtr) := [(140, k117), (156, k28)]
theorem k118_ok (l : Launch) : ckCtrOk l ckMT ckTW ckCL k118 := mt_64 (as := k118_a) (cs := k118_c) (gx := []) (f := 200000) rfl (ckHc (k117_ok l) (ckHc (k28_ok l) (fun _ h => absurd h List.not_mem_nil))) True.intro (by decide +kernel)
-- FarMachineModel.within
noncomputable def k119 : ckCtr := (46, ([(0, (0, 0)), (1, (0, 1)), (2, (0, 2))], [], [], [(-2147483648, 0), (1, 1), (99, 99)], [], [], [], [], 0, 0), [([], [(0, 3)], [], [], [], [(-4, -4)], [], [], [], [], 0, 0)], 1, 80, 0, 0)
noncomputable def k119_a : ckAs := []
noncomputable def k119_c : List (Nat × ckCtr) := []
theorem k119_ok (l : Launch) : ckCtrOk l ckMT ckTW ckCL k119 := mt_46 (as := k119_a) (cs := k119_c) (gx := []) (f := 200000) rfl (fun _ h => absurd h List.not_mem_nil) True.intro (by decide +kernel)
-- FarMachineModel.set
noncomputable def k120 : ckCtr := (64, ([(0, (1, 0)), (1, (0, 0)), (2, (0, 1))], [], dC105, [(7, 7), (-2147483648, 0), (0, 0)], [([(7, (0, 0))], [], [])], [], [], [], 0, 0), [([], [(0, 3)], [(1, .inr (0, 0, 1))], [], [], [(-4, -4), (1, 1)], [([(4, (0, 0)), (5, (1, 1)), (7, (0, 0))], [(4, 4)], [])], [], [], [], 0, 0)], 2, 102, 0, 0)
noncomputable def k120_a : ckAs := []
noncomputable def k120_c : List (Nat × ckCtr) := [(117, k119), (156, k28)]
theorem k120_ok (l : Launch) : ckCtrOk l ckMT ckTW ckCL k120 := mt_64 (as := k120_a) (cs := k120_c) (gx := []) (f := 200000) rfl (ckHc (k119_ok l) (ckHc (k28_ok l) (fun _ h => absurd h List.not_mem_nil))) True.intro (by decide +kernel)
-- FarMachineModel.within
noncomputable def k121 : ckCtr := (46, ([(0, (0, 0)), (1, (0, 1)), (2, (0, 2))], [], [], [(-2147483648, 0), (1, 1), (999, 999)], [], [], [], [], 0, 0), [([], [(0, 3)], [], [], [], [(-4, -4)], [], [], [], [], 0, 0)], 1, 80, 0, 0)
noncomputable def k121_a : ckAs := []
noncomputable def k121_c : List (Nat × ckCtr) := []
theorem k121_ok (l : Launch) : ckCtrOk l ckMT ckTW ckCL k121 := mt_46 (as := k121_a) (cs := k121_c) (gx := []) (f := 200000) rfl (fun _ h => absurd h List.not_mem_nil) True.intro (by decide +kernel)
-- FarMachineModel.set
noncomputable def k122 : ckCtr := (64, ([(0, (1, 0)), (1, (0, 0)), (2, (0, 1))], [], dC43, [(8, 8), (-2147483648, 0), (0, 0), (7, 7)], [([(7, (0, 0))], [], [])], [], [], [], 0, 0), [([], [(0, 4)], [(1, .inr (0, 3, 1))], [], [], [(-4, -4), (1, 1)], [([(4, (0, 0)), (5, (1, 1)), (7, (0, 0))], [(4, 5)], [])], [], [], [], 0, 0)], 2, 102, 0, 0)
noncomputable def k122_a : ckAs := []
noncomputable def k122_c : List (Nat × ckCtr) := [(129, k121), (156, k28)]
theorem k122_ok (l : Launch) : ckCtrOk l ckMT ckTW ckCL k122 := mt_64 (as := k122_a) (cs := k122_c) (gx := []) (f := 200000) rfl (ckHc (k121_ok l) (ckHc (k28_ok l) (fun _ h => absurd h List.not_mem_nil))) True.intro (by decide +kernel)
-- FarMachineModel.set
noncomputable def k123 : ckCtr := (64, ([(0, (1, 0)), (1, (0, 0)), (2, (0, 1))], [], dC43, [(10, 2147483647), ckTop, (0, 0), (7, 7)], [([(7, (0, 0))], [], [])], [], [], [], 0, 0), [([], [(0, 4)], [(1, .inr (0, 3, 1))], [], [], [(-2, -2), (1, 1)], [([(2, (0, 0)), (3, (1, 1)), (7, (0, 0))], [(2, 5)], [])], [], [], [], 0, 0)], 2, 101, 0, 0)
noncomputable def k123_a : ckAs := []
noncomputable def k123_c : List (Nat × ckCtr) := [(156, k48)]
theorem k123_ok (l : Launch) : ckCtrOk l ckMT ckTW ckCL k123 := mt_64 (as := k123_a) (cs := k123_c) (gx := []) (f := 200000) rfl (ckHc (k48_ok l) (fun _ h => absurd h List.not_mem_nil)) True.intro (by decide +kernel)
-- FarMachineModel.set
noncomputable def k124 : ckCtr := (64, ([(0, (1, 0)), (1, (0, 0)), (2, (0, 1))], [], dC43, [(-2147483648, -1), ckTop, (0, 0), (7, 7)], [([(7, (0, 0))], [], [])], [], [], [], 0, 0), [([], [(0, 4)], [(1, .inr (0, 3, 1))], [], [], [(-2, -2), (1, 1)], [([(2, (0, 0)), (3, (1, 1)), (7, (0, 0))], [(2, 5)], [])], [], [], [], 0, 0)], 2, 101, 0, 0)
noncomputable def k124_a : ckAs := []
noncomputable def k124_c : List (Nat × ckCtr) := [(156, k48)]
theorem k124_ok (l : Launch) : ckCtrOk l ckMT ckTW ckCL k124 := mt_64 (as := k124_a) (cs := k124_c) (gx := []) (f := 200000) rfl (ckHc (k48_ok l) (fun _ h => absurd h List.not_mem_nil)) True.intro (by decide +kernel)
noncomputable def dC107 : List ckC := [.inl (2, [(4, 10), (1, 1), (4, 11), (0, 0), (0, 0), (0, 0), (0, 1), (0, 2), (0, 0), (0, 0), (0, 3), (0, 4), (0, 5), (0, 6), (0, 0), (0, 0)]), .inr (0, 7, 0)]
noncomputable def dT108 : List ckI := [(0, 0), (50, 50), (60, 60), (10, 10), (24, 24), (200, 200), (9, 9), (8, 8)]
-- FarMachine$Machine.sumOf
noncomputable def k125 : ckCtr := (135, ([(0, (1, 0)), (1, (4, 0)), (2, (0, 0))], [], dC107, dT108, [([(8, (0, 0))], [], [])], [], [], [], 0, 0), [([], [(0, 0)], [], [], [], [], [], [], [], [], 0, 0)], 1, 80, 0, 0)
noncomputable def k125_a : ckAs := []
noncomputable def k125_c : List (Nat × ckCtr) := []
noncomputable def dT109 : List ckI := [(0, 0), (50, 50), (60, 60), (10, 10), (24, 24), (200, 200), (9, 9), (8, 8), (7, 7)]
noncomputable def k125_u0 : ckCut := (5, ([(0, (1, 0)), (1, (4, 0)), (2, (0, 0)), (3, (0, 0)), (4, (0, 8)), (5, (0, 0))], [], dC107, dT109, [([(8, (0, 0))], [], [])], [], [], [], 0, 0), 8, 1, 0, 0)
noncomputable def k125_g0 : List ckCut := [k125_u0]
theorem k125_t0 : ckRun es_135 k125_a k125_c [] 6 1 80 0 0 (ckEndF 1 0 0 k125.2.1 k125.2.2.1) ckKs ckKc 200000 0 5 k125_u0.2.1 [] = true := by decide +kernel
theorem k125_ok (l : Launch) : ckCtrOk l ckMT ckTW ckCL k125 := mt_135 (as := k125_a) (cs := k125_c) (gx := k125_g0) (f := 200000) rfl (fun _ h => absurd h List.not_mem_nil) ⟨k125_t0, True.intro⟩ (by decide +kernel)
-- FarMachine$Machine.sumOn
noncomputable def k126 : ckCtr := (134, ([(0, (1, 0)), (1, (4, 0))], [], dC107, dT108, [([(8, (0, 0))], [], [])], [], [], [], 0, 0), [([], [(0, 0)], [], [], [], [], [], [], [], [], 0, 0)], 2, 105, 0, 0)
noncomputable def k126_a : ckAs := []
noncomputable def k126_c : List (Nat × ckCtr) := [(6, k125)]
theorem k126_ok (l : Launch) : ckCtrOk l ckMT ckTW ckCL k126 := mt_134 (as := k126_a) (cs := k126_c) (gx := []) (f := 200000) rfl (ckHc (k125_ok l) (fun _ h => absurd h List.not_mem_nil)) True.intro (by decide +kernel)
-- FarMachine.refuseFar
noncomputable def k127 : ckCtr := (35, ([(0, (1, 0)), (1, (0, 0))], [], dC32, [(-2, -2), (0, 0), (7, 7)], [([(7, (0, 0))], [], [])], [], [], [], 0, 0), [([], [(0, 3)], [(1, .inr (0, 2, 1))], [], [], [(1002, 1002), (1, 1)], [([(2, (0, 0)), (3, (1, 1)), (7, (0, 0))], [(2, 4)], [])], [], [], [], 0, 0)], 2, 101, 0, 0)
noncomputable def k127_a : ckAs := []
noncomputable def k127_c : List (Nat × ckCtr) := [(5, k39)]
theorem k127_ok (l : Launch) : ckCtrOk l ckMT ckTW ckCL k127 := mt_35 (as := k127_a) (cs := k127_c) (gx := []) (f := 200000) rfl (ckHc (k39_ok l) (fun _ h => absurd h List.not_mem_nil)) True.intro (by decide +kernel)
noncomputable def dC110 : List ckC := [.inl (8, [(1, 1), (4, 10), (0, 1), (4, 11), (4, 12), (4, 13), (4, 14), (1, 2)]), .inl (7, [(1, 3), (4, 15), (0, 1), (4, 16), (4, 17), (4, 18), (4, 19), (4, 20), (4, 21), (4, 22)]), .inr (0, 2, 0), .inl (2, [(4, 23), (1, 4), (4, 24), (0, 1), (0, 1), (0, 1), (0, 3), (0, 4), (0, 1), (0, 1), (0, 5), (0, 6), (0, 7), (0, 8), (0, 1), (0, 1)]), .inr (0, 9, 1)]
noncomputable def dT111 : List ckI := [ckTop, (0, 0), (7, 7), (50, 50), (60, 60), (10, 10), (24, 24), (200, 200), (9, 9), (8, 8)]
-- FarMachine.state
noncomputable def k128 : ckCtr := (5, ([(0, (1, 0)), (1, (0, 0))], [], dC110, dT111, [([(7, (0, 0))], [], []), ([(8, (0, 0))], [], [])], [], [], [], 0, 0), [([], [(0, 10)], [(2, .inr (0, 2, 2))], [], [(0, (-2147483648, -1))], [(1002, 1002), (1, 1)], [([(2, (0, 0)), (3, (1, 1)), (7, (0, 0))], [(2, 11)], [])], [], [], [], 0, 0), ([], [(0, 10)], [(2, .inr (0, 2, 2))], [], [(0, (10, 2147483647))], [(1002, 1002), (1, 1)], [([(2, (0, 0)), (3, (1, 1)), (7, (0, 0))], [(2, 11)], [])], [], [], [], 0, 0), ([], [(0, 1)], [], [], [(0, (0, 0))], [], [], [], [], [], 0, 0), ([], [(0, 1)], [], [], [(0, (1, 1))], [], [], [], [], [], 0, 0), ([], [(0, 3)], [], [], [(0, (2, 2))], [], [], [], [], [], 0, 0), ([], [(0, 4)], [], [], [(0, (3, 3))], [], [], [], [], [], 0, 0), ([], [(0, 1)], [], [], [(0, (4, 4))], [], [], [], [], [], 0, 0), ([], [(0, 1)], [], [], [(0, (5, 5))], [], [], [], [], [], 0, 0), ([], [(0, 1)], [], [], [(0, (6, 6))], [], [], [], [], [], 0, 0), ([], [(0, 1)], [], [], [(0, (7, 7))], [], [], [], [], [], 0, 0), ([], [(0, 1)], [], [], [(0, (8, 8))], [], [], [], [], [], 0, 0), ([], [(0, 1)], [], [], [(0, (9, 9))], [], [], [], [], [], 0, 0)], 3, 126, 0, 0)
noncomputable def k128_a : ckAs := []
noncomputable def k128_c : List (Nat × ckCtr) := [(103, k126), (120, k127)]
theorem k128_ok (l : Launch) : ckCtrOk l ckMT ckTW ckCL k128 := mt_5 (as := k128_a) (cs := k128_c) (gx := []) (f := 200000) rfl (ckHc (k126_ok l) (ckHc (k127_ok l) (fun _ h => absurd h List.not_mem_nil))) True.intro (by decide +kernel)
-- FarMachineModel.isIn
noncomputable def k129 : ckCtr := (45, ([(0, (0, 0)), (1, (0, 1))], [], [], [(0, 0), (10, 10)], [], [], [], [], 0, 0), [([], [(0, 2)], [], [], [], [(1, 1)], [], [], [], [], 0, 0)], 1, 80, 0, 0)
noncomputable def k129_a : ckAs := []
noncomputable def k129_c : List (Nat × ckCtr) := []
theorem k129_ok (l : Launch) : ckCtrOk l ckMT ckTW ckCL k129 := mt_45 (as := k129_a) (cs := k129_c) (gx := []) (f := 200000) rfl (fun _ h => absurd h List.not_mem_nil) True.intro (by decide +kernel)
noncomputable def dC112 : List ckC := [.inl (9, [(4, 10), (1, 1), (4, 11), (4, 12), (4, 13), (4, 14), (4, 15), (4, 16), (4, 17), (4, 18), (4, 19), (4, 20), (4, 21), (4, 22), (4, 23), (4, 24), (0, 0), (0, 0), (0, 0), (0, 0), (0, 0), (0, 0), (0, 0), (4, 25), (0, 0), (4, 26), (0, 0), (0, 0), (0, 0), (0, 0), (4, 27), (0, 0), (0, 0), (0, 0), (0, 0), (4, 27), (1, 1), (0, 0), (4, 28), (4, 29), (0, 0), (0, 0)]), .inr (0, 1, 0)]
-- FarMachineModel.state
noncomputable def k130 : ckCtr := (65, ([(0, (1, 0)), (1, (0, 0))], [], dC112, [(0, 0), (318, 318)], dG40, [], [], [], 0, 0), [([], [(0, 0)], [], [], [], [], [], [], [], [], 0, 0)], 2, 101, 0, 0)
noncomputable def k130_a : ckAs := []
noncomputable def k130_c : List (Nat × ckCtr) := [(3, k129)]
theorem k130_ok (l : Launch) : ckCtrOk l ckMT ckTW ckCL k130 := mt_65 (as := k130_a) (cs := k130_c) (gx := []) (f := 200000) rfl (ckHc (k129_ok l) (fun _ h => absurd h List.not_mem_nil)) True.intro (by decide +kernel)
-- FarMachineModel.isIn
noncomputable def k131 : ckCtr := (45, ([(0, (0, 0)), (1, (0, 1))], [], [], [(1, 1), (10, 10)], [], [], [], [], 0, 0), [([], [(0, 0)], [], [], [], [], [], [], [], [], 0, 0)], 1, 80, 0, 0)
noncomputable def k131_a : ckAs := []
noncomputable def k131_c : List (Nat × ckCtr) := []
theorem k131_ok (l : Launch) : ckCtrOk l ckMT ckTW ckCL k131 := mt_45 (as := k131_a) (cs := k131_c) (gx := []) (f := 200000) rfl (fun _ h => absurd h List.not_mem_nil) True.intro (by decide +kernel)
-- FarMachineModel.state
noncomputable def k132 : ckCtr := (65, ([(0, (1, 0)), (1, (0, 0))], [], dC46, [(1, 1), (0, 0), (318, 318)], dG40, [], [], [], 0, 0), [([], [(0, 1)], [], [], [], [], [], [], [], [], 0, 0)], 2, 101, 0, 0)
noncomputable def k132_a : ckAs := []
noncomputable def k132_c : List (Nat × ckCtr) := [(3, k131)]
theorem k132_ok (l : Launch) : ckCtrOk l ckMT ckTW ckCL k132 := mt_65 (as := k132_a) (cs := k132_c) (gx := []) (f := 200000) rfl (ckHc (k131_ok l) (fun _ h => absurd h List.not_mem_nil)) True.intro (by decide +kernel)
-- FarMachineModel.isIn
noncomputable def k133 : ckCtr := (45, ([(0, (0, 0)), (1, (0, 1))], [], [], [(2, 2), (10, 10)], [], [], [], [], 0, 0), [([], [(0, 2)], [], [], [], [(1, 1)], [], [], [], [], 0, 0)], 1, 80, 0, 0)
noncomputable def k133_a : ckAs := []
noncomputable def k133_c : List (Nat × ckCtr) := []
theorem k133_ok (l : Launch) : ckCtrOk l ckMT ckTW ckCL k133 := mt_45 (as := k133_a) (cs := k133_c) (gx := []) (f := 200000) rfl (fun _ h => absurd h List.not_mem_nil) True.intro (by decide +kernel)
-- FarMachineModel.state
noncomputable def k134 : ckCtr := (65, ([(0, (1, 0)), (1, (0, 0))], [], dC46, [(2, 2), (0, 0), (318, 318)], dG40, [], [], [], 0, 0), [([], [(0, 3)], [], [], [], [(50, 50)], [], [], [], [], 0, 0)], 2, 101, 0, 0)
noncomputable def k134_a : ckAs := []
noncomputable def k134_c : List (Nat × ckCtr) := [(3, k133)]
theorem k134_ok (l : Launch) : ckCtrOk l ckMT ckTW ckCL k134 := mt_65 (as := k134_a) (cs := k134_c) (gx := []) (f := 200000) rfl (ckHc (k133_ok l) (fun _ h => absurd h List.not_mem_nil)) True.intro (by decide +kernel)
