/-! THE CHECKER: contracts with their certificates (printed by wip/gen2/p14gen.py) -/
-- FarMachine.refuseFar
noncomputable def k56 : ckCtr := (35, ([(0, (1, 0)), (1, (0, 0))], [], dC33, [(-4, -4), (0, 1), (7, 7)], [([(7, ckTop)], [], [])], [], [], [], 0, 0), [([], [(0, 3)], [(1, .inr (0, 2, 1))], [], [], [(1004, 1004), ckTop], [([(4, ckTop), (5, ckTop), (7, ckTop)], [(4, 4)], [])], [], [], [], 0, 0)], 2, 101, 0, 0)
noncomputable def k56_a : ckAs := []
noncomputable def k56_c : List (Nat × ckCtr) := [(5, k15)]
theorem k56_ok (l : Launch) : ckCtrOk l ckMT ckTW ckCL k56 := mt_35 (as := k56_a) (cs := k56_c) (gx := []) (f := 200000) rfl (ckHc (k15_ok l) (fun _ h => absurd h List.not_mem_nil)) True.intro (by decide +kernel)
-- FarMachine.refuseFar
noncomputable def k57 : ckCtr := (35, ([(0, (1, 0)), (1, (0, 0))], [], dC33, [(-6, -6), (0, 1), (7, 7)], [([(7, ckTop)], [], [])], [], [], [], 0, 0), [([], [(0, 3)], [(1, .inr (0, 2, 1))], [], [], [(1006, 1006), ckTop], [([(6, ckTop), (7, ckTop)], [(6, 4)], [])], [], [], [], 0, 0)], 2, 101, 0, 0)
noncomputable def k57_a : ckAs := []
noncomputable def k57_c : List (Nat × ckCtr) := [(5, k16)]
theorem k57_ok (l : Launch) : ckCtrOk l ckMT ckTW ckCL k57 := mt_35 (as := k57_a) (cs := k57_c) (gx := []) (f := 200000) rfl (ckHc (k16_ok l) (fun _ h => absurd h List.not_mem_nil)) True.intro (by decide +kernel)
noncomputable def dC84 : List ckC := [.inl (2, [(4, 10), (4, 11), (4, 12), (0, 1), (0, 2), (0, 3), (0, 4), (0, 5), (0, 6), (0, 7), (0, 8), (0, 9), (0, 10), (0, 11), (0, 12), (0, 13)])]
noncomputable def dT85 : List ckI := [ckTop, ckTop, ckTop, ckTop, ckTop, ckTop, ckTop, ckTop, ckTop, ckTop, ckTop, ckTop, ckTop, ckTop]
-- FarMachine$Machine.isOn
noncomputable def k58 : ckCtr := (131, ([(0, (1, 0)), (1, (0, 0))], [], dC84, dT85, [], [], [], [], 0, 0), [([], [(0, 14)], [], [], [], [(1, 1)], [], [], [], [], 0, 0), ([], [(0, 14)], [], [], [], [(0, 0)], [], [], [], [], 0, 0)], 1, 80, 0, 0)
noncomputable def k58_a : ckAs := []
noncomputable def k58_c : List (Nat × ckCtr) := []
theorem k58_ok (l : Launch) : ckCtrOk l ckMT ckTW ckCL k58 := mt_131 (as := k58_a) (cs := k58_c) (gx := []) (f := 200000) rfl (fun _ h => absurd h List.not_mem_nil) True.intro (by decide +kernel)
-- FarMachine$Machine.feelHeat
noncomputable def k59 : ckCtr := (142, ([(0, (1, 0))], [], dC79, dT80, [([(8, ckTop)], [], [])], [], [], [], 0, 0), [([], [(0, 14)], [], [], [], [ckTop], [], [], [], [], 0, 0)], 2, 101, 0, 0)
noncomputable def k59_a : ckAs := [(2, [(798748, [(1, 0, 0, ([(0, (1, 0)), (1, (0, 15))], [], [], [], [], [(0, 8)], [], [], [], [], 0, 0))])])]
noncomputable def k59_c : List (Nat × ckCtr) := [(13, k58), (36, k58)]
theorem k59_ok (l : Launch) : ckCtrOk l ckMT ckTW ckCL k59 := mt_142 (as := k59_a) (cs := k59_c) (gx := []) (f := 200000) rfl (ckHc (k58_ok l) (ckHc (k58_ok l) (fun _ h => absurd h List.not_mem_nil))) True.intro (by decide +kernel)
-- java/lang/Integer.bitCount
noncomputable def k60 : ckCtr := (193, ([(0, (0, 0))], [], [], [ckTop], [], [], [], [], 0, 0), [([], [(0, 1)], [], [], [], [(0, 63)], [], [], [], [], 0, 0)], 1, 80, 0, 0)
noncomputable def k60_a : ckAs := []
noncomputable def k60_c : List (Nat × ckCtr) := []
theorem k60_ok (l : Launch) : ckCtrOk l ckMT ckTW ckCL k60 := mt_193 (as := k60_a) (cs := k60_c) (gx := []) (f := 200000) rfl (fun _ h => absurd h List.not_mem_nil) True.intro (by decide +kernel)
noncomputable def dC86 : List ckC := [.inl (2, [(1, 1), (1, 2), (4, 10), (0, 1), (0, 2), (0, 3), (0, 4), (0, 5), (0, 6), (0, 7), (0, 8), (0, 9), (0, 10), (0, 11), (0, 12), (0, 13)]), .inr (0, 14, 0), .inr (0, 15, 1)]
noncomputable def dT87 : List ckI := [ckTop, ckTop, ckTop, ckTop, ckTop, ckTop, ckTop, ckTop, ckTop, ckTop, ckTop, ckTop, ckTop, ckTop, (48, 48), (8, 8)]
-- FarMachine$Machine.feel
noncomputable def k61 : ckCtr := (141, ([(0, (1, 0)), (1, (0, 0))], [], dC86, dT87, [([(48, ckTop)], [], []), ([(8, ckTop)], [], [])], [], [], [], 0, 0), [([], [(0, 16)], [], [], [], [ckTop], [], [], [], [], 0, 0)], 3, 126, 0, 0)
noncomputable def k61_a : ckAs := []
noncomputable def k61_c : List (Nat × ckCtr) := [(49, k59), (75, k60), (93, k48), (102, k17)]
theorem k61_ok (l : Launch) : ckCtrOk l ckMT ckTW ckCL k61 := mt_141 (as := k61_a) (cs := k61_c) (gx := []) (f := 200000) rfl (ckHc (k59_ok l) (ckHc (k60_ok l) (ckHc (k48_ok l) (ckHc (k17_ok l) (fun _ h => absurd h List.not_mem_nil))))) True.intro (by decide +kernel)
noncomputable def dC88 : List ckC := [.inl (8, [(1, 1), (4, 10), (0, 1), (4, 11), (4, 12), (4, 13), (4, 14), (1, 2)]), .inl (7, [(1, 3), (4, 15), (0, 2), (4, 16), (4, 17), (4, 18), (4, 19), (4, 20), (4, 21), (4, 22)]), .inr (0, 3, 0), .inl (2, [(1, 4), (1, 5), (4, 23), (0, 4), (0, 5), (0, 6), (0, 7), (0, 8), (0, 9), (0, 10), (0, 11), (0, 12), (0, 13), (0, 14), (0, 15), (0, 16)]), .inr (0, 17, 1), .inr (0, 18, 2)]
noncomputable def dT89 : List ckI := [ckTop, (0, 1), (0, 1), (7, 7), ckTop, ckTop, ckTop, ckTop, ckTop, ckTop, ckTop, ckTop, ckTop, ckTop, ckTop, ckTop, ckTop, (48, 48), (8, 8)]
noncomputable def dG90 : List ckG := [([(7, ckTop)], [], []), ([(48, ckTop)], [], []), ([(8, ckTop)], [], [])]
noncomputable def dG91 : List ckG := [([(4, ckTop), (5, ckTop), (6, ckTop), (7, ckTop)], [], [])]
-- FarMachine.felt
noncomputable def k62 : ckCtr := (6, ([(0, (1, 0)), (1, (0, 0))], [], dC88, dT89, dG90, [], [], [], 0, 0), [([], [(0, 19)], [(2, .inr (0, 3, 3))], [], [], [ckTop], dG91, [], [], [], 0, 0)], 4, 147, 0, 0)
noncomputable def k62_a : ckAs := []
noncomputable def k62_c : List (Nat × ckCtr) := [(7, k56), (20, k57), (34, k61)]
theorem k62_ok (l : Launch) : ckCtrOk l ckMT ckTW ckCL k62 := mt_6 (as := k62_a) (cs := k62_c) (gx := []) (f := 200000) rfl (ckHc (k56_ok l) (ckHc (k57_ok l) (ckHc (k61_ok l) (fun _ h => absurd h List.not_mem_nil)))) True.intro (by decide +kernel)
-- FarMachineModel.warmth
noncomputable def k63 : ckCtr := (54, ([(0, (1, 0))], [], [.inr (0, 0, 0)], [(318, 318), (1, 99), (0, 128000)], dG83, [], [], [(1, 0, 0, 0, [])], 0, 0), [([], [(0, 3)], [], [], [], [ckTop], [], [], [], [(1, 0, 0, 0, [])], 0, 0), ([], [(0, 3)], [], [], [], [(0, 0)], [], [], [], [(1, 0, 0, 0, [])], 0, 0)], 1, 80, 0, 0)
noncomputable def k63_a : ckAs := [(2, [(745899, [(1, 0, 0, ([(0, (1, 0)), (1, (0, 4))], [], [], [], [], [(0, 8)], [], [], [], [(1, 0, 0, 0, [])], 0, 0))])])]
noncomputable def k63_c : List (Nat × ckCtr) := []
theorem k63_ok (l : Launch) : ckCtrOk l ckMT ckTW ckCL k63 := mt_54 (as := k63_a) (cs := k63_c) (gx := []) (f := 200000) rfl (fun _ h => absurd h List.not_mem_nil) True.intro (by decide +kernel)
-- FarMachineModel.bits
noncomputable def k64 : ckCtr := (48, ([(0, (0, 0))], [], [], [ckTop], [], [], [], [], 0, 0), [([], [(0, 1)], [], [], [], [ckTop], [], [], [], [], 0, 0)], 1, 80, 0, 0)
noncomputable def k64_a : ckAs := [(4, [(404360, [(2, 0, 1, ([(0, (0, 0)), (1, (0, 2)), (2, (0, 3))], [], [], [], [], [ckTop, ckTop], [], [], [(3, 0, 0)], [], 0, 0))])])]
noncomputable def k64_c : List (Nat × ckCtr) := []
theorem k64_ok (l : Launch) : ckCtrOk l ckMT ckTW ckCL k64 := mt_48 (as := k64_a) (cs := k64_c) (gx := []) (f := 200000) rfl (fun _ h => absurd h List.not_mem_nil) True.intro (by decide +kernel)
noncomputable def dG92 : List ckG := [([(48, ckTop), (49, (0, 47)), (55, ckTop), (56, ckTop), (58, ckTop), (59, ckTop), (76, ckTop), (77, (0, 30)), (197, ckTop), (198, (0, 60)), (318, ckTop)], [(55, 2), (58, 3)], [])]
-- FarMachineModel.feels
noncomputable def k65 : ckCtr := (55, ([(0, (1, 0)), (1, (0, 0))], [], [.inr (0, 1, 0)], [(0, 31), (318, 318), (1, 99), (0, 128000)], dG92, [], [], [(1, 0, 0, 0, [])], 0, 0), [([], [(0, 4)], [], [], [], [ckTop], [], [], [], [(1, 0, 0, 0, [])], 0, 0)], 3, 122, 0, 0)
noncomputable def k65_a : ckAs := []
noncomputable def k65_c : List (Nat × ckCtr) := [(49, k63), (72, k54), (75, k64), (90, k53)]
theorem k65_ok (l : Launch) : ckCtrOk l ckMT ckTW ckCL k65 := mt_55 (as := k65_a) (cs := k65_c) (gx := []) (f := 200000) rfl (ckHc (k63_ok l) (ckHc (k54_ok l) (ckHc (k64_ok l) (ckHc (k53_ok l) (fun _ h => absurd h List.not_mem_nil))))) True.intro (by decide +kernel)
-- FarMachineModel.felt
noncomputable def k66 : ckCtr := (66, ([(0, (1, 0)), (1, (0, 0))], [], dC51, dT52, dG53, [], [], [(1, 1, 0, 0, [])], 0, 0), [([], [(0, 24)], [(1, .inr (0, 20, 2))], [], [], [ckTop], dG91, [], [], [(1, 1, 0, 0, [])], 0, 0)], 4, 143, 0, 0)
noncomputable def k66_a : ckAs := []
noncomputable def k66_c : List (Nat × ckCtr) := [(4, k42), (17, k23), (17, k24), (29, k65)]
theorem k66_ok (l : Launch) : ckCtrOk l ckMT ckTW ckCL k66 := mt_66 (as := k66_a) (cs := k66_c) (gx := []) (f := 200000) rfl (ckHc (k42_ok l) (ckHc (k23_ok l) (ckHc (k24_ok l) (ckHc (k65_ok l) (fun _ h => absurd h List.not_mem_nil))))) True.intro (by decide +kernel)
noncomputable def dC93 : List ckC := [.inl (1, [(1, 1), (4, 10), (4, 11), (4, 12), (0, 1)]), .inr (0, 2, 0)]
-- FarMachine$Commands.has
noncomputable def k67 : ckCtr := (119, ([(0, (1, 0)), (1, (0, 0))], [], dC93, [ckTop, ckTop, (30, 30)], [([(30, ckTop)], [], [])], [], [], [], 0, 0), [([], [(0, 3)], [], [], [(0, (0, 29)), (1, (1, 2147483647))], [(1, 1)], [], [], [(0, 1, (-1))], [], 0, 0), ([], [(0, 3)], [], [], [], [(0, 0)], [], [], [], [], 0, 0)], 1, 80, 0, 0)
noncomputable def k67_a : ckAs := []
noncomputable def k67_c : List (Nat × ckCtr) := []
theorem k67_ok (l : Launch) : ckCtrOk l ckMT ckTW ckCL k67 := mt_119 (as := k67_a) (cs := k67_c) (gx := []) (f := 200000) rfl (fun _ h => absurd h List.not_mem_nil) True.intro (by decide +kernel)
noncomputable def dC94 : List ckC := [.inl (1, [(1, 1), (4, 10), (4, 11), (1, 2), (0, 1)]), .inr (0, 2, 0), .inr (0, 2, 1)]
-- FarMachine$Commands.comesNow
noncomputable def k68 : ckCtr := (121, ([(0, (1, 0)), (1, (0, 0))], [], dC94, [ckTop, ckTop, (30, 30)], [([(30, ckTop)], [], []), ([(30, ckTop)], [], [])], [], [], [], 0, 0), [([], [(0, 3)], [], [], [], [(0, 0)], [], [], [], [], 0, 0), ([], [(0, 3)], [], [], [(0, (0, 29)), (1, (1, 2147483647))], [(1, 1)], [], [], [(0, 1, (-1))], [], 0, 0)], 2, 101, 0, 0)
noncomputable def k68_a : ckAs := []
noncomputable def k68_c : List (Nat × ckCtr) := [(2, k67)]
theorem k68_ok (l : Launch) : ckCtrOk l ckMT ckTW ckCL k68 := mt_121 (as := k68_a) (cs := k68_c) (gx := []) (f := 200000) rfl (ckHc (k67_ok l) (fun _ h => absurd h List.not_mem_nil)) True.intro (by decide +kernel)
noncomputable def dP95 : List (Nat × ckC) := [(0, .inl (2, [(4, 10), (4, 11), (4, 12), (0, 1), (0, 0), (0, 3), (0, 4), (0, 5), (0, 6), (0, 14), (0, 8), (0, 9), (0, 10), (0, 11), (0, 12), (0, 13)]))]
-- FarMachine$Machine.goTo
noncomputable def k69 : ckCtr := (129, ([(0, (1, 0)), (1, (0, 0))], [], dC84, dT85, [], [], [], [], 0, 0), [([], [], dP95, [], [], [(0, 0)], [], [], [], [], 0, 0)], 1, 80, 0, 0)
noncomputable def k69_a : ckAs := []
noncomputable def k69_c : List (Nat × ckCtr) := []
theorem k69_ok (l : Launch) : ckCtrOk l ckMT ckTW ckCL k69 := mt_129 (as := k69_a) (cs := k69_c) (gx := []) (f := 200000) rfl (fun _ h => absurd h List.not_mem_nil) True.intro (by decide +kernel)
noncomputable def dC96 : List ckC := [.inl (1, [(1, 2), (1, 3), (1, 4), (4, 10), (0, 1)]), .inl (2, [(1, 5), (4, 11), (1, 0), (0, 2), (0, 3), (0, 4), (0, 5), (0, 6), (0, 7), (0, 8), (0, 9), (0, 10), (0, 11), (0, 12), (0, 13), (0, 14)]), .inr (0, 15, 0), .inr (0, 15, 1), .inr (0, 15, 2), .inr (0, 16, 3)]
noncomputable def dT97 : List ckI := [ckTop, ckTop, ckTop, ckTop, ckTop, ckTop, ckTop, ckTop, ckTop, ckTop, ckTop, ckTop, ckTop, ckTop, ckTop, (30, 30), (48, 48)]
noncomputable def dG98 : List ckG := [([(30, ckTop)], [], []), ([(30, ckTop)], [], []), ([(30, ckTop)], [], []), ([(48, ckTop)], [], [])]
noncomputable def dP99 : List (Nat × ckC) := [(1, .inl (2, [(1, 5), (4, 11), (1, 0), (0, 2), (0, 17), (0, 4), (0, 5), (0, 6), (0, 7), (0, 18), (0, 9), (0, 10), (0, 11), (0, 12), (0, 13), (0, 14)])), (5, .inr (0, 16, 4))]
-- FarMachine$Commands.doTo
noncomputable def k70 : ckCtr := (122, ([(0, (1, 0)), (1, (1, 1)), (2, (0, 0))], [], dC96, dT97, dG98, [], [], [], 0, 0), [([], [], dP99, [], [], [ckTop, ckTop], [([(48, ckTop)], [], [])], [], [], [], 0, 0)], 3, 122, 0, 0)
noncomputable def k70_a : ckAs := []
noncomputable def k70_c : List (Nat × ckCtr) := [(2, k67), (30, k18), (38, k67), (61, k69)]
theorem k70_ok (l : Launch) : ckCtrOk l ckMT ckTW ckCL k70 := mt_122 (as := k70_a) (cs := k70_c) (gx := []) (f := 200000) rfl (ckHc (k67_ok l) (ckHc (k18_ok l) (ckHc (k67_ok l) (ckHc (k69_ok l) (fun _ h => absurd h List.not_mem_nil))))) True.intro (by decide +kernel)
noncomputable def dC100 : List ckC := [.inl (1, [(1, 1), (1, 2), (1, 3), (1, 4), (0, 4)]), .inr (0, 5, 0), .inr (0, 5, 1), .inr (0, 5, 2), .inr (0, 5, 3)]
noncomputable def dG101 : List ckG := [([(30, ckTop)], [], []), ([(30, ckTop)], [], []), ([(30, ckTop)], [], []), ([(30, ckTop)], [], [])]
noncomputable def dP102 : List (Nat × ckC) := [(0, .inl (1, [(1, 1), (1, 2), (1, 3), (1, 4), (0, 6)])), (1, .inr (0, 5, 4)), (2, .inr (0, 5, 5)), (3, .inr (0, 5, 6)), (4, .inr (0, 5, 7))]
-- FarMachine$Commands.add
noncomputable def k71 : ckCtr := (120, ([(0, (1, 0)), (1, (0, 0)), (2, (0, 1)), (3, (0, 2)), (4, (0, 3))], [], dC100, [ckTop, ckTop, ckTop, ckTop, ckTop, (30, 30)], dG101, [], [], [], 0, 0), [([], [], dP102, [], [(4, (0, 29))], [(1, 30)], dG101, [], [(4, 6, (-1)), (6, 4, 1)], [], 0, 0), ([], [], [], [], [(4, (30, 2147483647))], [], [], [], [], [], 0, 0), ([], [], [], [], [(4, (-2147483648, -1))], [], [], [], [], [], 0, 0)], 1, 80, 0, 0)
noncomputable def k71_a : ckAs := []
noncomputable def k71_c : List (Nat × ckCtr) := []
theorem k71_ok (l : Launch) : ckCtrOk l ckMT ckTW ckCL k71 := mt_120 (as := k71_a) (cs := k71_c) (gx := []) (f := 200000) rfl (fun _ h => absurd h List.not_mem_nil) True.intro (by decide +kernel)
noncomputable def dC103 : List ckC := [.inl (1, [(1, 1), (1, 2), (1, 3), (1, 4), (0, 0)]), .inr (0, 1, 0), .inr (0, 1, 1), .inr (0, 1, 2), .inr (0, 1, 3)]
noncomputable def dP104 : List (Nat × ckC) := [(0, .inl (1, [(1, 1), (1, 2), (1, 3), (1, 4), (0, 3)])), (1, .inr (0, 1, 4)), (2, .inr (0, 1, 5)), (3, .inr (0, 1, 6)), (4, .inr (0, 1, 7))]
noncomputable def dP105 : List (Nat × ckC) := [(0, .inl (1, [(1, 1), (1, 2), (1, 3), (1, 4), (0, 6)])), (1, .inr (0, 1, 4)), (2, .inr (0, 1, 5)), (3, .inr (0, 1, 6)), (4, .inr (0, 1, 7))]
-- FarMachine$Commands.passHour
noncomputable def k72 : ckCtr := (123, ([(0, (1, 0))], [], dC103, [ckTop, (30, 30)], dG101, [], [], [], 0, 0), [([], [(0, 2)], dP104, [], [], [ckTop, (0, 30)], dG101, [], [], [], 0, 0)], 2, 104, 0, 0)
noncomputable def k72_a : ckAs := [(20, [(709030, [(1, 0, 0, ([(0, (1, 0)), (1, (0, 2)), (2, (0, 5))], [], dP105, [], [], [(0, 30), (0, 30)], dG101, [], [(2, 0, 0), (6, 5, 0)], [], 0, 0))])])]
noncomputable def k72_c : List (Nat × ckCtr) := [(61, k71)]
theorem k72_ok (l : Launch) : ckCtrOk l ckMT ckTW ckCL k72 := mt_123 (as := k72_a) (cs := k72_c) (gx := []) (f := 200000) rfl (ckHc (k71_ok l) (fun _ h => absurd h List.not_mem_nil)) True.intro (by decide +kernel)
noncomputable def dC106 : List ckC := [.inl (2, [(1, 1), (4, 10), (1, 2), (0, 0), (0, 1), (0, 2), (0, 3), (0, 4), (0, 5), (0, 6), (0, 7), (0, 8), (0, 9), (0, 10), (0, 11), (0, 12)]), .inr (0, 13, 0), .inl (1, [(1, 3), (1, 4), (1, 5), (1, 6), (0, 14)]), .inr (0, 15, 1), .inr (0, 15, 2), .inr (0, 15, 3), .inr (0, 15, 4)]
noncomputable def dT107 : List ckI := [ckTop, ckTop, ckTop, ckTop, ckTop, ckTop, ckTop, ckTop, ckTop, ckTop, ckTop, ckTop, ckTop, (48, 48), ckTop, (30, 30)]
noncomputable def dG108 : List ckG := [([(48, ckTop)], [], []), ([(30, ckTop)], [], []), ([(30, ckTop)], [], []), ([(30, ckTop)], [], []), ([(30, ckTop)], [], [])]
noncomputable def dP109 : List (Nat × ckC) := [(0, .inl (2, [(1, 1), (4, 10), (1, 2), (0, 0), (0, 17), (0, 2), (0, 3), (0, 4), (0, 5), (0, 18), (0, 7), (0, 8), (0, 9), (0, 10), (0, 11), (0, 12)])), (1, .inr (0, 13, 5)), (2, .inl (1, [(1, 3), (1, 4), (1, 5), (1, 6), (0, 19)])), (3, .inr (0, 15, 6)), (4, .inr (0, 15, 7)), (5, .inr (0, 15, 8)), (6, .inr (0, 15, 9))]
noncomputable def dP110 : List (Nat × ckC) := [(0, .inl (2, [(1, 1), (4, 10), (1, 2), (0, 0), (0, 18), (0, 2), (0, 3), (0, 4), (0, 5), (0, 19), (0, 7), (0, 8), (0, 9), (0, 10), (0, 11), (0, 12)])), (1, .inr (0, 13, 5))]
-- FarMachine$Machine.receive
noncomputable def k73 : ckCtr := (138, ([(0, (1, 0))], [], dC106, dT107, dG108, [], [], [], 0, 0), [([], [(0, 16)], dP109, [], [], [(1, 1), ckTop, ckTop, (0, 30)], dG108, [], [], [], 0, 0), ([], [(0, 16)], dP109, [], [], [(0, 0), ckTop, ckTop, (0, 30)], dG108, [], [], [], 0, 0)], 4, 144, 0, 0)
noncomputable def k73_a : ckAs := [(2, [(784582, [(1, 0, 0, ([(0, (1, 0)), (1, (0, 17))], [], dP110, [], [], [(0, 2147483647), ckTop, ckTop], [([(48, ckTop)], [], [])], [], [], [], 0, 0))])])]
noncomputable def k73_c : List (Nat × ckCtr) := [(18, k68), (30, k70), (43, k72)]
theorem k73_ok (l : Launch) : ckCtrOk l ckMT ckTW ckCL k73 := mt_138 (as := k73_a) (cs := k73_c) (gx := []) (f := 200000) rfl (ckHc (k68_ok l) (ckHc (k70_ok l) (ckHc (k72_ok l) (fun _ h => absurd h List.not_mem_nil)))) True.intro (by decide +kernel)
-- FarMachine.held
noncomputable def k74 : ckCtr := (41, ([(0, (0, 0)), (1, (0, 1)), (2, (0, 2))], [], [], [ckTop, ckTop, (127, 127)], [], [], [], [], 0, 0), [([], [(0, 3)], [], [], [], [ckTop], [], [], [(0, 3, 0)], [], 0, 0)], 1, 80, 0, 0)
noncomputable def k74_a : ckAs := []
noncomputable def k74_c : List (Nat × ckCtr) := []
theorem k74_ok (l : Launch) : ckCtrOk l ckMT ckTW ckCL k74 := mt_41 (as := k74_a) (cs := k74_c) (gx := []) (f := 200000) rfl (fun _ h => absurd h List.not_mem_nil) True.intro (by decide +kernel)
-- FarMachine$Machine.hasOn
noncomputable def k75 : ckCtr := (133, ([(0, (1, 0)), (1, (0, 0))], [], dC77, dT78, [([(8, ckTop)], [], [])], [], [], [], 0, 0), [([], [(0, 15)], [], [], [], [(1, 1)], [], [], [], [], 0, 0), ([], [(0, 15)], [], [], [], [(0, 0)], [], [], [], [], 0, 0)], 2, 101, 0, 0)
noncomputable def k75_a : ckAs := [(2, [(950973, [(1, 0, 0, ([(0, (1, 0)), (1, (0, 0)), (2, (0, 16))], [], [], [], [], [(0, 8)], [], [], [], [], 0, 0))])])]
noncomputable def k75_c : List (Nat × ckCtr) := [(13, k58)]
theorem k75_ok (l : Launch) : ckCtrOk l ckMT ckTW ckCL k75 := mt_133 (as := k75_a) (cs := k75_c) (gx := []) (f := 200000) rfl (ckHc (k58_ok l) (fun _ h => absurd h List.not_mem_nil)) True.intro (by decide +kernel)
-- FarMachine.held
noncomputable def k76 : ckCtr := (41, ([(0, (0, 0)), (1, (0, 1)), (2, (0, 2))], [], [], [ckTop, ckTop, (20, 20)], [], [], [], [], 0, 0), [([], [(0, 3)], [], [], [], [ckTop], [], [], [(0, 3, 0)], [], 0, 0)], 1, 80, 0, 0)
noncomputable def k76_a : ckAs := []
noncomputable def k76_c : List (Nat × ckCtr) := []
theorem k76_ok (l : Launch) : ckCtrOk l ckMT ckTW ckCL k76 := mt_41 (as := k76_a) (cs := k76_c) (gx := []) (f := 200000) rfl (fun _ h => absurd h List.not_mem_nil) True.intro (by decide +kernel)
noncomputable def dP111 : List (Nat × ckC) := [(0, .inl (2, [(4, 10), (1, 1), (4, 11), (0, 1), (0, 2), (0, 3), (0, 4), (0, 15), (0, 16), (0, 7), (0, 8), (0, 9), (0, 10), (0, 11), (0, 12), (0, 13)]))]
-- FarMachine$Machine.turnDish
noncomputable def k77 : ckCtr := (140, ([(0, (1, 0)), (1, (0, 0))], [], dC77, dT78, [([(8, ckTop)], [], [])], [], [], [], 0, 0), [([], [], dP111, [], [], [ckTop, ckTop], [], [], [], [], 0, 0), ([], [], [], [], [(5, (-2147483648, 2147483646))], [], [], [], [], [], 0, 0)], 3, 123, 0, 0)
noncomputable def k77_a : ckAs := []
noncomputable def k77_c : List (Nat × ckCtr) := [(7, k75), (32, k76)]
theorem k77_ok (l : Launch) : ckCtrOk l ckMT ckTW ckCL k77 := mt_140 (as := k77_a) (cs := k77_c) (gx := []) (f := 200000) rfl (ckHc (k75_ok l) (ckHc (k76_ok l) (fun _ h => absurd h List.not_mem_nil))) True.intro (by decide +kernel)
-- FarMachine$Machine.isAimed
noncomputable def k78 : ckCtr := (136, ([(0, (0, 0))], [], [], [ckTop], [], [], [], [], 0, 0), [([], [(0, 1)], [], [], [(0, (-2, 2))], [(1, 1)], [], [], [], [], 0, 0), ([], [(0, 1)], [], [], [], [(0, 0)], [], [], [], [], 0, 0)], 1, 80, 0, 0)
noncomputable def k78_a : ckAs := []
noncomputable def k78_c : List (Nat × ckCtr) := []
theorem k78_ok (l : Launch) : ckCtrOk l ckMT ckTW ckCL k78 := mt_136 (as := k78_a) (cs := k78_c) (gx := []) (f := 200000) rfl (fun _ h => absurd h List.not_mem_nil) True.intro (by decide +kernel)
noncomputable def dC112 : List ckC := [.inl (2, [(1, 1), (1, 2), (4, 10), (0, 0), (0, 1), (0, 2), (0, 3), (0, 4), (0, 5), (0, 6), (0, 7), (0, 8), (0, 9), (0, 10), (0, 11), (0, 12)]), .inr (0, 13, 0), .inr (0, 14, 1)]
noncomputable def dT113 : List ckI := [ckTop, ckTop, ckTop, ckTop, ckTop, ckTop, ckTop, ckTop, ckTop, ckTop, ckTop, ckTop, ckTop, (48, 48), (8, 8)]
noncomputable def dP114 : List (Nat × ckC) := [(0, .inl (2, [(1, 1), (1, 2), (4, 10), (0, 16), (0, 17), (0, 18), (0, 3), (0, 19), (0, 20), (0, 21), (0, 7), (0, 8), (0, 9), (0, 10), (0, 11), (0, 12)]))]
noncomputable def dP115 : List (Nat × ckC) := [(0, .inl (2, [(1, 1), (1, 2), (4, 10), (0, 0), (0, 16), (0, 2), (0, 3), (0, 4), (0, 5), (0, 6), (0, 7), (0, 8), (0, 9), (0, 10), (0, 11), (0, 12)]))]
-- FarMachine$Machine.act
noncomputable def k79 : ckCtr := (139, ([(0, (1, 0))], [], dC112, dT113, [([(48, ckTop)], [], []), ([(8, ckTop)], [], [])], [], [], [], 0, 0), [([], [(0, 15)], dP114, [], [], [(1000, 1000), ckTop, ckTop, ckTop, ckTop, ckTop, ckTop], [], [], [(1, 17, 47), (17, 1, 31)], [], 0, 0), ([], [(0, 15)], dP115, [], [(1, (0, 47)), (5, (-2, 2))], [ckTop, (0, 47)], [], [], [(16, 1, 1)], [], 0, 0)], 4, 147, 0, 0)
noncomputable def k79_a : ckAs := []
noncomputable def k79_c : List (Nat × ckCtr) := [(5, k17), (127, k74), (153, k29), (164, k77), (189, k61), (200, k75), (210, k78), (218, k61)]
theorem k79_ok (l : Launch) : ckCtrOk l ckMT ckTW ckCL k79 := mt_139 (as := k79_a) (cs := k79_c) (gx := []) (f := 200000) rfl (ckHc (k17_ok l) (ckHc (k74_ok l) (ckHc (k29_ok l) (ckHc (k77_ok l) (ckHc (k61_ok l) (ckHc (k75_ok l) (ckHc (k78_ok l) (ckHc (k61_ok l) (fun _ h => absurd h List.not_mem_nil))))))))) True.intro (by decide +kernel)
-- FarMachine$Machine.sumOf
noncomputable def k80 : ckCtr := (135, ([(0, (1, 0)), (1, (4, 1)), (2, (0, 0))], [], dC77, dT78, [([(8, ckTop)], [], [])], [], [], [], 0, 0), [([], [(0, 15)], [], [], [], [ckTop], [], [], [], [], 0, 0)], 1, 80, 0, 0)
noncomputable def k80_a : ckAs := [(5, [(297720, [(1, 0, 1, ([(0, (1, 0)), (1, (4, 1)), (2, (0, 0)), (3, (0, 17)), (4, (0, 18))], [], [], [], [], [ckTop, (0, 8)], [], [], [], [], 0, 0))])])]
noncomputable def k80_c : List (Nat × ckCtr) := []
theorem k80_ok (l : Launch) : ckCtrOk l ckMT ckTW ckCL k80 := mt_135 (as := k80_a) (cs := k80_c) (gx := []) (f := 200000) rfl (fun _ h => absurd h List.not_mem_nil) True.intro (by decide +kernel)
-- FarMachine$Machine.sumOn
noncomputable def k81 : ckCtr := (134, ([(0, (1, 0)), (1, (4, 1))], [], dC79, dT80, [([(8, ckTop)], [], [])], [], [], [], 0, 0), [([], [(0, 14)], [], [], [], [ckTop], [], [], [], [], 0, 0)], 2, 105, 0, 0)
noncomputable def k81_a : ckAs := []
noncomputable def k81_c : List (Nat × ckCtr) := [(6, k80)]
theorem k81_ok (l : Launch) : ckCtrOk l ckMT ckTW ckCL k81 := mt_134 (as := k81_a) (cs := k81_c) (gx := []) (f := 200000) rfl (ckHc (k80_ok l) (fun _ h => absurd h List.not_mem_nil)) True.intro (by decide +kernel)
-- FarMachine.held
noncomputable def k82 : ckCtr := (41, ([(0, (0, 0)), (1, (0, 1)), (2, (0, 2))], [], [], [ckTop, ckTop, (99, 99)], [], [], [], [], 0, 0), [([], [(0, 3)], [], [], [], [ckTop], [], [], [(0, 3, 0)], [], 0, 0)], 1, 80, 0, 0)
noncomputable def k82_a : ckAs := []
noncomputable def k82_c : List (Nat × ckCtr) := []
theorem k82_ok (l : Launch) : ckCtrOk l ckMT ckTW ckCL k82 := mt_41 (as := k82_a) (cs := k82_c) (gx := []) (f := 200000) rfl (fun _ h => absurd h List.not_mem_nil) True.intro (by decide +kernel)
-- FarMachine$Machine.heatAfter
noncomputable def k83 : ckCtr := (143, ([(0, (1, 0)), (1, (0, 0))], [], dC77, dT78, [([(8, ckTop)], [], [])], [], [], [], 0, 0), [([], [(0, 15)], [], [], [], [(0, 2147483647)], [], [], [], [], 0, 0)], 3, 126, 0, 0)
noncomputable def k83_a : ckAs := []
noncomputable def k83_c : List (Nat × ckCtr) := [(6, k81), (14, k82)]
theorem k83_ok (l : Launch) : ckCtrOk l ckMT ckTW ckCL k83 := mt_143 (as := k83_a) (cs := k83_c) (gx := []) (f := 200000) rfl (ckHc (k81_ok l) (ckHc (k82_ok l) (fun _ h => absurd h List.not_mem_nil))) True.intro (by decide +kernel)
noncomputable def dP116 : List (Nat × ckC) := [(0, .inl (2, [(4, 10), (1, 1), (4, 11), (0, 14), (0, 1), (0, 2), (0, 15), (0, 4), (0, 5), (0, 6), (0, 7), (0, 8), (0, 9), (0, 10), (0, 11), (0, 12)]))]
noncomputable def dP117 : List (Nat × ckC) := [(0, .inl (2, [(4, 10), (1, 1), (4, 11), (0, 17), (0, 1), (0, 2), (0, 14), (0, 4), (0, 5), (0, 6), (0, 7), (0, 8), (0, 9), (0, 10), (0, 11), (0, 12)]))]
-- FarMachine$Machine.changeHeat
noncomputable def k84 : ckCtr := (144, ([(0, (1, 0))], [], dC79, dT80, [([(8, ckTop)], [], [])], [], [], [], 0, 0), [([], [], dP116, [], [], [ckTop, (0, 2147483647)], [], [], [], [], 0, 0)], 4, 147, 0, 0)
noncomputable def k84_a : ckAs := [(25, [(804446, [(1, 0, 0, ([(0, (1, 0)), (1, (0, 16))], [], dP117, [], [], [(0, 8), ckTop], [], [], [(14, 7, (-1))], [], 0, 0))])])]
noncomputable def k84_c : List (Nat × ckCtr) := [(6, k83), (58, k29)]
theorem k84_ok (l : Launch) : ckCtrOk l ckMT ckTW ckCL k84 := mt_144 (as := k84_a) (cs := k84_c) (gx := []) (f := 200000) rfl (ckHc (k83_ok l) (ckHc (k29_ok l) (fun _ h => absurd h List.not_mem_nil))) True.intro (by decide +kernel)
noncomputable def dC118 : List ckC := [.inl (2, [(4, 10), (4, 11), (4, 12), (0, 0), (0, 1), (0, 2), (0, 3), (0, 4), (0, 5), (0, 6), (0, 7), (0, 8), (0, 9), (0, 10), (0, 11), (0, 12)])]
noncomputable def dP119 : List (Nat × ckC) := [(0, .inl (2, [(4, 10), (4, 11), (4, 12), (0, 0), (0, 1), (0, 2), (0, 3), (0, 4), (0, 13), (0, 6), (0, 7), (0, 8), (0, 9), (0, 10), (0, 11), (0, 12)]))]
-- FarMachine$Machine.driftDish
noncomputable def k85 : ckCtr := (145, ([(0, (1, 0))], [], dC118, dT3, [], [], [], [], 0, 0), [([], [], dP119, [], [], [ckTop], [], [], [], [], 0, 0)], 1, 80, 0, 0)
noncomputable def k85_a : ckAs := []
noncomputable def k85_c : List (Nat × ckCtr) := []
theorem k85_ok (l : Launch) : ckCtrOk l ckMT ckTW ckCL k85 := mt_145 (as := k85_a) (cs := k85_c) (gx := []) (f := 200000) rfl (fun _ h => absurd h List.not_mem_nil) True.intro (by decide +kernel)
noncomputable def dT120 : List ckI := [(0, 1), ckTop, ckTop, ckTop, ckTop, ckTop, ckTop, ckTop, ckTop, ckTop, ckTop, ckTop, ckTop, ckTop]
noncomputable def dP121 : List (Nat × ckC) := [(0, .inl (2, [(4, 10), (4, 11), (4, 12), (0, 1), (0, 14), (0, 3), (0, 4), (0, 5), (0, 6), (0, 15), (0, 8), (0, 9), (0, 10), (0, 11), (0, 12), (0, 16)]))]
-- FarMachine$Machine.countSilence
noncomputable def k86 : ckCtr := (146, ([(0, (1, 0)), (1, (0, 0))], [], dC84, dT120, [], [], [], [], 0, 0), [([], [], dP121, [], [], [ckTop, ckTop, (-2147483648, 2147483646)], [], [], [], [], 0, 0)], 2, 101, 0, 0)
noncomputable def k86_a : ckAs := []
noncomputable def k86_c : List (Nat × ckCtr) := [(32, k69)]
theorem k86_ok (l : Launch) : ckCtrOk l ckMT ckTW ckCL k86 := mt_146 (as := k86_a) (cs := k86_c) (gx := []) (f := 200000) rfl (ckHc (k69_ok l) (fun _ h => absurd h List.not_mem_nil)) True.intro (by decide +kernel)
noncomputable def dC122 : List ckC := [.inl (2, [(1, 1), (1, 2), (1, 3), (0, 0), (0, 1), (0, 2), (0, 3), (0, 4), (0, 5), (0, 6), (0, 7), (0, 8), (0, 9), (0, 10), (0, 11), (0, 12)]), .inr (0, 13, 0), .inr (0, 14, 1), .inl (1, [(1, 4), (1, 5), (1, 6), (1, 7), (0, 15)]), .inr (0, 16, 2), .inr (0, 16, 3), .inr (0, 16, 4), .inr (0, 16, 5)]
noncomputable def dT123 : List ckI := [ckTop, ckTop, ckTop, ckTop, ckTop, ckTop, ckTop, ckTop, ckTop, ckTop, ckTop, ckTop, ckTop, (48, 48), (8, 8), ckTop, (30, 30)]
noncomputable def dG124 : List ckG := [([(48, ckTop)], [], []), ([(8, ckTop)], [], []), ([(30, ckTop)], [], []), ([(30, ckTop)], [], []), ([(30, ckTop)], [], []), ([(30, ckTop)], [], [])]
noncomputable def dP125 : List (Nat × ckC) := [(0, .inl (2, [(1, 1), (1, 2), (1, 3), (0, 18), (0, 19), (0, 20), (0, 21), (0, 22), (0, 23), (0, 24), (0, 7), (0, 8), (0, 9), (0, 10), (0, 25), (0, 26)])), (1, .inr (0, 13, 6)), (3, .inl (1, [(1, 4), (1, 5), (1, 6), (1, 7), (0, 27)])), (4, .inr (0, 16, 7)), (5, .inr (0, 16, 8)), (6, .inr (0, 16, 9)), (7, .inr (0, 16, 10))]
noncomputable def dT126 : List ckI := [ckTop, ckTop, ckTop, ckTop, (0, 2147483647), ckTop, ckTop, ckTop, (-2147483648, 2000), (-2147483648, 2147483646), (0, 30)]
-- FarMachine$Machine.passHour
noncomputable def k87 : ckCtr := (137, ([(0, (1, 0))], [], dC122, dT123, dG124, [], [], [], 0, 0), [([], [(0, 17)], dP125, [], [], dT126, dG108, [], [], [], 0, 0)], 5, 171, 0, 0)
noncomputable def k87_a : ckAs := []
noncomputable def k87_c : List (Nat × ckCtr) := [(1, k73), (30, k79), (35, k84), (39, k85), (44, k86)]
theorem k87_ok (l : Launch) : ckCtrOk l ckMT ckTW ckCL k87 := mt_137 (as := k87_a) (cs := k87_c) (gx := []) (f := 200000) rfl (ckHc (k73_ok l) (ckHc (k79_ok l) (ckHc (k84_ok l) (ckHc (k85_ok l) (ckHc (k86_ok l) (fun _ h => absurd h List.not_mem_nil)))))) True.intro (by decide +kernel)
-- FarMachine$Bytes.add
noncomputable def k88 : ckCtr := (114, ([(0, (1, 0)), (1, (0, 0))], [], [.inl (0, [(1, 1), (0, 1)]), .inr (0, 2, 0)], [ckTop, ckTop, (60, 60)], [([(60, ckTop)], [], [])], [], [], [], 0, 0), [([], [], [(0, .inl (0, [(1, 1), (0, 3)])), (1, .inr (0, 2, 1))], [], [(1, (0, 59))], [(1, 60)], [([(60, ckTop)], [], [])], [], [(1, 3, (-1)), (3, 1, 1)], [], 0, 0), ([], [], [], [], [(1, (60, 2147483647))], [], [], [], [], [], 0, 0), ([], [], [], [], [(1, (-2147483648, -1))], [], [], [], [], [], 0, 0)], 1, 80, 0, 0)
noncomputable def k88_a : ckAs := []
noncomputable def k88_c : List (Nat × ckCtr) := []
theorem k88_ok (l : Launch) : ckCtrOk l ckMT ckTW ckCL k88 := mt_114 (as := k88_a) (cs := k88_c) (gx := []) (f := 200000) rfl (fun _ h => absurd h List.not_mem_nil) True.intro (by decide +kernel)
noncomputable def dC127 : List ckC := [.inl (7, [(1, 1), (4, 10), (0, 0), (1, 2), (1, 3), (4, 11), (4, 12), (4, 13), (4, 14), (4, 15)]), .inl (2, [(1, 4), (1, 5), (1, 6), (0, 1), (0, 2), (0, 3), (0, 4), (0, 5), (0, 6), (0, 7), (0, 8), (0, 9), (0, 10), (0, 11), (0, 12), (0, 13)]), .inl (0, [(1, 7), (0, 14)]), .inl (0, [(1, 8), (0, 15)]), .inr (0, 16, 0), .inr (0, 17, 1), .inl (1, [(1, 9), (1, 10), (1, 11), (1, 12), (0, 18)]), .inr (0, 19, 2), .inr (0, 19, 3), .inr (0, 20, 4), .inr (0, 20, 5), .inr (0, 20, 6), .inr (0, 20, 7)]
noncomputable def dT128 : List ckI := [(0, 1), ckTop, ckTop, ckTop, ckTop, ckTop, ckTop, ckTop, ckTop, ckTop, ckTop, ckTop, ckTop, ckTop, ckTop, ckTop, (48, 48), (8, 8), ckTop, (60, 60), (30, 30)]
noncomputable def dG129 : List ckG := [([(48, ckTop)], [], []), ([(8, ckTop)], [], []), ([(60, ckTop)], [], []), ([(60, ckTop)], [], []), ([(30, ckTop)], [], []), ([(30, ckTop)], [], []), ([(30, ckTop)], [], []), ([(30, ckTop)], [], [])]
noncomputable def dP130 : List (Nat × ckC) := [(1, .inl (2, [(1, 4), (1, 5), (1, 6), (0, 21), (0, 22), (0, 23), (0, 24), (0, 25), (0, 26), (0, 27), (0, 8), (0, 9), (0, 10), (0, 11), (0, 28), (0, 29)])), (2, .inl (0, [(1, 7), (0, 30)])), (3, .inl (0, [(1, 8), (0, 31)])), (4, .inr (0, 16, 8)), (6, .inl (1, [(1, 9), (1, 10), (1, 11), (1, 12), (0, 32)])), (7, .inr (0, 19, 9)), (8, .inr (0, 19, 10)), (9, .inr (0, 20, 11)), (10, .inr (0, 20, 12)), (11, .inr (0, 20, 13)), (12, .inr (0, 20, 14))]
noncomputable def dT131 : List ckI := [ckTop, ckTop, ckTop, (0, 2147483647), ckTop, ckTop, ckTop, (-2147483648, 2000), (-2147483648, 2147483646), ckTop, ckTop, (0, 30)]
noncomputable def dG132 : List ckG := [([(48, ckTop)], [], []), ([(60, ckTop)], [], []), ([(60, ckTop)], [], []), ([(30, ckTop)], [], []), ([(30, ckTop)], [], []), ([(30, ckTop)], [], []), ([(30, ckTop)], [], [])]
-- FarMachine$World.passHour
noncomputable def k89 : ckCtr := (184, ([(0, (1, 0))], [], dC127, dT128, dG129, [], [], [], 0, 0), [([], [], dP130, [], [], dT131, dG132, [], [(14, 30, 0), (15, 31, 0), (30, 14, 1), (31, 15, 1)], [], 0, 0)], 6, 193, 0, 0)
noncomputable def k89_a : ckAs := []
noncomputable def k89_c : List (Nat × ckCtr) := [(20, k87), (36, k88), (44, k88)]
theorem k89_ok (l : Launch) : ckCtrOk l ckMT ckTW ckCL k89 := mt_184 (as := k89_a) (cs := k89_c) (gx := []) (f := 200000) rfl (ckHc (k87_ok l) (ckHc (k88_ok l) (ckHc (k88_ok l) (fun _ h => absurd h List.not_mem_nil)))) True.intro (by decide +kernel)
noncomputable def dC133 : List ckC := [.inl (8, [(1, 1), (4, 10), (0, 1), (4, 11), (4, 12), (4, 13), (4, 14), (1, 2)]), .inl (7, [(1, 3), (4, 15), (0, 2), (1, 4), (1, 5), (4, 16), (4, 17), (4, 18), (4, 19), (4, 20)]), .inr (0, 3, 0), .inl (2, [(1, 6), (1, 7), (1, 8), (0, 4), (0, 5), (0, 6), (0, 7), (0, 8), (0, 9), (0, 10), (0, 11), (0, 12), (0, 13), (0, 14), (0, 15), (0, 16)]), .inl (0, [(1, 9), (0, 17)]), .inl (0, [(1, 10), (0, 18)]), .inr (0, 19, 1), .inr (0, 20, 2), .inl (1, [(1, 11), (1, 12), (1, 13), (1, 14), (0, 21)]), .inr (0, 22, 3), .inr (0, 22, 4), .inr (0, 23, 5), .inr (0, 23, 6), .inr (0, 23, 7), .inr (0, 23, 8)]
noncomputable def dT134 : List ckI := [ckTop, (0, 1), (0, 1), (7, 7), ckTop, ckTop, ckTop, ckTop, ckTop, ckTop, ckTop, ckTop, ckTop, ckTop, ckTop, ckTop, ckTop, ckTop, ckTop, (48, 48), (8, 8), ckTop, (60, 60), (30, 30)]
noncomputable def dG135 : List ckG := [([(7, ckTop)], [], []), ([(48, ckTop)], [], []), ([(8, ckTop)], [], []), ([(60, ckTop)], [], []), ([(60, ckTop)], [], []), ([(30, ckTop)], [], []), ([(30, ckTop)], [], []), ([(30, ckTop)], [], []), ([(30, ckTop)], [], [])]
noncomputable def dP136 : List (Nat × ckC) := [(2, .inr (0, 3, 9)), (3, .inl (2, [(1, 6), (1, 7), (1, 8), (0, 25), (0, 26), (0, 27), (0, 28), (0, 29), (0, 30), (0, 31), (0, 11), (0, 12), (0, 13), (0, 14), (0, 32), (0, 33)])), (4, .inl (0, [(1, 9), (0, 34)])), (5, .inl (0, [(1, 10), (0, 35)])), (6, .inr (0, 19, 10)), (8, .inl (1, [(1, 11), (1, 12), (1, 13), (1, 14), (0, 36)])), (9, .inr (0, 22, 11)), (10, .inr (0, 22, 12)), (11, .inr (0, 23, 13)), (12, .inr (0, 23, 14)), (13, .inr (0, 23, 15)), (14, .inr (0, 23, 16))]
noncomputable def dG137 : List ckG := [([(4, ckTop), (5, ckTop), (6, ckTop), (7, ckTop)], [], []), ([(48, ckTop)], [], []), ([(60, ckTop)], [], []), ([(60, ckTop)], [], []), ([(30, ckTop)], [], []), ([(30, ckTop)], [], []), ([(30, ckTop)], [], []), ([(30, ckTop)], [], [])]
noncomputable def dP138 : List (Nat × ckC) := [(3, .inl (2, [(1, 6), (1, 7), (1, 8), (0, 28), (0, 29), (0, 30), (0, 31), (0, 32), (0, 33), (0, 34), (0, 11), (0, 12), (0, 13), (0, 14), (0, 35), (0, 36)])), (4, .inl (0, [(1, 9), (0, 37)])), (5, .inl (0, [(1, 10), (0, 38)])), (6, .inr (0, 19, 9)), (8, .inl (1, [(1, 11), (1, 12), (1, 13), (1, 14), (0, 39)])), (9, .inr (0, 22, 10)), (10, .inr (0, 22, 11)), (11, .inr (0, 23, 12)), (12, .inr (0, 23, 13)), (13, .inr (0, 23, 14)), (14, .inr (0, 23, 15))]
noncomputable def dT139 : List ckI := [(0, 2000), ckTop, ckTop, ckTop, ckTop, ckTop, ckTop, ckTop, ckTop, ckTop, ckTop, ckTop, ckTop]
-- FarMachine.hours
noncomputable def k90 : ckCtr := (7, ([(0, (1, 0)), (1, (0, 0))], [], dC133, dT134, dG135, [], [], [], 0, 0), [([], [(0, 24)], dP136, [], [], dT3, dG137, [], [(17, 34, 0), (18, 35, 0)], [], 0, 0)], 7, 215, 0, 0)
noncomputable def k90_a : ckAs := [(28, [(74611, [(1, 0, 0, ([(0, (1, 0)), (1, (0, 0)), (2, (0, 27))], [], dP138, [], [], dT139, dG132, [], [(17, 37, 0), (18, 38, 0), (27, 0, 0)], [], 0, 0))])])]
noncomputable def k90_c : List (Nat × ckCtr) := [(8, k15), (22, k16), (37, k89)]
theorem k90_ok (l : Launch) : ckCtrOk l ckMT ckTW ckCL k90 := mt_7 (as := k90_a) (cs := k90_c) (gx := []) (f := 200000) rfl (ckHc (k15_ok l) (ckHc (k16_ok l) (ckHc (k89_ok l) (fun _ h => absurd h List.not_mem_nil)))) True.intro (by decide +kernel)
noncomputable def dG140 : List ckG := [([(48, ckTop), (49, (0, 47)), (55, ckTop), (56, ckTop), (58, ckTop), (59, ckTop), (76, ckTop), (77, (0, 30)), (197, ckTop), (198, (0, 60)), (318, ckTop)], [(55, 4), (58, 5)], [])]
noncomputable def dG141 : List ckG := [([(48, ckTop), (49, (0, 47)), (53, ckTop), (54, (0, 0)), (55, ckTop), (56, ckTop), (58, ckTop), (59, ckTop), (76, ckTop), (77, (0, 30)), (197, ckTop), (198, (0, 60)), (318, ckTop)], [(48, 2), (53, 6), (55, 4), (58, 5)], [])]
-- FarMachineModel.told
noncomputable def k91 : ckCtr := (58, ([(0, (1, 0)), (1, (0, 0)), (2, (0, 1)), (3, (0, 2))], [], [.inr (0, 3, 0)], [ckTop, ckTop, ckTop, (318, 318), (1, 99), (0, 128000)], dG140, [], [], [(0, 0, 2, 0, [1, 0, 47]), (0, 0, 1, 0, [0, 0, 47]), (1, 0, 0, 0, [])], 0, 0), [([], [], [(0, .inr (0, 3, 1))], [], [(0, (0, 0)), (1, (0, 47))], [], dG140, [], [], [(1, 1, 0, 0, []), (0, 0, 2, 0, [1, 0, 47]), (0, 0, 1, 0, [0, 0, 47]), (1, 0, 0, 0, [])], 0, 0), ([], [], [], [], [], [], [], [], [], [(0, 0, 2, 0, [1, 0, 47]), (0, 0, 1, 0, [0, 0, 47]), (1, 0, 0, 0, [])], 0, 0), ([], [], [(0, .inr (0, 3, 1))], [], [(0, (1, 1)), (2, (0, 47))], [(0, 0)], dG141, [], [], [(1, 1, 0, 0, []), (0, 0, 2, 0, [1, 0, 47]), (0, 0, 1, 0, [0, 0, 47]), (1, 0, 0, 0, [])], 0, 0)], 1, 80, 0, 0)
noncomputable def k91_a : ckAs := [(4, [(354189, [(5, 0, 0, ([], [], [], [], [], [], [], [], [], [(0, 0, 0, 0, [0, 1, 0, 0, 47])], 0, 0))])]), (14, [(868776, [(5, 0, 0, ([], [], [], [], [], [], [], [], [], [(0, 0, 0, 0, [0, 2, 1, 0, 47])], 0, 0))])])]
noncomputable def k91_c : List (Nat × ckCtr) := []
theorem k91_ok (l : Launch) : ckCtrOk l ckMT ckTW ckCL k91 := mt_58 (as := k91_a) (cs := k91_c) (gx := []) (f := 200000) rfl (fun _ h => absurd h List.not_mem_nil) True.intro (by decide +kernel)
noncomputable def dG142 : List ckG := [([(48, ckTop), (49, (0, 47)), (53, ckTop), (54, ckTop), (55, ckTop), (56, ckTop), (58, ckTop), (59, ckTop), (76, ckTop), (77, (0, 30)), (78, ckTop), (79, ckTop), (80, ckTop), (81, ckTop), (197, ckTop), (198, (0, 60)), (318, ckTop)], [(55, 1), (58, 2), (76, 4)], [])]
noncomputable def dG143 : List ckG := [([(48, ckTop), (49, (0, 47)), (53, ckTop), (54, ckTop), (55, ckTop), (56, ckTop), (58, ckTop), (59, ckTop), (76, ckTop), (77, (0, 30)), (78, ckTop), (79, ckTop), (80, ckTop), (81, ckTop), (197, ckTop), (198, (0, 60)), (318, ckTop)], [(55, 1), (58, 2)], [])]
-- FarMachineModel.comes
noncomputable def k92 : ckCtr := (59, ([(0, (1, 0))], [], [.inr (0, 0, 0)], [(318, 318), (1, 99), (0, 128000)], dG83, [], [], [(1, 0, 0, 0, [])], 0, 0), [([], [(0, 3)], [(0, .inr (0, 0, 1))], [], [], [(0, 1), (0, 30)], dG142, [], [], [(1, 1, 0, 0, []), (1, 0, 0, 0, [])], 0, 0)], 2, 103, 0, 0)
noncomputable def k92_a : ckAs := [(6, [(971417, [(1, 0, 2, ([(0, (1, 0)), (1, (0, 6)), (2, (0, 7)), (3, (0, 8))], [], [(0, .inr (0, 0, 1))], [], [], [(0, 30), (0, 1), (0, 30)], dG143, [], [(6, 8, 0), (7, 8, 0)], [(1, 0, 0, 0, []), (1, 1, 0, 0, [])], 0, 0))])]), (52, [(533358, [(4, 3, 0, ([], [], [], [], [], [], [], [], [], [(0, 0, 0, 0, [8, 13, 12, 14, 11, 14, 0, 21, 20, 1, 19, 22])], 0, 0)), (4, 4, 0, ([], [], [], [], [], [], [], [], [], [(0, 0, 0, 0, [8, 13, 12, 14, 11, 14, 0, 24, 23, 1, 19, 25])], 0, 0))])]), (93, [(91432, [(4, 1, 0, ([], [], [], [], [], [], [], [], [], [(0, 0, 0, 0, [6, 23, 22, 24, 21, 25, 19, 27, 32, 31, 33, 30, 34, 28, 36, 41, 40, 42, 39, 43, 37, 45, 1, 2, 3, 4, 0, 8, 13, 12, 14, 11, 26, 19, 35, 28, 44, 37])], 0, 0)), (4, 2, 0, ([], [], [], [], [], [], [], [], [], [(0, 0, 0, 0, [6, 50, 49, 51, 48, 52, 46, 4, 5, 54])], 0, 0))])])]
noncomputable def k92_c : List (Nat × ckCtr) := [(52, k91)]
theorem k92_ok (l : Launch) : ckCtrOk l ckMT ckTW ckCL k92 := mt_59 (as := k92_a) (cs := k92_c) (gx := []) (f := 200000) rfl (ckHc (k91_ok l) (fun _ h => absurd h List.not_mem_nil)) True.intro (by decide +kernel)
-- FarMachineModel.held
noncomputable def k93 : ckCtr := (47, ([(0, (0, 0)), (1, (0, 1)), (2, (0, 2))], [], [], [ckTop, (-128, -128), (127, 127)], [], [], [], [], 0, 0), [([], [(0, 3)], [], [], [], [(-128, 127)], [], [], [], [], 0, 0)], 1, 80, 0, 0)
noncomputable def k93_a : ckAs := []
noncomputable def k93_c : List (Nat × ckCtr) := []
theorem k93_ok (l : Launch) : ckCtrOk l ckMT ckTW ckCL k93 := mt_47 (as := k93_a) (cs := k93_c) (gx := []) (f := 200000) rfl (fun _ h => absurd h List.not_mem_nil) True.intro (by decide +kernel)
-- FarMachineModel.has
noncomputable def k94 : ckCtr := (53, ([(0, (1, 0)), (1, (0, 0))], [], [.inr (0, 1, 0)], [(5, 5), (318, 318), (1, 99), (0, 128000)], dG92, [], [], [(1, 0, 0, 0, [])], 0, 0), [([], [(0, 4)], [], [], [], [(1, 1)], [], [], [], [(1, 0, 0, 0, [])], 0, 0), ([], [(0, 4)], [], [], [], [(0, 0)], [], [], [], [(1, 0, 0, 0, [])], 0, 0)], 1, 80, 0, 0)
noncomputable def k94_a : ckAs := [(2, [(143261, [(1, 0, 0, ([(0, (1, 0)), (1, (0, 0)), (2, (0, 5))], [], [], [], [], [(0, 8)], [], [], [], [(1, 0, 0, 0, [])], 0, 0))])])]
noncomputable def k94_c : List (Nat × ckCtr) := []
theorem k94_ok (l : Launch) : ckCtrOk l ckMT ckTW ckCL k94 := mt_53 (as := k94_a) (cs := k94_c) (gx := []) (f := 200000) rfl (fun _ h => absurd h List.not_mem_nil) True.intro (by decide +kernel)
-- FarMachineModel.held
noncomputable def k95 : ckCtr := (47, ([(0, (0, 0)), (1, (0, 1)), (2, (0, 2))], [], [], [ckTop, (-20, -20), (20, 20)], [], [], [], [], 0, 0), [([], [(0, 3)], [], [], [], [(-20, 20)], [], [], [], [], 0, 0)], 1, 80, 0, 0)
noncomputable def k95_a : ckAs := []
noncomputable def k95_c : List (Nat × ckCtr) := []
theorem k95_ok (l : Launch) : ckCtrOk l ckMT ckTW ckCL k95 := mt_47 (as := k95_a) (cs := k95_c) (gx := []) (f := 200000) rfl (fun _ h => absurd h List.not_mem_nil) True.intro (by decide +kernel)
-- FarMachineModel.feels
noncomputable def k96 : ckCtr := (55, ([(0, (1, 0)), (1, (0, 0))], [], [.inr (0, 1, 0)], [(0, 15), (318, 318), (1, 99), (0, 128000)], dG92, [], [], [(1, 0, 0, 0, [])], 0, 0), [([], [(0, 4)], [], [], [], [ckTop], [], [], [], [(1, 0, 0, 0, [])], 0, 0)], 3, 122, 0, 0)
noncomputable def k96_a : ckAs := []
noncomputable def k96_c : List (Nat × ckCtr) := [(49, k63), (72, k54), (75, k64), (90, k53)]
theorem k96_ok (l : Launch) : ckCtrOk l ckMT ckTW ckCL k96 := mt_55 (as := k96_a) (cs := k96_c) (gx := []) (f := 200000) rfl (ckHc (k63_ok l) (ckHc (k54_ok l) (ckHc (k64_ok l) (ckHc (k53_ok l) (fun _ h => absurd h List.not_mem_nil))))) True.intro (by decide +kernel)
-- FarMachineModel.feels
noncomputable def k97 : ckCtr := (55, ([(0, (1, 0)), (1, (0, 0))], [], [.inr (0, 1, 0)], [(16, 31), (318, 318), (1, 99), (0, 128000)], dG92, [], [], [(1, 0, 0, 0, [])], 0, 0), [([], [(0, 4)], [], [], [], [ckTop], [], [], [], [(1, 0, 0, 0, [])], 0, 0)], 1, 80, 0, 0)
noncomputable def k97_a : ckAs := []
noncomputable def k97_c : List (Nat × ckCtr) := []
theorem k97_ok (l : Launch) : ckCtrOk l ckMT ckTW ckCL k97 := mt_55 (as := k97_a) (cs := k97_c) (gx := []) (f := 200000) rfl (fun _ h => absurd h List.not_mem_nil) True.intro (by decide +kernel)
-- FarMachineModel.has
noncomputable def k98 : ckCtr := (53, ([(0, (1, 0)), (1, (0, 0))], [], [.inr (0, 1, 0)], [(1, 1), (318, 318), (1, 99), (0, 128000)], dG92, [], [], [(1, 0, 0, 0, [])], 0, 0), [([], [(0, 0)], [], [], [], [], [], [], [], [(1, 0, 0, 0, [])], 0, 0), ([], [(0, 4)], [], [], [], [(0, 0)], [], [], [], [(1, 0, 0, 0, [])], 0, 0)], 1, 80, 0, 0)
noncomputable def k98_a : ckAs := [(2, [(590679, [(1, 0, 0, ([(0, (1, 0)), (1, (0, 0)), (2, (0, 5))], [], [], [], [], [(0, 8)], [], [], [], [(1, 0, 0, 0, [])], 0, 0))])])]
noncomputable def k98_c : List (Nat × ckCtr) := []
theorem k98_ok (l : Launch) : ckCtrOk l ckMT ckTW ckCL k98 := mt_53 (as := k98_a) (cs := k98_c) (gx := []) (f := 200000) rfl (fun _ h => absurd h List.not_mem_nil) True.intro (by decide +kernel)
noncomputable def dC144 : List ckC := [.inl (9, [(4, 10), (1, 1), (4, 11), (4, 12), (4, 13), (4, 14), (4, 15), (4, 16), (4, 17), (4, 18), (4, 19), (4, 20), (4, 21), (4, 22), (4, 23), (4, 24), (0, 1), (0, 2), (0, 3), (0, 4), (0, 5), (0, 6), (0, 7), (1, 2), (0, 8), (4, 25), (0, 9), (0, 10), (0, 11), (0, 12), (4, 26), (0, 13), (0, 14), (0, 15), (0, 16), (5, 0), (5, 0), (0, 17), (4, 27), (4, 28), (0, 18), (0, 19)]), .inr (0, 20, 0), .inr (0, 21, 1)]
noncomputable def dT145 : List ckI := [ckTop, (0, 1), (0, 1), ckTop, ckTop, ckTop, ckTop, ckTop, (0, 130000), ckTop, ckTop, ckTop, ckTop, ckTop, ckTop, ckTop, ckTop, (0, 1), ckTop, (0, 1), (318, 318), (64, 64), (1, 99), (0, 128000)]
noncomputable def dG146 : List ckG := [([(48, ckTop), (49, (0, 47)), (55, ckTop), (56, ckTop), (58, ckTop), (59, ckTop), (76, ckTop), (77, (0, 30)), (197, ckTop), (198, (0, 60)), (318, ckTop)], [(55, 22), (58, 23)], []), ([(64, ckTop)], [], [])]
noncomputable def dP147 : List (Nat × ckC) := [(0, .inl (9, [(4, 10), (1, 1), (4, 11), (4, 12), (4, 13), (4, 14), (4, 15), (4, 16), (4, 17), (4, 18), (4, 19), (4, 20), (4, 21), (4, 22), (4, 23), (4, 24), (0, 1), (0, 2), (0, 3), (0, 4), (0, 5), (0, 6), (0, 7), (1, 2), (0, 24), (4, 25), (0, 9), (0, 10), (0, 11), (0, 12), (4, 26), (0, 13), (0, 14), (0, 15), (0, 16), (5, 0), (5, 0), (0, 17), (4, 27), (4, 28), (0, 18), (0, 19)])), (1, .inr (0, 20, 2)), (2, .inr (0, 21, 3))]
noncomputable def dG148 : List ckG := [([(48, ckTop), (49, (0, 47)), (55, ckTop), (56, ckTop), (58, ckTop), (59, ckTop), (76, ckTop), (77, (0, 30)), (197, ckTop), (198, (0, 60)), (318, ckTop)], [(55, 22), (58, 23), (197, 25)], []), ([(64, ckTop)], [], [])]
-- FarMachineModel.sends
noncomputable def k99 : ckCtr := (56, ([(0, (1, 0)), (1, (1, 1)), (2, (0, 0))], [], dC144, dT145, dG146, [], [], [(1, 0, 0, 0, [])], 0, 0), [([], [], dP147, [], [], [(1, 130001), (1, 60)], dG148, [], [(8, 24, (-1)), (24, 8, 1)], [(1, 0, 0, 0, []), (1, 2, 0, 0, [])], 0, 0)], 1, 80, 0, 0)
noncomputable def k99_a : ckAs := []
noncomputable def k99_c : List (Nat × ckCtr) := []
theorem k99_ok (l : Launch) : ckCtrOk l ckMT ckTW ckCL k99 := mt_56 (as := k99_a) (cs := k99_c) (gx := []) (f := 200000) rfl (fun _ h => absurd h List.not_mem_nil) True.intro (by decide +kernel)
noncomputable def dC149 : List ckC := [.inl (9, [(4, 10), (1, 1), (4, 11), (4, 12), (4, 13), (4, 14), (4, 15), (4, 16), (4, 17), (4, 18), (4, 19), (4, 20), (4, 21), (4, 22), (4, 23), (4, 24), (0, 0), (0, 1), (0, 2), (0, 3), (0, 4), (0, 5), (0, 6), (1, 2), (0, 7), (4, 25), (0, 8), (0, 9), (0, 10), (0, 11), (4, 26), (0, 12), (0, 13), (0, 14), (0, 15), (5, 0), (5, 0), (0, 16), (4, 27), (4, 28), (0, 17), (0, 18)]), .inr (0, 19, 0), .inr (0, 20, 1)]
noncomputable def dT150 : List ckI := [(0, 1), (0, 1), ckTop, ckTop, ckTop, ckTop, ckTop, (0, 130000), ckTop, ckTop, ckTop, ckTop, ckTop, ckTop, ckTop, ckTop, (0, 1), ckTop, (0, 1), (318, 318), (64, 64), (1, 99), (0, 128000)]
noncomputable def dG151 : List ckG := [([(48, ckTop), (49, (0, 47)), (55, ckTop), (56, ckTop), (58, ckTop), (59, ckTop), (76, ckTop), (77, (0, 30)), (197, ckTop), (198, (0, 60)), (318, ckTop)], [(55, 21), (58, 22)], []), ([(64, ckTop)], [], [])]
noncomputable def dP152 : List (Nat × ckC) := [(0, .inl (9, [(4, 10), (1, 1), (4, 11), (4, 12), (4, 13), (4, 14), (4, 15), (4, 16), (4, 17), (4, 18), (4, 19), (4, 20), (4, 21), (4, 22), (4, 23), (4, 24), (0, 0), (0, 1), (0, 2), (0, 3), (0, 4), (0, 5), (0, 6), (1, 2), (0, 24), (4, 25), (0, 8), (0, 9), (0, 10), (0, 11), (4, 26), (0, 12), (0, 13), (0, 14), (0, 15), (5, 0), (5, 0), (0, 16), (4, 27), (4, 28), (0, 17), (0, 18)])), (1, .inr (0, 19, 2)), (2, .inr (0, 20, 3))]
noncomputable def dG153 : List ckG := [([(48, ckTop), (49, (0, 47)), (50, ckTop), (51, ckTop), (52, ckTop), (53, ckTop), (54, ckTop), (55, ckTop), (56, ckTop), (58, ckTop), (59, ckTop), (76, ckTop), (77, (0, 30)), (197, ckTop), (198, (0, 60)), (318, ckTop)], [(55, 21), (58, 22)], []), ([(64, ckTop)], [], [])]
-- FarMachineModel.does
noncomputable def k100 : ckCtr := (57, ([(0, (1, 0)), (1, (1, 1))], [], dC149, dT150, dG151, [], [], [(1, 0, 0, 0, [])], 0, 0), [([], [(0, 23)], dP152, [], [], [(0, 1), (0, 130001)], dG153, [], [(7, 24, 0), (24, 7, 1), (24, 23, 130000)], [(1, 0, 0, 0, []), (1, 2, 0, 0, [])], 0, 0)], 4, 143, 0, 0)
noncomputable def k100_a : ckAs := []
noncomputable def k100_c : List (Nat × ckCtr) := [(118, k93), (151, k94), (183, k95), (218, k96), (218, k97), (226, k98), (253, k96), (253, k97), (256, k99)]
theorem k100_ok (l : Launch) : ckCtrOk l ckMT ckTW ckCL k100 := mt_57 (as := k100_a) (cs := k100_c) (gx := []) (f := 200000) rfl (ckHc (k93_ok l) (ckHc (k94_ok l) (ckHc (k95_ok l) (ckHc (k96_ok l) (ckHc (k97_ok l) (ckHc (k98_ok l) (ckHc (k96_ok l) (ckHc (k97_ok l) (ckHc (k99_ok l) (fun _ h => absurd h List.not_mem_nil)))))))))) True.intro (by decide +kernel)
-- FarMachineModel.warms
noncomputable def k101 : ckCtr := (51, ([(0, (1, 0))], [], [.inr (0, 0, 0)], [(318, 318), (1, 99), (0, 128000)], dG83, [], [], [(1, 0, 0, 0, [])], 0, 0), [([], [(0, 3)], [], [], [], [ckTop], [], [], [], [(1, 0, 0, 0, [])], 0, 0)], 1, 80, 0, 0)
noncomputable def k101_a : ckAs := [(4, [(940447, [(1, 0, 1, ([(0, (1, 0)), (1, (0, 5)), (2, (0, 6))], [], [], [], [], [ckTop, (0, 8)], [], [], [], [(1, 0, 0, 0, [])], 0, 0))])])]
noncomputable def k101_c : List (Nat × ckCtr) := []
theorem k101_ok (l : Launch) : ckCtrOk l ckMT ckTW ckCL k101 := mt_51 (as := k101_a) (cs := k101_c) (gx := []) (f := 200000) rfl (fun _ h => absurd h List.not_mem_nil) True.intro (by decide +kernel)
-- FarMachineModel.held
noncomputable def k102 : ckCtr := (47, ([(0, (0, 0)), (1, (0, 1)), (2, (0, 2))], [], [], [ckTop, (0, 0), (99, 99)], [], [], [], [], 0, 0), [([], [(0, 3)], [], [], [], [(0, 99)], [], [], [], [], 0, 0)], 1, 80, 0, 0)
noncomputable def k102_a : ckAs := []
noncomputable def k102_c : List (Nat × ckCtr) := []
theorem k102_ok (l : Launch) : ckCtrOk l ckMT ckTW ckCL k102 := mt_47 (as := k102_a) (cs := k102_c) (gx := []) (f := 200000) rfl (fun _ h => absurd h List.not_mem_nil) True.intro (by decide +kernel)
noncomputable def dP154 : List (Nat × ckC) := [(0, .inl (9, [(4, 10), (1, 1), (4, 11), (4, 12), (4, 13), (4, 14), (4, 15), (4, 16), (4, 17), (4, 18), (4, 19), (4, 20), (4, 21), (4, 22), (4, 23), (4, 24), (0, 0), (0, 1), (0, 2), (0, 3), (0, 4), (0, 5), (0, 6), (1, 2), (0, 23), (4, 25), (0, 8), (0, 9), (0, 10), (0, 11), (4, 26), (0, 12), (0, 13), (0, 14), (0, 15), (5, 0), (5, 0), (0, 16), (4, 27), (4, 28), (0, 17), (0, 18)])), (1, .inr (0, 19, 2)), (2, .inr (0, 20, 3))]
noncomputable def dT155 : List ckI := [(0, 130001), (1, 128001), (-2147483648, 2147483646), (0, 99)]
noncomputable def dG156 : List ckG := [([(48, ckTop), (49, (0, 47)), (50, ckTop), (51, (0, 99)), (52, ckTop), (53, ckTop), (54, ckTop), (55, ckTop), (56, ckTop), (58, ckTop), (59, (1, 128001)), (60, ckTop), (68, ckTop), (69, ckTop), (76, ckTop), (77, (0, 30)), (78, ckTop), (79, ckTop), (80, ckTop), (81, ckTop), (197, ckTop), (198, (0, 60)), (318, ckTop)], [(50, 26), (55, 21), (58, 24), (59, 25)], []), ([(64, ckTop)], [], [])]
noncomputable def dG157 : List ckG := [([(48, ckTop), (49, (0, 47)), (50, ckTop), (51, (0, 99)), (53, ckTop), (54, (0, 2147483646)), (55, ckTop), (56, ckTop), (58, ckTop), (59, ckTop), (68, ckTop), (69, ckTop), (76, ckTop), (77, (0, 30)), (78, ckTop), (79, ckTop), (80, ckTop), (81, ckTop), (197, ckTop), (198, (0, 60)), (318, ckTop)], [(50, 39), (53, 29), (55, 21), (58, 22), (76, 24)], [])]
noncomputable def dG158 : List ckG := [([(48, ckTop), (49, (0, 47)), (50, ckTop), (51, (0, 99)), (52, ckTop), (53, ckTop), (54, ckTop), (55, ckTop), (56, ckTop), (58, ckTop), (59, ckTop), (68, ckTop), (69, ckTop), (76, ckTop), (77, (0, 30)), (197, ckTop), (198, (0, 60)), (318, ckTop)], [(48, 35), (50, 45), (55, 21), (58, 22)], [])]
noncomputable def dG159 : List ckG := [([(48, ckTop), (49, (0, 47)), (50, ckTop), (51, (0, 99)), (52, ckTop), (53, ckTop), (54, ckTop), (55, ckTop), (56, ckTop), (58, ckTop), (59, ckTop), (68, ckTop), (69, ckTop), (76, ckTop), (77, (0, 30)), (197, ckTop), (198, (0, 60)), (318, ckTop)], [(50, 38), (55, 21), (58, 22)], [])]
-- FarMachineModel.hour
noncomputable def k103 : ckCtr := (60, ([(0, (1, 0)), (1, (1, 1))], [], dC149, dT150, dG151, [], [], [(1, 0, 0, 0, [])], 0, 0), [([], [], dP154, [], [], dT155, dG156, [], [(7, 23, 0), (22, 24, (-1)), (23, 7, 1), (24, 22, 1)], [(1, 2, 0, 0, []), (1, 0, 0, 0, [])], 0, 0)], 5, 166, 0, 0)
noncomputable def k103_a : ckAs := [(67, [(741251, [(1, 0, 0, ([(0, (1, 0)), (1, (1, 1)), (2, (0, 23)), (3, (0, 41))], [], [(1, .inr (0, 19, 5))], [], [], [(0, 8)], dG157, [], [], [(1, 4, 0, 0, []), (1, 5, 0, 0, []), (1, 3, 0, 0, []), (1, 2, 0, 0, []), (1, 0, 0, 0, [])], 0, 0))]), (168690, [(1, 0, 0, ([(0, (1, 0)), (1, (1, 1)), (2, (0, 23)), (3, (0, 47))], [], [(1, .inr (0, 19, 7))], [], [], [(0, 8)], dG158, [], [(7, 28, 0), (28, 7, 1)], [(1, 6, 0, 0, []), (1, 7, 0, 0, []), (1, 5, 0, 0, []), (1, 2, 0, 0, []), (1, 3, 0, 0, []), (1, 0, 0, 0, [])], 0, 0))]), (83341, [(1, 0, 0, ([(0, (1, 0)), (1, (1, 1)), (2, (0, 23)), (3, (0, 40))], [], [(1, .inr (0, 19, 6))], [], [(28, (0, 130000))], [(0, 8)], dG159, [], [(7, 28, 0), (28, 7, 1)], [(1, 5, 0, 0, []), (1, 6, 0, 0, []), (1, 3, 0, 0, []), (1, 2, 0, 0, []), (1, 0, 0, 0, [])], 0, 0))])])]
noncomputable def k103_c : List (Nat × ckCtr) := [(1, k92), (25, k100), (52, k101), (61, k102)]
theorem k103_ok (l : Launch) : ckCtrOk l ckMT ckTW ckCL k103 := mt_60 (as := k103_a) (cs := k103_c) (gx := []) (f := 200000) rfl (ckHc (k92_ok l) (ckHc (k100_ok l) (ckHc (k101_ok l) (ckHc (k102_ok l) (fun _ h => absurd h List.not_mem_nil))))) True.intro (by decide +kernel)
noncomputable def dC160 : List ckC := [.inl (9, [(1, 1), (1, 2), (4, 10), (4, 11), (4, 12), (4, 13), (4, 14), (4, 15), (4, 16), (4, 17), (4, 18), (4, 19), (4, 20), (4, 21), (4, 22), (4, 23), (0, 1), (0, 2), (0, 3), (0, 4), (0, 5), (0, 6), (0, 7), (1, 3), (0, 8), (4, 24), (0, 9), (0, 10), (0, 11), (0, 12), (4, 25), (0, 13), (0, 14), (0, 15), (0, 16), (5, 0), (5, 0), (0, 17), (4, 26), (4, 27), (0, 18), (0, 19)]), .inr (0, 20, 0), .inr (0, 21, 1), .inr (0, 22, 2)]
noncomputable def dT161 : List ckI := [ckTop, (0, 1), (0, 1), (0, 8), (0, 40), (0, 6), (0, 8), (0, 10), (0, 126000), ckTop, ckTop, ckTop, ckTop, (0, 30), ckTop, ckTop, ckTop, (0, 1), ckTop, (0, 1), (7, 7), (318, 318), (64, 64), (1, 99), (0, 126000)]
noncomputable def dG162 : List ckG := [([(7, ckTop)], [], []), ([(48, ckTop), (49, (0, 47)), (50, ckTop), (51, ckTop), (52, ckTop), (54, ckTop), (55, ckTop), (56, ckTop), (57, ckTop), (58, ckTop), (59, ckTop), (76, ckTop), (77, (0, 30)), (197, ckTop), (198, (0, 60)), (318, ckTop)], [(55, 23), (58, 24)], []), ([(64, ckTop)], [], [])]
noncomputable def dP163 : List (Nat × ckC) := [(0, .inl (9, [(1, 1), (1, 2), (4, 10), (4, 11), (4, 12), (4, 13), (4, 14), (4, 15), (4, 16), (4, 17), (4, 18), (4, 19), (4, 20), (4, 21), (4, 22), (4, 23), (0, 1), (0, 2), (0, 3), (0, 4), (0, 5), (0, 6), (0, 7), (1, 3), (0, 26), (4, 24), (0, 9), (0, 10), (0, 11), (0, 12), (4, 25), (0, 13), (0, 14), (0, 15), (0, 16), (5, 0), (5, 0), (0, 17), (4, 26), (4, 27), (0, 18), (0, 19)])), (1, .inr (0, 20, 3)), (2, .inr (0, 21, 4)), (3, .inr (0, 22, 5))]
noncomputable def dG164 : List ckG := [([(4, ckTop), (5, ckTop), (6, ckTop), (7, ckTop)], [], []), ([(48, ckTop), (49, (0, 47)), (50, ckTop), (51, ckTop), (52, ckTop), (53, ckTop), (54, ckTop), (55, ckTop), (56, ckTop), (57, ckTop), (58, ckTop), (59, ckTop), (60, ckTop), (68, ckTop), (69, ckTop), (76, ckTop), (77, (0, 30)), (78, ckTop), (79, ckTop), (80, ckTop), (81, ckTop), (197, ckTop), (198, (0, 60)), (318, ckTop)], [(55, 23), (58, 27)], []), ([(64, ckTop)], [], [])]
noncomputable def dZ165 : List ckZ := [(8, 26, 0), (24, 27, 0), (25, 24, 2000), (25, 27, 0), (26, 8, 2000), (26, 25, 126006), (26, 27, 126000), (27, 24, 2000), (27, 25, 126006)]
noncomputable def dP166 : List (Nat × ckC) := [(0, .inl (9, [(1, 1), (1, 2), (4, 10), (4, 11), (4, 12), (4, 13), (4, 14), (4, 15), (4, 16), (4, 17), (4, 18), (4, 19), (4, 20), (4, 21), (4, 22), (4, 23), (0, 1), (0, 2), (0, 3), (0, 4), (0, 5), (0, 6), (0, 7), (1, 3), (0, 31), (4, 24), (0, 9), (0, 10), (0, 11), (0, 12), (4, 25), (0, 13), (0, 14), (0, 15), (0, 16), (5, 0), (5, 0), (0, 17), (4, 26), (4, 27), (0, 18), (0, 19)])), (2, .inr (0, 21, 3)), (3, .inr (0, 22, 4))]
noncomputable def dG167 : List ckG := [([(48, ckTop), (49, (0, 47)), (50, ckTop), (51, ckTop), (52, ckTop), (53, ckTop), (54, ckTop), (55, ckTop), (56, ckTop), (57, ckTop), (58, ckTop), (59, ckTop), (60, ckTop), (68, ckTop), (69, ckTop), (76, ckTop), (77, (0, 30)), (78, ckTop), (79, ckTop), (80, ckTop), (81, ckTop), (197, ckTop), (198, (0, 60)), (318, ckTop)], [(55, 23), (58, 32)], []), ([(64, ckTop)], [], [])]
noncomputable def dZ168 : List ckZ := [(8, 31, 0), (24, 32, 0), (30, 0, 0), (30, 32, 0), (31, 0, 126000), (31, 30, 126000), (31, 32, 126000), (32, 0, 126000), (32, 30, 126000)]
-- FarMachineModel.hours
noncomputable def k104 : ckCtr := (67, ([(0, (1, 0)), (1, (0, 0))], [], dC160, dT161, dG162, [], [], [(1, 1, 0, 0, [])], 0, 0), [([], [(0, 25)], dP163, [], [], [(-6, 128000), (0, 128000), (0, 128000)], dG164, [], dZ165, [(1, 1, 0, 0, []), (1, 4, 0, 0, [])], 0, 0)], 6, 189, 0, 0)
noncomputable def k104_a : ckAs := [(35, [(724571, [(4, 10, 0, ([], [], [], [], [], [], [], [], [], [(0, 0, 0, 0, [8, 8, 29])], 0, 0)), (4, 10, 0, ([], [], [], [], [], [], [], [], [], [(0, 0, 0, 0, [24, 24, 29])], 0, 0))])]), (36, [(724571, [(1, 0, 0, ([(0, (1, 0)), (1, (0, 0)), (2, (0, 30))], [], dP166, [], [], [(0, 2000), (0, 128000), (0, 128000)], dG167, [], dZ168, [(7, 24, 24, 29, []), (7, 32, 24, 30, []), (7, 8, 8, 29, []), (7, 31, 8, 30, []), (1, 1, 0, 0, []), (1, 3, 0, 0, [])], 0, 0))])]), (41, [(60519, [(5, 1, 0, ([], [], [], [], [], [], [], [], [], [(0, 0, 0, 0, [31, 8, 30])], 0, 0))]), (60488, [(3, 0, 0, ([], [], [], [], [], [], [], [], [], [], 0, 0)), (5, 1, 0, ([], [], [], [], [], [], [], [], [], [(0, 0, 0, 0, [32, 24, 30])], 0, 0))])]), (52, [(463075, [(4, 11, 0, ([], [], [], [], [], [], [], [], [], [(0, 0, 0, 0, [31, 8, 30, 33, 37, 1])], 0, 0)), (4, 11, 0, ([], [], [], [], [], [], [], [], [], [(0, 0, 0, 0, [32, 24, 30, 34, 37, 1])], 0, 0))])]), (55, [(68207, [(5, 1, 0, ([], [], [], [], [], [], [], [], [], [(0, 0, 0, 0, [31, 8, 30])], 0, 0)), (5, 1, 0, ([], [], [], [], [], [], [], [], [], [(0, 0, 0, 0, [32, 24, 30])], 0, 0))]), (68214, [(3, 0, 0, ([], [], [], [], [], [], [], [], [], [], 0, 0)), (3, 0, 0, ([], [], [], [], [], [], [], [], [], [], 0, 0)), (7, 0, 0, ([], [], [], [], [], [], [], [], [], [(0, 0, 0, 0, [31, 8, 30, 2000])], 0, 0))]), (789577, [(3, 0, 0, ([], [], [], [], [], [], [], [], [], [], 0, 0)), (3, 0, 0, ([], [], [], [], [], [], [], [], [], [], 0, 0)), (3, 0, 0, ([], [], [], [], [], [], [], [], [], [], 0, 0)), (7, 0, 0, ([], [], [], [], [], [], [], [], [], [(0, 0, 0, 0, [32, 24, 30, 2000])], 0, 0))])])]
noncomputable def k104_c : List (Nat × ckCtr) := [(8, k24), (30, k23), (46, k103)]
theorem k104_ok (l : Launch) : ckCtrOk l ckMT ckTW ckCL k104 := mt_67 (as := k104_a) (cs := k104_c) (gx := []) (f := 200000) rfl (ckHc (k24_ok l) (ckHc (k23_ok l) (ckHc (k103_ok l) (fun _ h => absurd h List.not_mem_nil)))) True.intro (by decide +kernel)
noncomputable def dC169 : List ckC := [.inl (1, [(1, 1), (4, 10), (4, 11), (4, 12), (0, 0)]), .inr (0, 1, 0)]
-- FarMachine$Commands.isFull
noncomputable def k105 : ckCtr := (118, ([(0, (1, 0))], [], dC169, [ckTop, (30, 30)], [([(30, ckTop)], [], [])], [], [], [], 0, 0), [([], [(0, 2)], [], [], [(0, (30, 2147483647))], [(1, 1)], [], [], [], [], 0, 0), ([], [(0, 2)], [], [], [(0, (-2147483648, 29))], [(0, 0)], [], [], [], [], 0, 0)], 1, 80, 0, 0)
noncomputable def k105_a : ckAs := []
noncomputable def k105_c : List (Nat × ckCtr) := []
theorem k105_ok (l : Launch) : ckCtrOk l ckMT ckTW ckCL k105 := mt_118 (as := k105_a) (cs := k105_c) (gx := []) (f := 200000) rfl (fun _ h => absurd h List.not_mem_nil) True.intro (by decide +kernel)
-- FarMachine.refusalOfCommand
noncomputable def k106 : ckCtr := (39, ([(0, (0, 0)), (1, (0, 1)), (2, (0, 2)), (3, (0, 3))], [], [], [ckTop, ckTop, ckTop, (0, 1)], [], [], [], [], 0, 0), [([], [(0, 4)], [], [], [], [(-6, 0)], [], [], [], [], 0, 0)], 2, 100, 0, 0)
noncomputable def k106_a : ckAs := []
noncomputable def k106_c : List (Nat × ckCtr) := [(17, k13)]
theorem k106_ok (l : Launch) : ckCtrOk l ckMT ckTW ckCL k106 := mt_39 (as := k106_a) (cs := k106_c) (gx := []) (f := 200000) rfl (ckHc (k13_ok l) (fun _ h => absurd h List.not_mem_nil)) True.intro (by decide +kernel)
-- FarMachine.refuse
noncomputable def k107 : ckCtr := (34, ([(0, (1, 0)), (1, (0, 0))], [], dC33, [(-6, -1), (0, 1), (7, 7)], [([(7, ckTop)], [], [])], [], [], [], 0, 0), [([], [(0, 0)], [(1, .inr (0, 2, 1))], [], [], [], [([(7, ckTop)], [], [])], [], [], [], 0, 0)], 1, 80, 0, 0)
noncomputable def k107_a : ckAs := []
noncomputable def k107_c : List (Nat × ckCtr) := []
theorem k107_ok (l : Launch) : ckCtrOk l ckMT ckTW ckCL k107 := mt_34 (as := k107_a) (cs := k107_c) (gx := []) (f := 200000) rfl (fun _ h => absurd h List.not_mem_nil) True.intro (by decide +kernel)
noncomputable def dC170 : List ckC := [.inl (8, [(1, 1), (4, 10), (0, 3), (4, 11), (4, 12), (4, 13), (4, 14), (1, 2)]), .inl (7, [(1, 3), (4, 15), (0, 4), (4, 16), (4, 17), (4, 18), (4, 19), (4, 20), (4, 21), (4, 22)]), .inr (0, 5, 0), .inl (2, [(4, 23), (4, 24), (1, 4), (0, 6), (0, 7), (0, 8), (0, 9), (0, 10), (0, 11), (0, 12), (0, 13), (0, 14), (0, 15), (0, 16), (0, 17), (0, 18)]), .inl (1, [(1, 5), (1, 6), (1, 7), (1, 8), (0, 19)]), .inr (0, 20, 1), .inr (0, 20, 2), .inr (0, 20, 3), .inr (0, 20, 4)]
noncomputable def dT171 : List ckI := [ckTop, ckTop, ckTop, (0, 1), (0, 1), (7, 7), ckTop, ckTop, ckTop, ckTop, ckTop, ckTop, ckTop, ckTop, ckTop, ckTop, ckTop, ckTop, ckTop, ckTop, (30, 30)]
noncomputable def dG172 : List ckG := [([(7, ckTop)], [], []), ([(30, ckTop)], [], []), ([(30, ckTop)], [], []), ([(30, ckTop)], [], []), ([(30, ckTop)], [], [])]
noncomputable def dP173 : List (Nat × ckC) := [(2, .inr (0, 5, 5)), (4, .inl (1, [(1, 5), (1, 6), (1, 7), (1, 8), (0, 22)])), (5, .inr (0, 20, 6)), (6, .inr (0, 20, 7)), (7, .inr (0, 20, 8)), (8, .inr (0, 20, 9))]
-- FarMachine.command
noncomputable def k108 : ckCtr := (8, ([(0, (1, 0)), (1, (0, 0)), (2, (0, 1)), (3, (0, 2))], [], dC170, dT171, dG172, [], [], [], 0, 0), [([], [(0, 21)], dP173, [], [], [ckTop, ckTop], dG172, [], [(19, 22, 0), (22, 19, 1)], [], 0, 0)], 3, 124, 0, 0)
noncomputable def k108_a : ckAs := []
noncomputable def k108_c : List (Nat × ckCtr) := [(17, k105), (20, k106), (33, k107), (52, k71)]
theorem k108_ok (l : Launch) : ckCtrOk l ckMT ckTW ckCL k108 := mt_8 (as := k108_a) (cs := k108_c) (gx := []) (f := 200000) rfl (ckHc (k105_ok l) (ckHc (k106_ok l) (ckHc (k107_ok l) (ckHc (k71_ok l) (fun _ h => absurd h List.not_mem_nil))))) True.intro (by decide +kernel)
