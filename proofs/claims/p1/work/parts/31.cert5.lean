/-! THE CHECKER: contracts with their certificates (printed by wip/gen/p1gen.py) -/
theorem k343_ok (l : Launch) : ckCtrOk l ckMT ckTW ckCL k343 := mt_17 (as := k343_a) (cs := k343_c) (gx := k343_g0) (f := 200000) rfl (ckHc (k15_ok l) (ckHc (k16_ok l) (ckHc (k335_ok l) (ckHc (k336_ok l) (ckHc (k337_ok l) (ckHc (k338_ok l) (ckHc (k339_ok l) (ckHc (k340_ok l) (ckHc (k341_ok l) (ckHc (k342_ok l) (fun _ h => absurd h List.not_mem_nil))))))))))) ⟨k343_t0, True.intro⟩ (by decide +kernel)
noncomputable def dC303 : List ckC := [.inl (9, [(4, 10), (4, 11), (4, 12), (4, 13), (4, 14), (4, 15), (4, 16), (4, 17), (4, 18), (4, 19), (4, 20), (4, 21), (4, 22), (4, 23), (4, 24), (4, 25), (0, 1), (0, 1), (0, 1), (0, 1), (0, 1), (0, 1), (0, 1), (4, 26), (0, 1), (4, 27), (0, 1), (0, 1), (0, 1), (0, 1), (1, 1), (0, 1), (0, 1), (0, 1), (0, 1), (1, 1), (4, 11), (0, 1), (4, 28), (4, 29), (0, 1), (0, 1)]), .inr (0, 2, 0)]
noncomputable def dP304 : List (Nat × ckC) := [(0, .inl (9, [(4, 10), (4, 11), (4, 12), (4, 13), (4, 14), (4, 15), (4, 16), (4, 17), (4, 18), (4, 19), (4, 20), (4, 21), (4, 22), (4, 23), (4, 24), (4, 25), (0, 1), (0, 1), (0, 1), (0, 1), (0, 1), (0, 1), (0, 1), (4, 26), (0, 1), (4, 27), (0, 1), (0, 1), (0, 1), (0, 1), (1, 1), (0, 0), (0, 1), (0, 1), (0, 1), (1, 1), (4, 11), (0, 1), (4, 28), (4, 29), (0, 1), (0, 1)])), (1, .inr (0, 2, 1))]
noncomputable def dG305 : List ckG := [([(1, ckTop), (2, ckTop), (3, ckTop), (4, ckTop), (5, ckTop), (6, ckTop), (7, ckTop), (8, ckTop), (30, (0, 0))], [(0, 5), (1, 6), (2, 7), (3, 8), (4, 9), (5, 10), (6, 4), (7, 3)], [])]
-- FarMachineModel.feed
noncomputable def k344 : ckCtr := (82, ([(0, (1, 0)), (1, (0, 0)), (2, (2, 0))], [], dC303, [(8, 8), (0, 0), (30, 30)], [([(30, (0, 0))], [], [])], [], [], [], 0, 0), [([], [(0, 0)], dP304, [], [], [ckTop, ckTop, ckTop, ckTop, ckTop, ckTop, ckTop, ckTop], dG305, [], [], [], 0, 0)], 1, 80, 0, 0)
noncomputable def k344_a : ckAs := []
noncomputable def k344_c : List (Nat × ckCtr) := []
noncomputable def dC306 : List ckC := [.inl (9, [(4, 10), (4, 11), (4, 12), (4, 13), (4, 14), (4, 15), (4, 16), (4, 17), (4, 18), (4, 19), (4, 20), (4, 21), (4, 22), (4, 23), (4, 24), (4, 25), (0, 1), (0, 1), (0, 1), (0, 1), (0, 1), (0, 1), (0, 1), (4, 26), (0, 1), (4, 27), (0, 1), (0, 1), (0, 1), (0, 1), (1, 1), (0, 3), (0, 1), (0, 1), (0, 1), (1, 1), (4, 11), (0, 1), (4, 28), (4, 29), (0, 1), (0, 1)]), .inr (0, 2, 1)]
noncomputable def dT307 : List ckI := [(8, 8), (0, 0), (30, 30), (6, 6), ckTop, ckTop, ckTop, ckTop, ckTop, ckTop]
noncomputable def dG308 : List ckG := [([(30, (0, 0))], [], []), ([(1, ckTop), (2, ckTop), (3, ckTop), (4, ckTop), (5, ckTop), (6, ckTop), (30, (0, 0))], [(0, 9), (1, 8), (2, 7), (3, 6), (4, 5), (5, 4)], [])]
noncomputable def k344_u0 : ckCut := (39, ([(0, (1, 0)), (1, (0, 0)), (2, (2, 0)), (4, (0, 3))], [], dC306, dT307, dG308, [], [], [], 0, 0), 3, 1, 0, 0)
noncomputable def k344_g0 : List ckCut := [k344_u0]
theorem k344_t0 : ckRun es_82 k344_a k344_c [] 5 1 80 0 0 (ckEndF 1 0 0 k344.2.1 k344.2.2.1) ckKs ckKc 200000 0 39 k344_u0.2.1 [] = true := by decide +kernel
theorem k344_ok (l : Launch) : ckCtrOk l ckMT ckTW ckCL k344 := mt_82 (as := k344_a) (cs := k344_c) (gx := k344_g0) (f := 200000) rfl (fun _ h => absurd h List.not_mem_nil) ⟨k344_t0, True.intro⟩ (by decide +kernel)
noncomputable def dG309 : List ckG := [([(1, ckTop), (2, ckTop), (3, ckTop), (4, ckTop), (5, ckTop), (6, ckTop), (7, ckTop), (30, (0, 0))], [(0, 4), (1, 5), (2, 6), (3, 7), (4, 8), (5, 9), (6, 3)], [])]
-- FarMachineModel.feed
noncomputable def k345 : ckCtr := (82, ([(0, (1, 0)), (1, (0, 0)), (2, (2, 0))], [], dC303, [(7, 7), (0, 0), (30, 30)], [([(30, (0, 0))], [], [])], [], [], [], 0, 0), [([], [(0, 0)], dP304, [], [], [ckTop, ckTop, ckTop, ckTop, ckTop, ckTop, ckTop], dG309, [], [], [], 0, 0)], 1, 80, 0, 0)
noncomputable def k345_a : ckAs := []
noncomputable def k345_c : List (Nat × ckCtr) := []
noncomputable def dT310 : List ckI := [(7, 7), (0, 0), (30, 30), (6, 6), ckTop, ckTop, ckTop, ckTop, ckTop, ckTop]
noncomputable def k345_u0 : ckCut := (39, ([(0, (1, 0)), (1, (0, 0)), (2, (2, 0)), (4, (0, 3))], [], dC306, dT310, dG308, [], [], [], 0, 0), 3, 1, 0, 0)
noncomputable def k345_g0 : List ckCut := [k345_u0]
theorem k345_t0 : ckRun es_82 k345_a k345_c [] 5 1 80 0 0 (ckEndF 1 0 0 k345.2.1 k345.2.2.1) ckKs ckKc 200000 0 39 k345_u0.2.1 [] = true := by decide +kernel
theorem k345_ok (l : Launch) : ckCtrOk l ckMT ckTW ckCL k345 := mt_82 (as := k345_a) (cs := k345_c) (gx := k345_g0) (f := 200000) rfl (fun _ h => absurd h List.not_mem_nil) ⟨k345_t0, True.intro⟩ (by decide +kernel)
noncomputable def dG311 : List ckG := [([(1, ckTop), (2, ckTop), (3, ckTop), (4, ckTop), (5, ckTop), (6, ckTop), (30, (0, 0))], [(0, 3), (1, 4), (2, 5), (3, 6), (4, 7), (5, 8)], [])]
-- FarMachineModel.feed
noncomputable def k346 : ckCtr := (82, ([(0, (1, 0)), (1, (0, 0)), (2, (2, 0))], [], dC303, [(6, 6), (0, 0), (30, 30)], [([(30, (0, 0))], [], [])], [], [], [], 0, 0), [([], [(0, 0)], dP304, [], [], [ckTop, ckTop, ckTop, ckTop, ckTop, ckTop], dG311, [], [], [], 0, 0)], 1, 80, 0, 0)
noncomputable def k346_a : ckAs := []
noncomputable def k346_c : List (Nat × ckCtr) := []
noncomputable def dC312 : List ckC := [.inl (9, [(4, 10), (4, 11), (4, 12), (4, 13), (4, 14), (4, 15), (4, 16), (4, 17), (4, 18), (4, 19), (4, 20), (4, 21), (4, 22), (4, 23), (4, 24), (4, 25), (0, 1), (0, 1), (0, 1), (0, 1), (0, 1), (0, 1), (0, 1), (4, 26), (0, 1), (4, 27), (0, 1), (0, 1), (0, 1), (0, 1), (1, 1), (0, 0), (0, 1), (0, 1), (0, 1), (1, 1), (4, 11), (0, 1), (4, 28), (4, 29), (0, 1), (0, 1)]), .inr (0, 2, 1)]
noncomputable def dT313 : List ckI := [(6, 6), (0, 0), (30, 30), ckTop, ckTop, ckTop, ckTop, ckTop, ckTop]
noncomputable def dG314 : List ckG := [([(30, (0, 0))], [], []), ([(1, ckTop), (2, ckTop), (3, ckTop), (4, ckTop), (5, ckTop), (6, ckTop), (30, (0, 0))], [(0, 8), (1, 7), (2, 6), (3, 5), (4, 4), (5, 3)], [])]
noncomputable def k346_u0 : ckCut := (39, ([(0, (1, 0)), (1, (0, 0)), (2, (2, 0)), (4, (0, 0))], [], dC312, dT313, dG314, [], [], [], 0, 0), 3, 1, 0, 0)
noncomputable def k346_g0 : List ckCut := [k346_u0]
theorem k346_t0 : ckRun es_82 k346_a k346_c [] 5 1 80 0 0 (ckEndF 1 0 0 k346.2.1 k346.2.2.1) ckKs ckKc 200000 0 39 k346_u0.2.1 [] = true := by decide +kernel
theorem k346_ok (l : Launch) : ckCtrOk l ckMT ckTW ckCL k346 := mt_82 (as := k346_a) (cs := k346_c) (gx := k346_g0) (f := 200000) rfl (fun _ h => absurd h List.not_mem_nil) ⟨k346_t0, True.intro⟩ (by decide +kernel)
noncomputable def dG315 : List ckG := [([(1, ckTop), (2, ckTop), (3, ckTop), (4, ckTop), (5, ckTop), (30, (0, 0))], [(0, 7), (1, 6), (2, 5), (3, 4), (4, 3)], [])]
-- FarMachineModel.feed
noncomputable def k347 : ckCtr := (82, ([(0, (1, 0)), (1, (0, 0)), (2, (2, 0))], [], dC303, [(5, 5), (0, 0), (30, 30)], [([(30, (0, 0))], [], [])], [], [], [], 0, 0), [([], [(0, 0)], dP304, [], [], [ckTop, ckTop, ckTop, ckTop, ckTop], dG315, [], [], [], 0, 0)], 1, 80, 0, 0)
noncomputable def k347_a : ckAs := []
noncomputable def k347_c : List (Nat × ckCtr) := []
theorem k347_ok (l : Launch) : ckCtrOk l ckMT ckTW ckCL k347 := mt_82 (as := k347_a) (cs := k347_c) (gx := []) (f := 200000) rfl (fun _ h => absurd h List.not_mem_nil) True.intro (by decide +kernel)
noncomputable def dG316 : List ckG := [([(1, ckTop), (2, ckTop), (3, ckTop), (4, ckTop), (30, (0, 0))], [(0, 6), (1, 5), (2, 4), (3, 3)], [])]
-- FarMachineModel.feed
noncomputable def k348 : ckCtr := (82, ([(0, (1, 0)), (1, (0, 0)), (2, (2, 0))], [], dC303, [(4, 4), (0, 0), (30, 30)], [([(30, (0, 0))], [], [])], [], [], [], 0, 0), [([], [(0, 0)], dP304, [], [], [ckTop, ckTop, ckTop, ckTop], dG316, [], [], [], 0, 0)], 1, 80, 0, 0)
noncomputable def k348_a : ckAs := []
noncomputable def k348_c : List (Nat × ckCtr) := []
theorem k348_ok (l : Launch) : ckCtrOk l ckMT ckTW ckCL k348 := mt_82 (as := k348_a) (cs := k348_c) (gx := []) (f := 200000) rfl (fun _ h => absurd h List.not_mem_nil) True.intro (by decide +kernel)
noncomputable def dG317 : List ckG := [([(1, ckTop), (2, ckTop), (3, ckTop), (30, (0, 0))], [(0, 5), (1, 4), (2, 3)], [])]
-- FarMachineModel.feed
noncomputable def k349 : ckCtr := (82, ([(0, (1, 0)), (1, (0, 0)), (2, (2, 0))], [], dC303, [(3, 3), (0, 0), (30, 30)], [([(30, (0, 0))], [], [])], [], [], [], 0, 0), [([], [(0, 0)], dP304, [], [], [ckTop, ckTop, ckTop], dG317, [], [], [], 0, 0)], 1, 80, 0, 0)
noncomputable def k349_a : ckAs := []
noncomputable def k349_c : List (Nat × ckCtr) := []
theorem k349_ok (l : Launch) : ckCtrOk l ckMT ckTW ckCL k349 := mt_82 (as := k349_a) (cs := k349_c) (gx := []) (f := 200000) rfl (fun _ h => absurd h List.not_mem_nil) True.intro (by decide +kernel)
noncomputable def dG318 : List ckG := [([(1, ckTop), (2, ckTop), (30, (0, 0))], [(0, 4), (1, 3)], [])]
-- FarMachineModel.feed
noncomputable def k350 : ckCtr := (82, ([(0, (1, 0)), (1, (0, 0)), (2, (2, 0))], [], dC303, [(2, 2), (0, 0), (30, 30)], [([(30, (0, 0))], [], [])], [], [], [], 0, 0), [([], [(0, 0)], dP304, [], [], [ckTop, ckTop], dG318, [], [], [], 0, 0)], 1, 80, 0, 0)
noncomputable def k350_a : ckAs := []
noncomputable def k350_c : List (Nat × ckCtr) := []
theorem k350_ok (l : Launch) : ckCtrOk l ckMT ckTW ckCL k350 := mt_82 (as := k350_a) (cs := k350_c) (gx := []) (f := 200000) rfl (fun _ h => absurd h List.not_mem_nil) True.intro (by decide +kernel)
-- FarMachineModel.feed
noncomputable def k351 : ckCtr := (82, ([(0, (1, 0)), (1, (0, 0)), (2, (2, 0))], [], dC303, [(1, 1), (0, 0), (30, 30)], [([(30, (0, 0))], [], [])], [], [], [], 0, 0), [([], [(0, 0)], dP304, [], [], [ckTop], [([(1, ckTop), (30, (0, 0))], [(0, 3)], [])], [], [], [], 0, 0)], 1, 80, 0, 0)
noncomputable def k351_a : ckAs := []
noncomputable def k351_c : List (Nat × ckCtr) := []
theorem k351_ok (l : Launch) : ckCtrOk l ckMT ckTW ckCL k351 := mt_82 (as := k351_a) (cs := k351_c) (gx := []) (f := 200000) rfl (fun _ h => absurd h List.not_mem_nil) True.intro (by decide +kernel)
-- FarMachineModel.feed
noncomputable def k352 : ckCtr := (82, ([(0, (1, 0)), (1, (0, 0)), (2, (2, 0))], [], dC42, [(9, 2147483647), (0, 0), (7, 7)], [([(7, (0, 0))], [], [])], [], [], [], 0, 0), [([], [(0, 3)], [(1, .inr (0, 2, 1))], [], [], [(-6, -6), (1, 1)], [([(6, (0, 0)), (7, (1, 1))], [(6, 4)], [])], [], [], [], 0, 0)], 2, 101, 0, 0)
noncomputable def k352_a : ckAs := []
noncomputable def k352_c : List (Nat × ckCtr) := [(32, k25)]
theorem k352_ok (l : Launch) : ckCtrOk l ckMT ckTW ckCL k352 := mt_82 (as := k352_a) (cs := k352_c) (gx := []) (f := 200000) rfl (ckHc (k25_ok l) (fun _ h => absurd h List.not_mem_nil)) True.intro (by decide +kernel)
-- FarMachineModel.feed
noncomputable def k353 : ckCtr := (82, ([(0, (1, 0)), (1, (0, 0)), (2, (2, 0))], [], dC42, [(-2147483648, 0), (0, 0), (7, 7)], [([(7, (0, 0))], [], [])], [], [], [], 0, 0), [([], [(0, 3)], [(1, .inr (0, 2, 1))], [], [], [(-4, -4), (1, 1)], [([(4, (0, 0)), (5, (1, 1)), (7, (0, 0))], [(4, 4)], [])], [], [], [], 0, 0)], 2, 101, 0, 0)
noncomputable def k353_a : ckAs := []
noncomputable def k353_c : List (Nat × ckCtr) := [(8, k28)]
theorem k353_ok (l : Launch) : ckCtrOk l ckMT ckTW ckCL k353 := mt_82 (as := k353_a) (cs := k353_c) (gx := []) (f := 200000) rfl (ckHc (k28_ok l) (fun _ h => absurd h List.not_mem_nil)) True.intro (by decide +kernel)
noncomputable def dC319 : List ckC := [.inl (4, [(3, 0), (3, 0), (0, 0), (0, 0)]), .inl (0, [(4, 10), (0, 0)]), .inl (5, [(4, 11), (4, 12), (4, 13), (4, 14), (4, 15), (0, 0)])]
-- FarMachine$RuleReader.<init>
noncomputable def k354 : ckCtr := (158, ([(0, (1, 0)), (1, (1, 1)), (2, (1, 2))], [], dC319, [(0, 0)], [], [], [], [], 0, 0), [([], [], [(0, .inl (4, [(1, 1), (1, 2), (0, 0), (0, 0)]))], [], [], [], [], [], [], [], 0, 0)], 1, 80, 0, 0)
noncomputable def k354_a : ckAs := []
noncomputable def k354_c : List (Nat × ckCtr) := []
theorem k354_ok (l : Launch) : ckCtrOk l ckMT ckTW ckCL k354 := mt_158 (as := k354_a) (cs := k354_c) (gx := []) (f := 200000) rfl (fun _ h => absurd h List.not_mem_nil) True.intro (by decide +kernel)
noncomputable def dC320 : List ckC := [.inl (5, [(4, 10), (4, 11), (4, 12), (4, 13), (1, 1), (0, 0)]), .inr (0, 1, 0)]
-- FarMachine$Rules.begin
noncomputable def k355 : ckCtr := (169, ([(0, (1, 0))], [], dC320, [(0, 0), (10, 10)], [([(10, (0, 0))], [], [])], [], [], [], 0, 0), [([], [], [(1, .inr (0, 1, 1))], [], [], [], [([(1, (0, 0)), (10, (0, 0))], [(0, 0)], [])], [], [], [], 0, 0)], 1, 80, 0, 0)
noncomputable def k355_a : ckAs := []
noncomputable def k355_c : List (Nat × ckCtr) := []
theorem k355_ok (l : Launch) : ckCtrOk l ckMT ckTW ckCL k355 := mt_169 (as := k355_a) (cs := k355_c) (gx := []) (f := 200000) rfl (fun _ h => absurd h List.not_mem_nil) True.intro (by decide +kernel)
noncomputable def dC321 : List ckC := [.inl (4, [(1, 1), (4, 10), (0, 0), (0, 0)]), .inl (0, [(4, 11), (0, 0)])]
-- FarMachine$RuleReader.next
noncomputable def k356 : ckCtr := (164, ([(0, (1, 0))], [], dC321, [(0, 0)], [], [], [], [], 0, 0), [([], [(0, 1)], [], [], [], [(-1, -1)], [], [], [], [], 0, 0)], 1, 80, 0, 0)
noncomputable def k356_a : ckAs := []
noncomputable def k356_c : List (Nat × ckCtr) := []
theorem k356_ok (l : Launch) : ckCtrOk l ckMT ckTW ckCL k356 := mt_164 (as := k356_a) (cs := k356_c) (gx := []) (f := 200000) rfl (fun _ h => absurd h List.not_mem_nil) True.intro (by decide +kernel)
-- java/lang/String.isLatin1
noncomputable def k357 : ckCtr := (201, ([(0, (4, 5))], [], [], [], [], [], [], [], 0, 0), [([], [(0, 0)], [], [], [], [(1, 1)], [], [], [], [], 0, 0)], 1, 80, 0, 0)
noncomputable def k357_a : ckAs := []
noncomputable def k357_c : List (Nat × ckCtr) := []
theorem k357_ok (l : Launch) : ckCtrOk l ckMT ckTW ckCL k357 := mt_201 (as := k357_a) (cs := k357_c) (gx := []) (f := 200000) rfl (fun _ h => absurd h List.not_mem_nil) True.intro (by decide +kernel)
-- java/lang/String.coder
noncomputable def k358 : ckCtr := (198, ([(0, (4, 5))], [], [], [], [], [], [], [], 0, 0), [([], [(0, 0)], [], [], [], [(0, 0)], [], [], [], [], 0, 0)], 1, 80, 0, 0)
noncomputable def k358_a : ckAs := []
noncomputable def k358_c : List (Nat × ckCtr) := []
theorem k358_ok (l : Launch) : ckCtrOk l ckMT ckTW ckCL k358 := mt_198 (as := k358_a) (cs := k358_c) (gx := []) (f := 200000) rfl (fun _ h => absurd h List.not_mem_nil) True.intro (by decide +kernel)
-- java/lang/String.length
noncomputable def k359 : ckCtr := (202, ([(0, (4, 5))], [], [], [], [], [], [], [], 0, 0), [([], [(0, 0)], [], [], [], [(8, 8)], [], [], [], [], 0, 0)], 2, 100, 0, 0)
noncomputable def k359_a : ckAs := []
noncomputable def k359_c : List (Nat × ckCtr) := [(6, k358)]
theorem k359_ok (l : Launch) : ckCtrOk l ckMT ckTW ckCL k359 := mt_202 (as := k359_a) (cs := k359_c) (gx := []) (f := 200000) rfl (ckHc (k358_ok l) (fun _ h => absurd h List.not_mem_nil)) True.intro (by decide +kernel)
-- java/lang/StringLatin1.canEncode
noncomputable def k360 : ckCtr := (203, ([(0, (0, 0))], [], [], [(0, 0)], [], [], [], [], 0, 0), [([], [(0, 1)], [], [], [], [(1, 1)], [], [], [], [], 0, 0)], 1, 80, 0, 0)
noncomputable def k360_a : ckAs := []
noncomputable def k360_c : List (Nat × ckCtr) := []
theorem k360_ok (l : Launch) : ckCtrOk l ckMT ckTW ckCL k360 := mt_203 (as := k360_a) (cs := k360_c) (gx := []) (f := 200000) rfl (fun _ h => absurd h List.not_mem_nil) True.intro (by decide +kernel)
-- java/lang/StringLatin1.indexOfChar
noncomputable def k361 : ckCtr := (205, ([(0, (4, 6)), (1, (0, 0)), (2, (0, 0)), (3, (0, 1))], [], [], [(0, 0), (8, 8)], [], [], [], [], 0, 0), [([], [(0, 2)], [], [], [], [(-1, -1)], [], [], [], [], 0, 0)], 1, 80, 0, 0)
noncomputable def k361_a : ckAs := []
noncomputable def k361_c : List (Nat × ckCtr) := []
theorem k361_ok (l : Launch) : ckCtrOk l ckMT ckTW ckCL k361 := mt_205 (as := k361_a) (cs := k361_c) (gx := []) (f := 200000) rfl (fun _ h => absurd h List.not_mem_nil) True.intro (by decide +kernel)
-- java/lang/StringLatin1.indexOf
noncomputable def k362 : ckCtr := (204, ([(0, (4, 6)), (1, (0, 0)), (2, (0, 0)), (3, (0, 1))], [], [], [(0, 0), (8, 8)], [], [], [], [], 0, 0), [([], [(0, 2)], [], [], [], [(-1, -1)], [], [], [], [], 0, 0)], 2, 105, 0, 0)
noncomputable def k362_a : ckAs := []
noncomputable def k362_c : List (Nat × ckCtr) := [(1, k360), (33, k361)]
theorem k362_ok (l : Launch) : ckCtrOk l ckMT ckTW ckCL k362 := mt_204 (as := k362_a) (cs := k362_c) (gx := []) (f := 200000) rfl (ckHc (k360_ok l) (ckHc (k361_ok l) (fun _ h => absurd h List.not_mem_nil))) True.intro (by decide +kernel)
-- java/lang/String.indexOf
noncomputable def k363 : ckCtr := (200, ([(0, (4, 5)), (1, (0, 0)), (2, (0, 0))], [], [], [(0, 0)], [], [], [], [], 0, 0), [([], [(0, 1)], [], [], [], [(-1, -1)], [], [], [], [], 0, 0)], 3, 128, 0, 0)
noncomputable def k363_a : ckAs := []
noncomputable def k363_c : List (Nat × ckCtr) := [(1, k357), (14, k359), (17, k362)]
theorem k363_ok (l : Launch) : ckCtrOk l ckMT ckTW ckCL k363 := mt_200 (as := k363_a) (cs := k363_c) (gx := []) (f := 200000) rfl (ckHc (k357_ok l) (ckHc (k359_ok l) (ckHc (k362_ok l) (fun _ h => absurd h List.not_mem_nil)))) True.intro (by decide +kernel)
-- java/lang/String.indexOf
noncomputable def k364 : ckCtr := (199, ([(0, (4, 5)), (1, (0, 0))], [], [], [(0, 0)], [], [], [], [], 0, 0), [([], [(0, 1)], [], [], [], [(-1, -1)], [], [], [], [], 0, 0)], 4, 150, 0, 0)
noncomputable def k364_a : ckAs := []
noncomputable def k364_c : List (Nat × ckCtr) := [(3, k363)]
theorem k364_ok (l : Launch) : ckCtrOk l ckMT ckTW ckCL k364 := mt_199 (as := k364_a) (cs := k364_c) (gx := []) (f := 200000) rfl (ckHc (k363_ok l) (fun _ h => absurd h List.not_mem_nil)) True.intro (by decide +kernel)
noncomputable def dC322 : List ckC := [.inl (4, [(1, 1), (4, 10), (0, 0), (0, 1)]), .inl (0, [(4, 11), (0, 1)])]
-- FarMachine$RuleReader.next
noncomputable def k365 : ckCtr := (164, ([(0, (1, 0))], [], dC322, [(1, 1), (0, 0)], [], [], [], [], 0, 0), [([], [(0, 2)], [], [], [], [(-1, -1)], [], [], [], [], 0, 0)], 1, 80, 0, 0)
noncomputable def k365_a : ckAs := []
noncomputable def k365_c : List (Nat × ckCtr) := []
theorem k365_ok (l : Launch) : ckCtrOk l ckMT ckTW ckCL k365 := mt_164 (as := k365_a) (cs := k365_c) (gx := []) (f := 200000) rfl (fun _ h => absurd h List.not_mem_nil) True.intro (by decide +kernel)
-- FarMachine$RuleReader.isDigit
noncomputable def k366 : ckCtr := (163, ([(0, (0, 0))], [], [], [(-1, -1)], [], [], [], [], 0, 0), [([], [(0, 1)], [], [], [], [(0, 0)], [], [], [], [], 0, 0)], 1, 80, 0, 0)
noncomputable def k366_a : ckAs := []
noncomputable def k366_c : List (Nat × ckCtr) := []
theorem k366_ok (l : Launch) : ckCtrOk l ckMT ckTW ckCL k366 := mt_163 (as := k366_a) (cs := k366_c) (gx := []) (f := 200000) rfl (fun _ h => absurd h List.not_mem_nil) True.intro (by decide +kernel)
-- FarMachine$RuleReader.take
noncomputable def k367 : ckCtr := (165, ([(0, (1, 0)), (1, (0, 0))], [], [.inl (4, [(4, 10), (4, 11), (0, 0), (0, 0)])], [(0, 0)], [], [], [], [], 0, 0), [([], [], [(0, .inl (4, [(4, 10), (4, 11), (0, 1), (0, 0)]))], [], [], [(1, 1)], [], [], [], [], 0, 0)], 1, 80, 0, 0)
noncomputable def k367_a : ckAs := []
noncomputable def k367_c : List (Nat × ckCtr) := []
theorem k367_ok (l : Launch) : ckCtrOk l ckMT ckTW ckCL k367 := mt_165 (as := k367_a) (cs := k367_c) (gx := []) (f := 200000) rfl (fun _ h => absurd h List.not_mem_nil) True.intro (by decide +kernel)
-- FarMachine$RuleReader.readDigits
noncomputable def k368 : ckCtr := (162, ([(0, (1, 0))], [], dC321, [(0, 0)], [], [], [], [], 0, 0), [([], [(0, 1)], [(0, .inl (4, [(1, 1), (4, 10), (0, 2), (0, 0)]))], [], [], [(-49, -49), (1, 1)], [], [], [], [], 0, 0)], 2, 101, 0, 0)
noncomputable def k368_a : ckAs := []
noncomputable def k368_c : List (Nat × ckCtr) := [(14, k365), (17, k366), (24, k356), (33, k356), (36, k366), (39, k367)]
theorem k368_ok (l : Launch) : ckCtrOk l ckMT ckTW ckCL k368 := mt_162 (as := k368_a) (cs := k368_c) (gx := []) (f := 200000) rfl (ckHc (k365_ok l) (ckHc (k366_ok l) (ckHc (k356_ok l) (ckHc (k356_ok l) (ckHc (k366_ok l) (ckHc (k367_ok l) (fun _ h => absurd h List.not_mem_nil))))))) True.intro (by decide +kernel)
-- FarMachine$RuleReader.readUnit
noncomputable def k369 : ckCtr := (161, ([(0, (1, 0))], [], dC321, [(0, 0)], [], [], [], [], 0, 0), [([], [(0, 1)], [(0, .inl (4, [(1, 1), (4, 10), (0, 2), (0, 0)]))], [], [], [(-49, -49), (1, 1)], [], [], [], [], 0, 0)], 5, 171, 0, 0)
noncomputable def k369_a : ckAs := []
noncomputable def k369_c : List (Nat × ckCtr) := [(3, k356), (11, k364), (43, k356), (59, k368)]
theorem k369_ok (l : Launch) : ckCtrOk l ckMT ckTW ckCL k369 := mt_161 (as := k369_a) (cs := k369_c) (gx := []) (f := 200000) rfl (ckHc (k356_ok l) (ckHc (k364_ok l) (ckHc (k356_ok l) (ckHc (k368_ok l) (fun _ h => absurd h List.not_mem_nil))))) True.intro (by decide +kernel)
-- FarMachine$RuleReader.take
noncomputable def k370 : ckCtr := (165, ([(0, (1, 0)), (1, (0, 0))], [], [.inl (4, [(4, 10), (4, 11), (0, 1), (0, 0)])], [(0, 0), (1, 1)], [], [], [], [], 0, 0), [([], [], [], [], [], [], [], [], [], [], 0, 0)], 1, 80, 0, 0)
noncomputable def k370_a : ckAs := []
noncomputable def k370_c : List (Nat × ckCtr) := []
theorem k370_ok (l : Launch) : ckCtrOk l ckMT ckTW ckCL k370 := mt_165 (as := k370_a) (cs := k370_c) (gx := []) (f := 200000) rfl (fun _ h => absurd h List.not_mem_nil) True.intro (by decide +kernel)
-- FarMachine$RuleReader.readDigits
noncomputable def k371 : ckCtr := (162, ([(0, (1, 0))], [], dC322, [(1, 1), (0, 0)], [], [], [], [], 0, 0), [([], [(0, 2)], [], [], [], [(-49, -49)], [], [], [], [], 0, 0)], 2, 101, 0, 0)
noncomputable def k371_a : ckAs := []
noncomputable def k371_c : List (Nat × ckCtr) := [(14, k365), (17, k366), (24, k365), (33, k365), (36, k366), (39, k370)]
theorem k371_ok (l : Launch) : ckCtrOk l ckMT ckTW ckCL k371 := mt_162 (as := k371_a) (cs := k371_c) (gx := []) (f := 200000) rfl (ckHc (k365_ok l) (ckHc (k366_ok l) (ckHc (k365_ok l) (ckHc (k365_ok l) (ckHc (k366_ok l) (ckHc (k370_ok l) (fun _ h => absurd h List.not_mem_nil))))))) True.intro (by decide +kernel)
-- FarMachine$RuleReader.readUnit
noncomputable def k372 : ckCtr := (161, ([(0, (1, 0))], [], dC322, [(1, 1), (0, 0)], [], [], [], [], 0, 0), [([], [(0, 2)], [], [], [], [(-49, -49)], [], [], [], [], 0, 0)], 5, 171, 0, 0)
noncomputable def k372_a : ckAs := []
noncomputable def k372_c : List (Nat × ckCtr) := [(3, k365), (11, k364), (43, k365), (59, k371)]
theorem k372_ok (l : Launch) : ckCtrOk l ckMT ckTW ckCL k372 := mt_161 (as := k372_a) (cs := k372_c) (gx := []) (f := 200000) rfl (ckHc (k365_ok l) (ckHc (k364_ok l) (ckHc (k365_ok l) (ckHc (k371_ok l) (fun _ h => absurd h List.not_mem_nil))))) True.intro (by decide +kernel)
-- FarMachine$RuleReader.readTest
noncomputable def k373 : ckCtr := (160, ([(0, (1, 0))], [], dC321, [(0, 0)], [], [], [], [], 0, 0), [([], [], [(0, .inl (4, [(1, 1), (4, 10), (0, 1), (0, 0)]))], [], [], [(1, 1)], [], [], [], [], 0, 0)], 6, 192, 0, 0)
noncomputable def k373_a : ckAs := []
noncomputable def k373_c : List (Nat × ckCtr) := [(45, k369), (50, k365), (78, k370), (82, k372)]
theorem k373_ok (l : Launch) : ckCtrOk l ckMT ckTW ckCL k373 := mt_160 (as := k373_a) (cs := k373_c) (gx := []) (f := 200000) rfl (ckHc (k369_ok l) (ckHc (k365_ok l) (ckHc (k370_ok l) (ckHc (k372_ok l) (fun _ h => absurd h List.not_mem_nil))))) True.intro (by decide +kernel)
noncomputable def dC323 : List ckC := [.inl (4, [(1, 1), (1, 2), (0, 0), (0, 0)]), .inl (0, [(4, 10), (0, 0)]), .inl (5, [(4, 11), (4, 12), (4, 13), (4, 14), (1, 3), (0, 0)]), .inr (0, 1, 0)]
noncomputable def dP324 : List (Nat × ckC) := [(0, .inl (4, [(1, 1), (1, 2), (0, 2), (0, 0)])), (3, .inr (0, 1, 1))]
-- FarMachine$RuleReader.readRule
noncomputable def k374 : ckCtr := (159, ([(0, (1, 0))], [], dC323, [(0, 0), (10, 10)], [([(10, (0, 0))], [], [])], [], [], [], 0, 0), [([], [(0, 0)], dP324, [], [], [(1, 1)], [([(1, (0, 0)), (10, (0, 0))], [(0, 0)], [])], [], [], [], 0, 0)], 7, 216, 0, 0)
noncomputable def k374_a : ckAs := []
noncomputable def k374_c : List (Nat × ckCtr) := [(4, k355), (34, k373)]
theorem k374_ok (l : Launch) : ckCtrOk l ckMT ckTW ckCL k374 := mt_159 (as := k374_a) (cs := k374_c) (gx := []) (f := 200000) rfl (ckHc (k355_ok l) (ckHc (k373_ok l) (fun _ h => absurd h List.not_mem_nil))) True.intro (by decide +kernel)
noncomputable def dC325 : List ckC := [.inl (8, [(1, 1), (4, 10), (0, 0), (4, 11), (1, 2), (4, 12), (4, 13), (4, 14)]), .inl (7, [(4, 15), (4, 16), (0, 0), (4, 17), (4, 18), (4, 19), (4, 20), (1, 3), (4, 21), (4, 22)]), .inl (0, [(4, 23), (0, 0)]), .inl (5, [(4, 24), (4, 25), (4, 26), (4, 27), (1, 4), (0, 0)]), .inr (0, 1, 0)]
-- FarMachine.rule
noncomputable def k375 : ckCtr := (18, ([(0, (1, 0))], [], dC325, [(0, 0), (10, 10)], [([(10, (0, 0))], [], [])], [], [], [], 0, 0), [([], [(0, 2)], [(4, .inr (0, 1, 1))], [.inl (4, [(1, 2), (1, 3), (0, 3), (0, 0)])], [], [(-20, -20), (1, 1)], [([(1, (0, 0)), (10, (0, 0))], [(0, 0)], [])], [], [], [], 1, 4)], 8, 238, 1, 4)
noncomputable def k375_a : ckAs := []
noncomputable def k375_c : List (Nat × ckCtr) := [(37, k354), (42, k374)]
theorem k375_ok (l : Launch) : ckCtrOk l ckMT ckTW ckCL k375 := mt_18 (as := k375_a) (cs := k375_c) (gx := []) (f := 200000) rfl (ckHc (k354_ok l) (ckHc (k374_ok l) (fun _ h => absurd h List.not_mem_nil))) True.intro (by decide +kernel)
noncomputable def dC326 : List ckC := [.inl (9, [(4, 10), (4, 11), (4, 12), (4, 13), (4, 14), (4, 15), (4, 16), (4, 17), (4, 18), (4, 19), (4, 20), (4, 21), (4, 22), (4, 23), (4, 24), (4, 25), (0, 0), (0, 0), (0, 0), (0, 0), (0, 0), (0, 0), (0, 0), (4, 26), (0, 0), (4, 27), (0, 0), (0, 0), (0, 0), (0, 0), (4, 28), (0, 0), (0, 0), (0, 0), (0, 0), (4, 28), (4, 11), (0, 1), (4, 29), (4, 30), (0, 0), (0, 0)])]
-- FarMachineModel.sign
noncomputable def k376 : ckCtr := (83, ([(0, (1, 0))], [], dC326, [(0, 0), (1, 1)], [], [], [], [], 0, 0), [([], [(0, 2)], [], [], [], [(-1, -1)], [], [], [], [], 0, 0)], 1, 80, 0, 0)
noncomputable def k376_a : ckAs := []
noncomputable def k376_c : List (Nat × ckCtr) := []
theorem k376_ok (l : Launch) : ckCtrOk l ckMT ckTW ckCL k376 := mt_83 (as := k376_a) (cs := k376_c) (gx := []) (f := 200000) rfl (fun _ h => absurd h List.not_mem_nil) True.intro (by decide +kernel)
noncomputable def dC327 : List ckC := [.inl (9, [(4, 10), (4, 11), (4, 12), (4, 13), (4, 14), (4, 15), (4, 16), (4, 17), (4, 18), (4, 19), (4, 20), (4, 21), (4, 22), (4, 23), (4, 24), (4, 25), (0, 1), (0, 1), (0, 1), (0, 1), (0, 1), (0, 1), (0, 1), (4, 26), (0, 1), (4, 27), (0, 1), (0, 1), (0, 1), (0, 1), (4, 28), (0, 1), (0, 1), (0, 1), (0, 1), (4, 28), (4, 11), (0, 2), (4, 29), (4, 30), (0, 1), (0, 1)])]
-- FarMachineModel.takes
noncomputable def k377 : ckCtr := (84, ([(0, (1, 0)), (1, (0, 0))], [], dC327, [(33, 33), (0, 0), (1, 1)], [], [], [], [], 0, 0), [([], [(0, 1)], [], [], [], [], [], [], [], [], 0, 0)], 2, 100, 0, 0)
noncomputable def k377_a : ckAs := []
noncomputable def k377_c : List (Nat × ckCtr) := [(8, k376)]
theorem k377_ok (l : Launch) : ckCtrOk l ckMT ckTW ckCL k377 := mt_84 (as := k377_a) (cs := k377_c) (gx := []) (f := 200000) rfl (ckHc (k376_ok l) (fun _ h => absurd h List.not_mem_nil)) True.intro (by decide +kernel)
-- FarMachineModel.isDigit
noncomputable def k378 : ckCtr := (87, ([(0, (0, 0))], [], [], [(-1, -1)], [], [], [], [], 0, 0), [([], [(0, 1)], [], [], [], [(0, 0)], [], [], [], [], 0, 0)], 1, 80, 0, 0)
noncomputable def k378_a : ckAs := []
noncomputable def k378_c : List (Nat × ckCtr) := []
theorem k378_ok (l : Launch) : ckCtrOk l ckMT ckTW ckCL k378 := mt_87 (as := k378_a) (cs := k378_c) (gx := []) (f := 200000) rfl (fun _ h => absurd h List.not_mem_nil) True.intro (by decide +kernel)
noncomputable def dP328 : List (Nat × ckC) := [(0, .inl (9, [(4, 10), (4, 11), (4, 12), (4, 13), (4, 14), (4, 15), (4, 16), (4, 17), (4, 18), (4, 19), (4, 20), (4, 21), (4, 22), (4, 23), (4, 24), (4, 25), (0, 1), (0, 1), (0, 1), (0, 1), (0, 1), (0, 1), (0, 1), (4, 26), (0, 1), (4, 27), (0, 1), (0, 1), (0, 1), (0, 1), (4, 28), (0, 1), (0, 1), (0, 1), (0, 1), (4, 28), (4, 11), (0, 1), (4, 29), (4, 30), (0, 1), (0, 1)]))]
-- FarMachineModel.letter
noncomputable def k379 : ckCtr := (89, ([(0, (1, 0)), (1, (0, 0))], [], dC327, [(-1, -1), (0, 0), (1, 1)], [], [], [], [], 0, 0), [([], [(0, 1)], dP328, [], [], [], [], [], [], [], 0, 0)], 1, 80, 0, 0)
noncomputable def k379_a : ckAs := []
noncomputable def k379_c : List (Nat × ckCtr) := []
theorem k379_ok (l : Launch) : ckCtrOk l ckMT ckTW ckCL k379 := mt_89 (as := k379_a) (cs := k379_c) (gx := []) (f := 200000) rfl (fun _ h => absurd h List.not_mem_nil) True.intro (by decide +kernel)
noncomputable def dP329 : List (Nat × ckC) := [(0, .inl (9, [(4, 10), (4, 11), (4, 12), (4, 13), (4, 14), (4, 15), (4, 16), (4, 17), (4, 18), (4, 19), (4, 20), (4, 21), (4, 22), (4, 23), (4, 24), (4, 25), (0, 0), (0, 0), (0, 0), (0, 0), (0, 0), (0, 0), (0, 0), (4, 26), (0, 0), (4, 27), (0, 0), (0, 0), (0, 0), (0, 0), (4, 28), (0, 0), (0, 0), (0, 0), (0, 0), (4, 28), (4, 11), (0, 0), (4, 29), (4, 30), (0, 0), (0, 0)]))]
-- FarMachineModel.unit
noncomputable def k380 : ckCtr := (88, ([(0, (1, 0))], [], dC326, [(0, 0), (1, 1)], [], [], [], [], 0, 0), [([], [(0, 0)], dP329, [], [], [], [], [], [], [], 0, 0)], 2, 101, 0, 0)
noncomputable def k380_a : ckAs := []
noncomputable def k380_c : List (Nat × ckCtr) := [(10, k376), (21, k378), (29, k379)]
theorem k380_ok (l : Launch) : ckCtrOk l ckMT ckTW ckCL k380 := mt_88 (as := k380_a) (cs := k380_c) (gx := []) (f := 200000) rfl (ckHc (k376_ok l) (ckHc (k378_ok l) (ckHc (k379_ok l) (fun _ h => absurd h List.not_mem_nil)))) True.intro (by decide +kernel)
-- FarMachineModel.sign
noncomputable def k381 : ckCtr := (83, ([(0, (1, 0))], [], dC229, [(0, 0)], [], [], [], [], 0, 0), [([], [(0, 1)], [], [], [], [(-1, -1)], [], [], [], [], 0, 0)], 1, 80, 0, 0)
noncomputable def k381_a : ckAs := []
noncomputable def k381_c : List (Nat × ckCtr) := []
theorem k381_ok (l : Launch) : ckCtrOk l ckMT ckTW ckCL k381 := mt_83 (as := k381_a) (cs := k381_c) (gx := []) (f := 200000) rfl (fun _ h => absurd h List.not_mem_nil) True.intro (by decide +kernel)
-- FarMachineModel.test
noncomputable def k382 : ckCtr := (86, ([(0, (1, 0))], [], dC326, [(0, 0), (1, 1)], [], [], [], [], 0, 0), [([], [(0, 0)], dP329, [], [], [], [], [], [], [], 0, 0)], 3, 124, 0, 0)
noncomputable def k382_a : ckAs := []
noncomputable def k382_c : List (Nat × ckCtr) := [(3, k377), (23, k380), (28, k381)]
theorem k382_ok (l : Launch) : ckCtrOk l ckMT ckTW ckCL k382 := mt_86 (as := k382_a) (cs := k382_c) (gx := []) (f := 200000) rfl (ckHc (k377_ok l) (ckHc (k380_ok l) (ckHc (k381_ok l) (fun _ h => absurd h List.not_mem_nil)))) True.intro (by decide +kernel)
noncomputable def dC330 : List ckC := [.inl (9, [(4, 10), (4, 11), (4, 12), (4, 13), (4, 14), (4, 15), (4, 16), (4, 17), (4, 18), (4, 19), (4, 20), (4, 21), (4, 22), (4, 23), (4, 24), (4, 25), (0, 1), (0, 1), (0, 1), (0, 1), (0, 1), (0, 1), (0, 1), (4, 26), (0, 1), (4, 27), (0, 1), (0, 1), (0, 1), (0, 1), (4, 28), (0, 1), (0, 1), (0, 1), (0, 1), (4, 28), (4, 11), (0, 1), (4, 29), (4, 30), (0, 1), (0, 1)])]
-- FarMachineModel.takes
noncomputable def k383 : ckCtr := (84, ([(0, (1, 0)), (1, (0, 0))], [], dC330, [(38, 38), (0, 0)], [], [], [], [], 0, 0), [([], [(0, 1)], [], [], [], [], [], [], [], [], 0, 0)], 1, 80, 0, 0)
noncomputable def k383_a : ckAs := []
noncomputable def k383_c : List (Nat × ckCtr) := []
theorem k383_ok (l : Launch) : ckCtrOk l ckMT ckTW ckCL k383 := mt_84 (as := k383_a) (cs := k383_c) (gx := []) (f := 200000) rfl (fun _ h => absurd h List.not_mem_nil) True.intro (by decide +kernel)
-- FarMachineModel.and
noncomputable def k384 : ckCtr := (85, ([(0, (1, 0))], [], dC326, [(0, 0), (1, 1)], [], [], [], [], 0, 0), [([], [(0, 0)], dP329, [], [], [], [], [], [], [], 0, 0)], 4, 147, 0, 0)
noncomputable def k384_a : ckAs := []
noncomputable def k384_c : List (Nat × ckCtr) := [(1, k382), (8, k383)]
theorem k384_ok (l : Launch) : ckCtrOk l ckMT ckTW ckCL k384 := mt_85 (as := k384_a) (cs := k384_c) (gx := []) (f := 200000) rfl (ckHc (k382_ok l) (ckHc (k383_ok l) (fun _ h => absurd h List.not_mem_nil))) True.intro (by decide +kernel)
noncomputable def dC331 : List ckC := [.inl (9, [(4, 10), (1, 2), (4, 11), (4, 12), (4, 13), (4, 14), (4, 15), (4, 16), (4, 17), (4, 18), (4, 19), (4, 20), (4, 21), (4, 22), (4, 23), (4, 24), (0, 0), (0, 0), (0, 0), (0, 0), (0, 0), (0, 0), (0, 0), (4, 25), (0, 0), (4, 26), (0, 0), (0, 0), (0, 0), (0, 0), (1, 1), (0, 0), (0, 0), (0, 0), (0, 0), (1, 1), (1, 2), (0, 0), (4, 27), (4, 28), (0, 0), (0, 0)]), .inr (0, 1, 0), .inr (0, 2, 1)]
noncomputable def dG332 : List ckG := [([(30, (0, 0))], [], []), ([(50, (0, 0)), (51, (50, 50)), (52, (60, 60)), (54, (0, 0)), (55, (10, 10)), (56, (24, 24)), (57, (200, 200)), (58, (9, 9)), (318, (0, 0))], [], [])]
-- FarMachineModel.goesThrough
noncomputable def k385 : ckCtr := (90, ([(0, (1, 0)), (1, (1, 1)), (2, (0, 0)), (3, (0, 0)), (4, (1, 2))], [], dC331, [(0, 0), (30, 30), (318, 318)], dG332, [], [], [], 0, 0), [([], [(0, 0)], [], [], [], [], [], [], [], [], 0, 0)], 5, 169, 0, 0)
noncomputable def k385_a : ckAs := []
noncomputable def k385_c : List (Nat × ckCtr) := [(32, k384)]
theorem k385_ok (l : Launch) : ckCtrOk l ckMT ckTW ckCL k385 := mt_90 (as := k385_a) (cs := k385_c) (gx := []) (f := 200000) rfl (ckHc (k384_ok l) (fun _ h => absurd h List.not_mem_nil)) True.intro (by decide +kernel)
noncomputable def dC333 : List ckC := [.inl (9, [(4, 10), (1, 1), (4, 11), (4, 12), (4, 13), (4, 14), (4, 15), (4, 16), (4, 17), (4, 18), (4, 19), (4, 20), (4, 21), (4, 22), (4, 23), (4, 24), (0, 0), (0, 0), (0, 0), (0, 0), (0, 0), (0, 0), (0, 0), (4, 25), (0, 0), (4, 26), (0, 0), (0, 0), (0, 0), (0, 0), (1, 2), (0, 0), (0, 0), (0, 0), (0, 0), (1, 2), (1, 1), (0, 0), (4, 27), (4, 28), (0, 0), (0, 0)]), .inr (0, 1, 0), .inr (0, 2, 1)]
noncomputable def dG334 : List ckG := [([(50, (0, 0)), (51, (50, 50)), (52, (60, 60)), (54, (0, 0)), (55, (10, 10)), (56, (24, 24)), (57, (200, 200)), (58, (9, 9)), (318, (0, 0))], [], []), ([(30, (0, 0))], [], [])]
-- FarMachineModel.rule
noncomputable def k386 : ckCtr := (91, ([(0, (1, 0))], [], dC333, [(0, 0), (318, 318), (30, 30)], dG334, [], [], [], 0, 0), [([], [(0, 3)], [], [], [], [(-20, -20)], [], [], [], [], 0, 0)], 6, 193, 0, 0)
noncomputable def k386_a : ckAs := []
noncomputable def k386_c : List (Nat × ckCtr) := [(30, k385)]
theorem k386_ok (l : Launch) : ckCtrOk l ckMT ckTW ckCL k386 := mt_91 (as := k386_a) (cs := k386_c) (gx := []) (f := 200000) rfl (ckHc (k385_ok l) (fun _ h => absurd h List.not_mem_nil)) True.intro (by decide +kernel)
noncomputable def dC335 : List ckC := [.inl (8, [(1, 1), (4, 10), (0, 1), (4, 11), (4, 12), (4, 13), (4, 14), (1, 2)]), .inl (7, [(4, 15), (4, 16), (0, 1), (4, 17), (4, 18), (4, 19), (4, 20), (1, 3), (4, 21), (4, 22)]), .inr (0, 2, 0), .inl (5, [(4, 23), (4, 24), (4, 25), (4, 26), (4, 27), (0, 1)])]
-- FarMachine.holds
noncomputable def k387 : ckCtr := (19, ([(0, (1, 0)), (1, (0, 0))], [], dC335, [ckTop, (0, 0), (7, 7)], [([(7, (0, 0))], [], [])], [], [], [], 0, 0), [([], [(0, 3)], [(2, .inr (0, 2, 1))], [], [(0, (0, 2147483647))], [(-1, -1), (1, 1)], [([(1, (0, 0)), (2, (1, 1)), (7, (0, 0))], [(1, 4)], [])], [], [], [], 0, 0), ([], [(0, 3)], [(2, .inr (0, 2, 1))], [], [(0, (-2147483648, -1))], [(-1, -1), (1, 1)], [([(1, (0, 0)), (2, (1, 1)), (7, (0, 0))], [(1, 4)], [])], [], [], [], 0, 0)], 2, 101, 0, 0)
noncomputable def k387_a : ckAs := []
noncomputable def k387_c : List (Nat × ckCtr) := [(20, k14)]
theorem k387_ok (l : Launch) : ckCtrOk l ckMT ckTW ckCL k387 := mt_19 (as := k387_a) (cs := k387_c) (gx := []) (f := 200000) rfl (ckHc (k14_ok l) (fun _ h => absurd h List.not_mem_nil)) True.intro (by decide +kernel)
-- FarMachineModel.isIn
noncomputable def k388 : ckCtr := (45, ([(0, (0, 0)), (1, (0, 1))], [], [], [(-2147483648, -1), (0, 0)], [], [], [], [], 0, 0), [([], [(0, 1)], [], [], [], [], [], [], [], [], 0, 0)], 1, 80, 0, 0)
noncomputable def k388_a : ckAs := []
noncomputable def k388_c : List (Nat × ckCtr) := []
theorem k388_ok (l : Launch) : ckCtrOk l ckMT ckTW ckCL k388 := mt_45 (as := k388_a) (cs := k388_c) (gx := []) (f := 200000) rfl (fun _ h => absurd h List.not_mem_nil) True.intro (by decide +kernel)
-- FarMachineModel.holds
noncomputable def k389 : ckCtr := (93, ([(0, (1, 0)), (1, (0, 0))], [], dC42, [(-2147483648, -1), (0, 0), (7, 7)], [([(7, (0, 0))], [], [])], [], [], [], 0, 0), [([], [(0, 3)], [(1, .inr (0, 2, 1))], [], [], [(-1, -1), (1, 1)], [([(1, (0, 0)), (2, (1, 1)), (7, (0, 0))], [(1, 4)], [])], [], [], [], 0, 0)], 2, 101, 0, 0)
noncomputable def k389_a : ckAs := []
noncomputable def k389_c : List (Nat × ckCtr) := [(5, k388), (33, k31)]
theorem k389_ok (l : Launch) : ckCtrOk l ckMT ckTW ckCL k389 := mt_93 (as := k389_a) (cs := k389_c) (gx := []) (f := 200000) rfl (ckHc (k388_ok l) (ckHc (k31_ok l) (fun _ h => absurd h List.not_mem_nil))) True.intro (by decide +kernel)
-- FarMachineModel.isIn
noncomputable def k390 : ckCtr := (45, ([(0, (0, 0)), (1, (0, 1))], [], [], [(0, 2147483647), (0, 0)], [], [], [], [], 0, 0), [([], [(0, 1)], [], [], [], [], [], [], [], [], 0, 0)], 1, 80, 0, 0)
noncomputable def k390_a : ckAs := []
noncomputable def k390_c : List (Nat × ckCtr) := []
theorem k390_ok (l : Launch) : ckCtrOk l ckMT ckTW ckCL k390 := mt_45 (as := k390_a) (cs := k390_c) (gx := []) (f := 200000) rfl (fun _ h => absurd h List.not_mem_nil) True.intro (by decide +kernel)
-- FarMachineModel.holds
noncomputable def k391 : ckCtr := (93, ([(0, (1, 0)), (1, (0, 0))], [], dC42, [(0, 2147483647), (0, 0), (7, 7)], [([(7, (0, 0))], [], [])], [], [], [], 0, 0), [([], [(0, 3)], [(1, .inr (0, 2, 1))], [], [], [(-1, -1), (1, 1)], [([(1, (0, 0)), (2, (1, 1)), (7, (0, 0))], [(1, 4)], [])], [], [], [], 0, 0)], 2, 101, 0, 0)
noncomputable def k391_a : ckAs := []
noncomputable def k391_c : List (Nat × ckCtr) := [(5, k390), (33, k31)]
theorem k391_ok (l : Launch) : ckCtrOk l ckMT ckTW ckCL k391 := mt_93 (as := k391_a) (cs := k391_c) (gx := []) (f := 200000) rfl (ckHc (k390_ok l) (ckHc (k31_ok l) (fun _ h => absurd h List.not_mem_nil))) True.intro (by decide +kernel)
-- FarMachine.broken
noncomputable def k392 : ckCtr := (20, ([(0, (1, 0)), (1, (0, 0)), (2, (0, 1))], [], dC270, [ckTop, ckTop, (0, 0), (7, 7)], [([(7, (0, 0))], [], [])], [], [], [], 0, 0), [([], [(0, 4)], [(2, .inr (0, 3, 1))], [], [(0, (1, 2147483647))], [(-1, -1), (1, 1)], [([(1, (0, 0)), (2, (1, 1)), (7, (0, 0))], [(1, 5)], [])], [], [], [], 0, 0), ([], [(0, 4)], [(2, .inr (0, 3, 1))], [], [(0, (-2147483648, -1))], [(-1, -1), (1, 1)], [([(1, (0, 0)), (2, (1, 1)), (7, (0, 0))], [(1, 5)], [])], [], [], [], 0, 0), ([], [(0, 4)], [(2, .inr (0, 3, 1))], [], [(0, (0, 0)), (1, (61, 2147483647))], [(-6, -6), (1, 1)], [([(6, (0, 0)), (7, (1, 1))], [(6, 5)], [])], [], [], [], 0, 0), ([], [(0, 4)], [(2, .inr (0, 3, 1))], [], [(0, (0, 0)), (1, (-2147483648, 0))], [(-4, -4), (1, 1)], [([(4, (0, 0)), (5, (1, 1)), (7, (0, 0))], [(4, 5)], [])], [], [], [], 0, 0), ([], [(0, 4)], [(2, .inr (0, 3, 1))], [], [(0, (0, 0)), (1, (1, 60))], [(-3, -3), (1, 1)], [([(3, (0, 0)), (4, (1, 1)), (7, (0, 0))], [(3, 5)], [])], [], [], [], 0, 0)], 3, 121, 0, 0)
noncomputable def k392_a : ckAs := []
noncomputable def k392_c : List (Nat × ckCtr) := [(3, k309), (8, k310), (8, k311), (18, k14), (18, k16), (18, k15), (18, k312)]
theorem k392_ok (l : Launch) : ckCtrOk l ckMT ckTW ckCL k392 := mt_20 (as := k392_a) (cs := k392_c) (gx := []) (f := 200000) rfl (ckHc (k309_ok l) (ckHc (k310_ok l) (ckHc (k311_ok l) (ckHc (k14_ok l) (ckHc (k16_ok l) (ckHc (k15_ok l) (ckHc (k312_ok l) (fun _ h => absurd h List.not_mem_nil)))))))) True.intro (by decide +kernel)
-- FarMachineModel.broken
noncomputable def k393 : ckCtr := (95, ([(0, (1, 0)), (1, (0, 0)), (2, (0, 1))], [], dC106, [(0, 0), (1, 60), (7, 7)], [([(7, (0, 0))], [], [])], [], [], [], 0, 0), [([], [(0, 3)], [(1, .inr (0, 2, 1))], [], [], [(-3, -3), (1, 1)], [([(3, (0, 0)), (4, (1, 1)), (7, (0, 0))], [(3, 4)], [])], [], [], [], 0, 0)], 2, 102, 0, 0)
noncomputable def k393_a : ckAs := []
noncomputable def k393_c : List (Nat × ckCtr) := [(7, k314), (17, k315), (45, k316)]
theorem k393_ok (l : Launch) : ckCtrOk l ckMT ckTW ckCL k393 := mt_95 (as := k393_a) (cs := k393_c) (gx := []) (f := 200000) rfl (ckHc (k314_ok l) (ckHc (k315_ok l) (ckHc (k316_ok l) (fun _ h => absurd h List.not_mem_nil)))) True.intro (by decide +kernel)
-- FarMachineModel.broken
noncomputable def k394 : ckCtr := (95, ([(0, (1, 0)), (1, (0, 0)), (2, (0, 1))], [], dC106, [(0, 0), (61, 2147483647), (7, 7)], [([(7, (0, 0))], [], [])], [], [], [], 0, 0), [([], [(0, 3)], [(1, .inr (0, 2, 1))], [], [], [(-6, -6), (1, 1)], [([(6, (0, 0)), (7, (1, 1))], [(6, 4)], [])], [], [], [], 0, 0)], 2, 102, 0, 0)
noncomputable def k394_a : ckAs := []
noncomputable def k394_c : List (Nat × ckCtr) := [(7, k314), (17, k318), (45, k25)]
theorem k394_ok (l : Launch) : ckCtrOk l ckMT ckTW ckCL k394 := mt_95 (as := k394_a) (cs := k394_c) (gx := []) (f := 200000) rfl (ckHc (k314_ok l) (ckHc (k318_ok l) (ckHc (k25_ok l) (fun _ h => absurd h List.not_mem_nil)))) True.intro (by decide +kernel)
-- FarMachineModel.broken
noncomputable def k395 : ckCtr := (95, ([(0, (1, 0)), (1, (0, 0)), (2, (0, 1))], [], dC106, [(0, 0), (-2147483648, 0), (7, 7)], [([(7, (0, 0))], [], [])], [], [], [], 0, 0), [([], [(0, 3)], [(1, .inr (0, 2, 1))], [], [], [(-4, -4), (1, 1)], [([(4, (0, 0)), (5, (1, 1)), (7, (0, 0))], [(4, 4)], [])], [], [], [], 0, 0)], 2, 102, 0, 0)
noncomputable def k395_a : ckAs := []
noncomputable def k395_c : List (Nat × ckCtr) := [(7, k314), (17, k320), (45, k28)]
theorem k395_ok (l : Launch) : ckCtrOk l ckMT ckTW ckCL k395 := mt_95 (as := k395_a) (cs := k395_c) (gx := []) (f := 200000) rfl (ckHc (k314_ok l) (ckHc (k320_ok l) (ckHc (k28_ok l) (fun _ h => absurd h List.not_mem_nil)))) True.intro (by decide +kernel)
-- FarMachineModel.broken
noncomputable def k396 : ckCtr := (95, ([(0, (1, 0)), (1, (0, 0)), (2, (0, 1))], [], dC43, [(1, 2147483647), ckTop, (0, 0), (7, 7)], [([(7, (0, 0))], [], [])], [], [], [], 0, 0), [([], [(0, 4)], [(1, .inr (0, 3, 1))], [], [], [(-1, -1), (1, 1)], [([(1, (0, 0)), (2, (1, 1)), (7, (0, 0))], [(1, 5)], [])], [], [], [], 0, 0)], 2, 101, 0, 0)
noncomputable def k396_a : ckAs := []
noncomputable def k396_c : List (Nat × ckCtr) := [(7, k322), (45, k31)]
theorem k396_ok (l : Launch) : ckCtrOk l ckMT ckTW ckCL k396 := mt_95 (as := k396_a) (cs := k396_c) (gx := []) (f := 200000) rfl (ckHc (k322_ok l) (ckHc (k31_ok l) (fun _ h => absurd h List.not_mem_nil))) True.intro (by decide +kernel)
-- FarMachineModel.broken
noncomputable def k397 : ckCtr := (95, ([(0, (1, 0)), (1, (0, 0)), (2, (0, 1))], [], dC43, [(-2147483648, -1), ckTop, (0, 0), (7, 7)], [([(7, (0, 0))], [], [])], [], [], [], 0, 0), [([], [(0, 4)], [(1, .inr (0, 3, 1))], [], [], [(-1, -1), (1, 1)], [([(1, (0, 0)), (2, (1, 1)), (7, (0, 0))], [(1, 5)], [])], [], [], [], 0, 0)], 2, 101, 0, 0)
noncomputable def k397_a : ckAs := []
noncomputable def k397_c : List (Nat × ckCtr) := [(7, k324), (45, k31)]
theorem k397_ok (l : Launch) : ckCtrOk l ckMT ckTW ckCL k397 := mt_95 (as := k397_a) (cs := k397_c) (gx := []) (f := 200000) rfl (ckHc (k324_ok l) (ckHc (k31_ok l) (fun _ h => absurd h List.not_mem_nil))) True.intro (by decide +kernel)
-- FarMachine$Commands.isFull
noncomputable def k398 : ckCtr := (118, ([(0, (1, 0))], [], dC128, [(0, 0), (6, 6)], [([(6, (0, 0))], [], [])], [], [], [], 0, 0), [([], [(0, 0)], [], [], [], [], [], [], [], [], 0, 0)], 1, 80, 0, 0)
noncomputable def k398_a : ckAs := []
noncomputable def k398_c : List (Nat × ckCtr) := []
theorem k398_ok (l : Launch) : ckCtrOk l ckMT ckTW ckCL k398 := mt_118 (as := k398_a) (cs := k398_c) (gx := []) (f := 200000) rfl (fun _ h => absurd h List.not_mem_nil) True.intro (by decide +kernel)
noncomputable def dC336 : List ckC := [.inl (1, [(1, 1), (1, 2), (1, 3), (1, 4), (0, 0)]), .inr (0, 3, 0), .inr (0, 3, 1), .inr (0, 3, 2), .inr (0, 3, 3)]
noncomputable def dP337 : List (Nat × ckC) := [(0, .inl (1, [(1, 1), (1, 2), (1, 3), (1, 4), (0, 4)])), (1, .inr (0, 3, 4)), (2, .inr (0, 3, 5)), (3, .inr (0, 3, 6)), (4, .inr (0, 3, 7))]
noncomputable def dG338 : List ckG := [([(1, (0, 0)), (6, (0, 0))], [(0, 0)], []), ([(1, (0, 47)), (6, (0, 0))], [(0, 1)], []), ([(1, (0, 255)), (6, (0, 0))], [(0, 2)], []), ([(1, (0, 0)), (6, (0, 0))], [(0, 0)], [])]
-- FarMachine$Commands.add
noncomputable def k399 : ckCtr := (120, ([(0, (1, 0)), (1, (0, 0)), (2, (0, 1)), (3, (0, 2)), (4, (0, 0))], [], dC336, [(0, 0), (0, 47), (0, 255), (6, 6)], dG11, [], [], [], 0, 0), [([], [], dP337, [], [], [(1, 1)], dG338, [], [], [], 0, 0)], 1, 80, 0, 0)
noncomputable def k399_a : ckAs := []
noncomputable def k399_c : List (Nat × ckCtr) := []
theorem k399_ok (l : Launch) : ckCtrOk l ckMT ckTW ckCL k399 := mt_120 (as := k399_a) (cs := k399_c) (gx := []) (f := 200000) rfl (fun _ h => absurd h List.not_mem_nil) True.intro (by decide +kernel)
noncomputable def dC339 : List ckC := [.inl (1, [(1, 1), (1, 2), (1, 3), (1, 4), (0, 3)]), .inr (0, 4, 0), .inr (0, 4, 1), .inr (0, 4, 2), .inr (0, 4, 3)]
noncomputable def dP340 : List (Nat × ckC) := [(0, .inl (1, [(1, 1), (1, 2), (1, 3), (1, 4), (0, 0)])), (1, .inr (0, 4, 4)), (2, .inr (0, 4, 5)), (3, .inr (0, 4, 6)), (4, .inr (0, 4, 7))]
noncomputable def dG341 : List ckG := [([(1, (1, 1)), (6, (0, 0))], [(0, 0)], []), ([(1, ckTop), (6, (0, 0))], [(0, 1)], []), ([(1, (0, 47)), (6, (0, 0))], [(0, 2)], []), ([(1, (0, 0)), (6, (0, 0))], [(0, 3)], [])]
-- FarMachine$Commands.add
noncomputable def k400 : ckCtr := (120, ([(0, (1, 0)), (1, (0, 0)), (2, (0, 1)), (3, (0, 2)), (4, (0, 3))], [], dC339, [(1, 1), ckTop, (0, 47), (0, 0), (6, 6)], dG11, [], [], [], 0, 0), [([], [], dP340, [], [], [], dG341, [], [], [], 0, 0)], 1, 80, 0, 0)
noncomputable def k400_a : ckAs := []
noncomputable def k400_c : List (Nat × ckCtr) := []
theorem k400_ok (l : Launch) : ckCtrOk l ckMT ckTW ckCL k400 := mt_120 (as := k400_a) (cs := k400_c) (gx := []) (f := 200000) rfl (fun _ h => absurd h List.not_mem_nil) True.intro (by decide +kernel)
noncomputable def dG342 : List ckG := [([(1, (2, 2)), (6, (0, 0))], [(0, 0)], []), ([(1, ckTop), (6, (0, 0))], [(0, 1)], []), ([(1, ckTop), (6, (0, 0))], [(0, 2)], []), ([(1, (0, 0)), (6, (0, 0))], [(0, 3)], [])]
-- FarMachine$Commands.add
noncomputable def k401 : ckCtr := (120, ([(0, (1, 0)), (1, (0, 0)), (2, (0, 1)), (3, (0, 2)), (4, (0, 3))], [], dC339, [(2, 2), ckTop, ckTop, (0, 0), (6, 6)], dG11, [], [], [], 0, 0), [([], [], dP214, [], [], [(1, 1)], dG342, [], [], [], 0, 0)], 1, 80, 0, 0)
noncomputable def k401_a : ckAs := []
noncomputable def k401_c : List (Nat × ckCtr) := []
theorem k401_ok (l : Launch) : ckCtrOk l ckMT ckTW ckCL k401 := mt_120 (as := k401_a) (cs := k401_c) (gx := []) (f := 200000) rfl (fun _ h => absurd h List.not_mem_nil) True.intro (by decide +kernel)
noncomputable def dC343 : List ckC := [.inl (8, [(1, 1), (4, 10), (0, 3), (4, 11), (4, 12), (4, 13), (4, 14), (1, 2)]), .inl (7, [(4, 15), (4, 16), (0, 3), (4, 17), (4, 18), (4, 19), (4, 20), (4, 21), (1, 3), (4, 22)]), .inr (0, 4, 0), .inl (1, [(1, 4), (1, 5), (1, 6), (1, 7), (0, 3)]), .inr (0, 5, 1), .inr (0, 5, 2), .inr (0, 5, 3), .inr (0, 5, 4)]
noncomputable def dG344 : List ckG := [([(7, (0, 0))], [], []), ([(6, (0, 0))], [], []), ([(6, (0, 0))], [], []), ([(6, (0, 0))], [], []), ([(6, (0, 0))], [], [])]
noncomputable def dP345 : List (Nat × ckC) := [(3, .inl (1, [(1, 4), (1, 5), (1, 6), (1, 7), (0, 6)])), (4, .inr (0, 5, 5)), (5, .inr (0, 5, 6)), (6, .inr (0, 5, 7)), (7, .inr (0, 5, 8))]
noncomputable def dP346 : List (Nat × ckC) := [(3, .inl (1, [(1, 4), (1, 5), (1, 6), (1, 7), (0, 0)])), (4, .inr (0, 5, 5)), (5, .inr (0, 5, 6)), (6, .inr (0, 5, 7)), (7, .inr (0, 5, 8))]
-- FarMachine.ask
noncomputable def k402 : ckCtr := (21, ([(0, (1, 0)), (1, (0, 0)), (2, (0, 1)), (3, (0, 2))], [], dC343, [ckTop, ckTop, ckTop, (0, 0), (7, 7), (6, 6)], dG344, [], [], [], 0, 0), [([], [(0, 6)], [(2, .inr (0, 4, 5))], [], [(0, (0, 0)), (1, (48, 2147483647))], [(-1, -1), (1, 1)], [([(1, (0, 0)), (2, (1, 1)), (7, (0, 0))], [(1, 7)], [])], [], [], [], 0, 0), ([], [(0, 6)], [(2, .inr (0, 4, 5))], [], [(0, (0, 0)), (1, (-2147483648, -1))], [(-1, -1), (1, 1)], [([(1, (0, 0)), (2, (1, 1)), (7, (0, 0))], [(1, 7)], [])], [], [], [], 0, 0), ([], [(0, 6)], [(2, .inr (0, 4, 5))], [], [(0, (0, 0)), (1, (0, 47)), (2, (-2147483648, -1))], [(-4, -4), (1, 1)], [([(4, (0, 0)), (5, (1, 1)), (7, (0, 0))], [(4, 7)], [])], [], [], [], 0, 0), ([], [(0, 3)], dP345, [], [(0, (0, 0)), (1, (0, 47)), (2, (0, 255))], [(1, 1)], dG338, [], [], [], 0, 0), ([], [(0, 6)], [(2, .inr (0, 4, 5))], [], [(0, (0, 0)), (1, (0, 47)), (2, (256, 2147483647))], [(-6, -6), (1, 1)], [([(6, (0, 0)), (7, (1, 1))], [(6, 7)], [])], [], [], [], 0, 0), ([], [(0, 6)], [(2, .inr (0, 4, 5))], [], [(0, (1, 1)), (2, (-2147483648, -1))], [(-4, -4), (1, 1)], [([(4, (0, 0)), (5, (1, 1)), (7, (0, 0))], [(4, 7)], [])], [], [], [], 0, 0), ([], [(0, 6)], [(2, .inr (0, 4, 5))], [], [(0, (1, 1)), (2, (48, 2147483647))], [(-6, -6), (1, 1)], [([(6, (0, 0)), (7, (1, 1))], [(6, 7)], [])], [], [], [], 0, 0), ([], [(0, 3)], dP346, [], [(0, (1, 1)), (2, (0, 47))], [], dG341, [], [], [], 0, 0), ([], [(0, 3)], dP345, [], [(0, (2, 2))], [(1, 1)], dG342, [], [], [], 0, 0), ([], [(0, 6)], [(2, .inr (0, 4, 5))], [], [(0, (-2147483648, -1))], [(-2, -2), (1, 1)], [([(2, (0, 0)), (3, (1, 1)), (7, (0, 0))], [(2, 7)], [])], [], [], [], 0, 0), ([], [(0, 6)], [(2, .inr (0, 4, 5))], [], [(0, (3, 2147483647))], [(-2, -2), (1, 1)], [([(2, (0, 0)), (3, (1, 1)), (7, (0, 0))], [(2, 7)], [])], [], [], [], 0, 0)], 3, 124, 0, 0)
noncomputable def k402_a : ckAs := []
noncomputable def k402_c : List (Nat × ckCtr) := [(10, k398), (13, k241), (26, k14), (26, k15), (26, k16), (26, k39), (41, k399), (41, k400), (41, k401)]
theorem k402_ok (l : Launch) : ckCtrOk l ckMT ckTW ckCL k402 := mt_21 (as := k402_a) (cs := k402_c) (gx := []) (f := 200000) rfl (ckHc (k398_ok l) (ckHc (k241_ok l) (ckHc (k14_ok l) (ckHc (k15_ok l) (ckHc (k16_ok l) (ckHc (k39_ok l) (ckHc (k399_ok l) (ckHc (k400_ok l) (ckHc (k401_ok l) (fun _ h => absurd h List.not_mem_nil)))))))))) True.intro (by decide +kernel)
noncomputable def dC347 : List ckC := [.inl (9, [(4, 10), (4, 11), (4, 12), (4, 13), (4, 14), (4, 15), (4, 16), (4, 17), (4, 18), (1, 1), (1, 2), (1, 3), (4, 19), (4, 20), (4, 21), (4, 22), (0, 0), (0, 0), (0, 0), (0, 0), (0, 0), (0, 0), (0, 0), (4, 23), (0, 0), (4, 24), (0, 0), (0, 0), (0, 0), (0, 0), (4, 25), (0, 0), (0, 0), (0, 0), (0, 0), (4, 25), (4, 11), (0, 0), (4, 26), (4, 27), (0, 0), (0, 0)]), .inr (0, 3, 0), .inr (0, 3, 1), .inr (0, 3, 2)]
noncomputable def dG348 : List ckG := [([(6, (0, 0))], [], []), ([(6, (0, 0))], [], []), ([(6, (0, 0))], [], [])]
noncomputable def dP349 : List (Nat × ckC) := [(0, .inl (9, [(4, 10), (4, 11), (4, 12), (4, 13), (4, 14), (4, 15), (4, 16), (4, 17), (4, 18), (1, 1), (1, 2), (1, 3), (4, 19), (4, 20), (4, 21), (4, 22), (0, 0), (0, 0), (0, 0), (0, 0), (0, 4), (0, 0), (0, 0), (4, 23), (0, 0), (4, 24), (0, 0), (0, 0), (0, 0), (0, 0), (4, 25), (0, 0), (0, 0), (0, 0), (0, 0), (4, 25), (4, 11), (0, 0), (4, 26), (4, 27), (0, 0), (0, 0)])), (1, .inr (0, 3, 3)), (2, .inr (0, 3, 4)), (3, .inr (0, 3, 5))]
noncomputable def dG350 : List ckG := [([(1, (0, 0)), (6, (0, 0))], [(0, 0)], []), ([(1, (0, 47)), (6, (0, 0))], [(0, 1)], []), ([(1, (0, 255)), (6, (0, 0))], [(0, 2)], [])]
-- FarMachineModel.ask
noncomputable def k403 : ckCtr := (96, ([(0, (1, 0)), (1, (0, 0)), (2, (0, 1)), (3, (0, 2))], [], dC347, [(0, 0), (0, 47), (0, 255), (6, 6)], dG348, [], [], [], 0, 0), [([], [(0, 0)], dP349, [], [], [(1, 1)], dG350, [], [], [], 0, 0)], 3, 127, 0, 0)
noncomputable def k403_a : ckAs := []
noncomputable def k403_c : List (Nat × ckCtr) := [(18, k247)]
theorem k403_ok (l : Launch) : ckCtrOk l ckMT ckTW ckCL k403 := mt_96 (as := k403_a) (cs := k403_c) (gx := []) (f := 200000) rfl (ckHc (k247_ok l) (fun _ h => absurd h List.not_mem_nil)) True.intro (by decide +kernel)
noncomputable def dC351 : List ckC := [.inl (9, [(1, 1), (4, 10), (4, 11), (4, 12), (4, 13), (4, 14), (4, 15), (4, 16), (4, 17), (4, 18), (4, 19), (4, 20), (4, 21), (4, 22), (4, 23), (4, 24), (0, 0), (0, 0), (0, 0), (0, 0), (0, 0), (0, 0), (0, 0), (4, 25), (0, 0), (4, 26), (0, 0), (0, 0), (0, 0), (0, 0), (4, 27), (0, 0), (0, 0), (0, 0), (0, 0), (4, 27), (4, 10), (0, 0), (4, 28), (4, 29), (0, 0), (0, 0)]), .inr (0, 3, 0)]
-- FarMachineModel.ask
noncomputable def k404 : ckCtr := (96, ([(0, (1, 0)), (1, (0, 0)), (2, (0, 1)), (3, (0, 2))], [], dC351, [(0, 0), (0, 47), (256, 2147483647), (7, 7)], [([(7, (0, 0))], [], [])], [], [], [], 0, 0), [([], [(0, 4)], [(1, .inr (0, 3, 1))], [], [], [(-6, -6), (1, 1)], [([(6, (0, 0)), (7, (1, 1))], [(6, 5)], [])], [], [], [], 0, 0)], 3, 127, 0, 0)
noncomputable def k404_a : ckAs := []
noncomputable def k404_c : List (Nat × ckCtr) := [(18, k249), (31, k25)]
theorem k404_ok (l : Launch) : ckCtrOk l ckMT ckTW ckCL k404 := mt_96 (as := k404_a) (cs := k404_c) (gx := []) (f := 200000) rfl (ckHc (k249_ok l) (ckHc (k25_ok l) (fun _ h => absurd h List.not_mem_nil))) True.intro (by decide +kernel)
-- FarMachineModel.ask
noncomputable def k405 : ckCtr := (96, ([(0, (1, 0)), (1, (0, 0)), (2, (0, 1)), (3, (0, 2))], [], dC351, [(0, 0), (0, 47), (-2147483648, -1), (7, 7)], [([(7, (0, 0))], [], [])], [], [], [], 0, 0), [([], [(0, 4)], [(1, .inr (0, 3, 1))], [], [], [(-4, -4), (1, 1)], [([(4, (0, 0)), (5, (1, 1)), (7, (0, 0))], [(4, 5)], [])], [], [], [], 0, 0)], 3, 127, 0, 0)
noncomputable def k405_a : ckAs := []
noncomputable def k405_c : List (Nat × ckCtr) := [(18, k251), (31, k28)]
theorem k405_ok (l : Launch) : ckCtrOk l ckMT ckTW ckCL k405 := mt_96 (as := k405_a) (cs := k405_c) (gx := []) (f := 200000) rfl (ckHc (k251_ok l) (ckHc (k28_ok l) (fun _ h => absurd h List.not_mem_nil))) True.intro (by decide +kernel)
noncomputable def dC352 : List ckC := [.inl (9, [(4, 10), (4, 11), (4, 12), (4, 13), (4, 14), (4, 15), (4, 16), (4, 17), (4, 18), (1, 1), (1, 2), (1, 3), (4, 19), (4, 20), (4, 21), (4, 22), (0, 3), (0, 3), (0, 3), (0, 3), (0, 3), (0, 3), (0, 3), (4, 23), (0, 3), (4, 24), (0, 3), (0, 3), (0, 3), (0, 3), (4, 25), (0, 3), (0, 3), (0, 3), (0, 3), (4, 25), (4, 11), (0, 3), (4, 26), (4, 27), (0, 3), (0, 3)]), .inr (0, 4, 0), .inr (0, 4, 1), .inr (0, 4, 2)]
noncomputable def dP353 : List (Nat × ckC) := [(0, .inl (9, [(4, 10), (4, 11), (4, 12), (4, 13), (4, 14), (4, 15), (4, 16), (4, 17), (4, 18), (1, 1), (1, 2), (1, 3), (4, 19), (4, 20), (4, 21), (4, 22), (0, 3), (0, 3), (0, 3), (0, 3), (0, 0), (0, 3), (0, 3), (4, 23), (0, 3), (4, 24), (0, 3), (0, 3), (0, 3), (0, 3), (4, 25), (0, 3), (0, 3), (0, 3), (0, 3), (4, 25), (4, 11), (0, 3), (4, 26), (4, 27), (0, 3), (0, 3)])), (1, .inr (0, 4, 3)), (2, .inr (0, 4, 4)), (3, .inr (0, 4, 5))]
noncomputable def dG354 : List ckG := [([(1, (1, 1)), (6, (0, 0))], [(0, 0)], []), ([(1, ckTop), (6, (0, 0))], [(0, 1)], []), ([(1, (0, 47)), (6, (0, 0))], [(0, 2)], [])]
-- FarMachineModel.ask
noncomputable def k406 : ckCtr := (96, ([(0, (1, 0)), (1, (0, 0)), (2, (0, 1)), (3, (0, 2))], [], dC352, [(1, 1), ckTop, (0, 47), (0, 0), (6, 6)], dG348, [], [], [], 0, 0), [([], [(0, 3)], dP353, [], [], [], dG354, [], [], [], 0, 0)], 3, 127, 0, 0)
noncomputable def k406_a : ckAs := []
noncomputable def k406_c : List (Nat × ckCtr) := [(18, k254)]
theorem k406_ok (l : Launch) : ckCtrOk l ckMT ckTW ckCL k406 := mt_96 (as := k406_a) (cs := k406_c) (gx := []) (f := 200000) rfl (ckHc (k254_ok l) (fun _ h => absurd h List.not_mem_nil)) True.intro (by decide +kernel)
-- FarMachineModel.ask
noncomputable def k407 : ckCtr := (96, ([(0, (1, 0)), (1, (0, 0)), (2, (0, 1)), (3, (0, 2))], [], dC59, [(1, 1), ckTop, (48, 2147483647), (0, 0), (7, 7)], [([(7, (0, 0))], [], [])], [], [], [], 0, 0), [([], [(0, 5)], [(1, .inr (0, 4, 1))], [], [], [(-6, -6)], [([(6, (0, 0)), (7, (1, 1))], [(6, 0)], [])], [], [], [], 0, 0)], 3, 127, 0, 0)
noncomputable def k407_a : ckAs := []
noncomputable def k407_c : List (Nat × ckCtr) := [(18, k256), (31, k25)]
theorem k407_ok (l : Launch) : ckCtrOk l ckMT ckTW ckCL k407 := mt_96 (as := k407_a) (cs := k407_c) (gx := []) (f := 200000) rfl (ckHc (k256_ok l) (ckHc (k25_ok l) (fun _ h => absurd h List.not_mem_nil))) True.intro (by decide +kernel)
-- FarMachineModel.ask
noncomputable def k408 : ckCtr := (96, ([(0, (1, 0)), (1, (0, 0)), (2, (0, 1)), (3, (0, 2))], [], dC351, [(0, 0), (48, 2147483647), ckTop, (7, 7)], [([(7, (0, 0))], [], [])], [], [], [], 0, 0), [([], [(0, 4)], [(1, .inr (0, 3, 1))], [], [], [(-1, -1), (1, 1)], [([(1, (0, 0)), (2, (1, 1)), (7, (0, 0))], [(1, 5)], [])], [], [], [], 0, 0)], 3, 126, 0, 0)
noncomputable def k408_a : ckAs := []
noncomputable def k408_c : List (Nat × ckCtr) := [(18, k258), (31, k31)]
theorem k408_ok (l : Launch) : ckCtrOk l ckMT ckTW ckCL k408 := mt_96 (as := k408_a) (cs := k408_c) (gx := []) (f := 200000) rfl (ckHc (k258_ok l) (ckHc (k31_ok l) (fun _ h => absurd h List.not_mem_nil))) True.intro (by decide +kernel)
-- FarMachineModel.ask
noncomputable def k409 : ckCtr := (96, ([(0, (1, 0)), (1, (0, 0)), (2, (0, 1)), (3, (0, 2))], [], dC351, [(0, 0), (-2147483648, -1), ckTop, (7, 7)], [([(7, (0, 0))], [], [])], [], [], [], 0, 0), [([], [(0, 4)], [(1, .inr (0, 3, 1))], [], [], [(-1, -1), (1, 1)], [([(1, (0, 0)), (2, (1, 1)), (7, (0, 0))], [(1, 5)], [])], [], [], [], 0, 0)], 3, 126, 0, 0)
noncomputable def k409_a : ckAs := []
noncomputable def k409_c : List (Nat × ckCtr) := [(18, k260), (31, k31)]
theorem k409_ok (l : Launch) : ckCtrOk l ckMT ckTW ckCL k409 := mt_96 (as := k409_a) (cs := k409_c) (gx := []) (f := 200000) rfl (ckHc (k260_ok l) (ckHc (k31_ok l) (fun _ h => absurd h List.not_mem_nil))) True.intro (by decide +kernel)
-- FarMachineModel.ask
noncomputable def k410 : ckCtr := (96, ([(0, (1, 0)), (1, (0, 0)), (2, (0, 1)), (3, (0, 2))], [], dC59, [(1, 1), ckTop, (-2147483648, -1), (0, 0), (7, 7)], [([(7, (0, 0))], [], [])], [], [], [], 0, 0), [([], [(0, 5)], [(1, .inr (0, 4, 1))], [], [], [(-4, -4)], [([(4, (0, 0)), (5, (1, 1)), (7, (0, 0))], [(4, 0)], [])], [], [], [], 0, 0)], 3, 127, 0, 0)
noncomputable def k410_a : ckAs := []
noncomputable def k410_c : List (Nat × ckCtr) := [(18, k262), (31, k28)]
theorem k410_ok (l : Launch) : ckCtrOk l ckMT ckTW ckCL k410 := mt_96 (as := k410_a) (cs := k410_c) (gx := []) (f := 200000) rfl (ckHc (k262_ok l) (ckHc (k28_ok l) (fun _ h => absurd h List.not_mem_nil))) True.intro (by decide +kernel)
noncomputable def dP355 : List (Nat × ckC) := [(0, .inl (9, [(4, 10), (4, 11), (4, 12), (4, 13), (4, 14), (4, 15), (4, 16), (4, 17), (4, 18), (1, 1), (1, 2), (1, 3), (4, 19), (4, 20), (4, 21), (4, 22), (0, 3), (0, 3), (0, 3), (0, 3), (0, 5), (0, 3), (0, 3), (4, 23), (0, 3), (4, 24), (0, 3), (0, 3), (0, 3), (0, 3), (4, 25), (0, 3), (0, 3), (0, 3), (0, 3), (4, 25), (4, 11), (0, 3), (4, 26), (4, 27), (0, 3), (0, 3)])), (1, .inr (0, 4, 3)), (2, .inr (0, 4, 4)), (3, .inr (0, 4, 5))]
noncomputable def dG356 : List ckG := [([(1, (2, 2)), (6, (0, 0))], [(0, 0)], []), ([(1, ckTop), (6, (0, 0))], [(0, 1)], []), ([(1, ckTop), (6, (0, 0))], [(0, 2)], [])]
-- FarMachineModel.ask
noncomputable def k411 : ckCtr := (96, ([(0, (1, 0)), (1, (0, 0)), (2, (0, 1)), (3, (0, 2))], [], dC352, [(2, 2), ckTop, ckTop, (0, 0), (6, 6)], dG348, [], [], [], 0, 0), [([], [(0, 3)], dP355, [], [], [(1, 1)], dG356, [], [], [], 0, 0)], 3, 126, 0, 0)
noncomputable def k411_a : ckAs := []
noncomputable def k411_c : List (Nat × ckCtr) := [(18, k265)]
theorem k411_ok (l : Launch) : ckCtrOk l ckMT ckTW ckCL k411 := mt_96 (as := k411_a) (cs := k411_c) (gx := []) (f := 200000) rfl (ckHc (k265_ok l) (fun _ h => absurd h List.not_mem_nil)) True.intro (by decide +kernel)
-- FarMachineModel.ask
noncomputable def k412 : ckCtr := (96, ([(0, (1, 0)), (1, (0, 0)), (2, (0, 1)), (3, (0, 2))], [], dC59, [(3, 2147483647), ckTop, ckTop, (0, 0), (7, 7)], [([(7, (0, 0))], [], [])], [], [], [], 0, 0), [([], [(0, 5)], [(1, .inr (0, 4, 1))], [], [], [(-2, -2), (1, 1)], [([(2, (0, 0)), (3, (1, 1)), (7, (0, 0))], [(2, 6)], [])], [], [], [], 0, 0)], 3, 126, 0, 0)
noncomputable def k412_a : ckAs := []
noncomputable def k412_c : List (Nat × ckCtr) := [(18, k268), (31, k48)]
theorem k412_ok (l : Launch) : ckCtrOk l ckMT ckTW ckCL k412 := mt_96 (as := k412_a) (cs := k412_c) (gx := []) (f := 200000) rfl (ckHc (k268_ok l) (ckHc (k48_ok l) (fun _ h => absurd h List.not_mem_nil))) True.intro (by decide +kernel)
-- FarMachineModel.ask
noncomputable def k413 : ckCtr := (96, ([(0, (1, 0)), (1, (0, 0)), (2, (0, 1)), (3, (0, 2))], [], dC59, [(-2147483648, -1), ckTop, ckTop, (0, 0), (7, 7)], [([(7, (0, 0))], [], [])], [], [], [], 0, 0), [([], [(0, 5)], [(1, .inr (0, 4, 1))], [], [], [(-2, -2), (1, 1)], [([(2, (0, 0)), (3, (1, 1)), (7, (0, 0))], [(2, 6)], [])], [], [], [], 0, 0)], 3, 126, 0, 0)
noncomputable def k413_a : ckAs := []
noncomputable def k413_c : List (Nat × ckCtr) := [(18, k271), (31, k48)]
theorem k413_ok (l : Launch) : ckCtrOk l ckMT ckTW ckCL k413 := mt_96 (as := k413_a) (cs := k413_c) (gx := []) (f := 200000) rfl (ckHc (k271_ok l) (ckHc (k48_ok l) (fun _ h => absurd h List.not_mem_nil))) True.intro (by decide +kernel)
