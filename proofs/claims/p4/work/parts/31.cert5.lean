/-! THE CHECKER: contracts with their certificates (printed by wip/gen2/p14gen.py) -/
noncomputable def dP412 : List (Nat × ckC) := [(0, .inl (4, [(1, 1), (1, 2), (0, 8), (0, 9)])), (4, .inr (0, 5, 6)), (5, .inr (0, 5, 7)), (6, .inr (0, 5, 8)), (7, .inr (0, 5, 9)), (8, .inr (0, 6, 10))]
noncomputable def dP413 : List (Nat × ckC) := [(0, .inl (4, [(1, 1), (1, 2), (0, 8), (0, 9)])), (2, .inl (5, [(1, 4), (1, 5), (1, 6), (1, 7), (1, 8), (0, 10)])), (4, .inr (0, 5, 6)), (5, .inr (0, 5, 7)), (6, .inr (0, 5, 8)), (7, .inr (0, 5, 9)), (8, .inr (0, 6, 10))]
noncomputable def dP414 : List (Nat × ckC) := [(0, .inl (4, [(1, 1), (1, 2), (0, 11), (0, 12)])), (4, .inr (0, 5, 7)), (5, .inr (0, 5, 8)), (6, .inr (0, 5, 9)), (7, .inr (0, 5, 10)), (8, .inr (0, 6, 11))]
-- FarMachine$RuleReader.readRule
noncomputable def k222 : ckCtr := (159, ([(0, (1, 0))], [], dC406, dT407, dG408, [], [], [], 0, 0), [([], [(0, 7)], dP412, [], [], [(0, 0), (1, 1), ckTop], dG404, [], [], [], 0, 0), ([], [(0, 7)], dP413, [], [(0, (0, 0))], [(1, 1), (0, 0), ckTop, (1, 10)], dG404, [], [(3, 10, (-1)), (10, 3, 1)], [], 0, 0)], 7, 216, 0, 0)
noncomputable def k222_a : ckAs := [(11, [(597161, [(1, 0, 1, ([(0, (1, 0)), (1, (0, 9)), (2, (0, 10))], [], dP414, [], [], [(0, 1), (0, 31), (0, 1), ckTop], dG404, [], [(0, 9, 0), (0, 11, 0), (10, 2, 1)], [], 0, 0))])])]
noncomputable def k222_c : List (Nat × ckCtr) := [(4, k203), (34, k220), (45, k205), (64, k205), (77, k215), (97, k221)]
theorem k222_ok (l : Launch) : ckCtrOk l ckMT ckTW ckCL k222 := mt_159 (as := k222_a) (cs := k222_c) (gx := []) (f := 200000) rfl (ckHc (k203_ok l) (ckHc (k220_ok l) (ckHc (k205_ok l) (ckHc (k205_ok l) (ckHc (k215_ok l) (ckHc (k221_ok l) (fun _ h => absurd h List.not_mem_nil))))))) True.intro (by decide +kernel)
noncomputable def dC415 : List ckC := [.inl (8, [(1, 1), (4, 10), (0, 0), (4, 11), (1, 2), (4, 12), (4, 13), (1, 3)]), .inl (7, [(4, 14), (4, 15), (0, 1), (4, 16), (4, 17), (4, 18), (4, 19), (1, 4), (4, 20), (4, 21)]), .inl (0, [(1, 5), (0, 2)]), .inr (0, 3, 0), .inl (5, [(1, 6), (1, 7), (1, 8), (1, 9), (1, 10), (0, 4)]), .inr (0, 5, 1), .inr (0, 6, 2), .inr (0, 6, 3), .inr (0, 6, 4), .inr (0, 6, 5), .inr (0, 7, 6)]
noncomputable def dT416 : List ckI := [(0, 1), (0, 1), (0, 30), (7, 7), (0, 10), (30, 30), (70, 70), (10, 10)]
noncomputable def dG417 : List ckG := [([(7, ckTop)], [], []), ([(30, ckTop)], [], []), ([(70, ckTop)], [], []), ([(70, ckTop)], [], []), ([(70, ckTop)], [], []), ([(70, ckTop)], [], []), ([(10, ckTop)], [], [])]
noncomputable def dP418 : List (Nat × ckC) := [(2, .inl (0, [(1, 5), (0, 9)])), (3, .inr (0, 3, 7)), (4, .inl (5, [(1, 6), (1, 7), (1, 8), (1, 9), (1, 10), (0, 10)])), (6, .inr (0, 6, 8)), (7, .inr (0, 6, 9)), (8, .inr (0, 6, 10)), (9, .inr (0, 6, 11)), (10, .inr (0, 7, 12))]
noncomputable def dG419 : List ckG := [([(6, ckTop), (7, ckTop)], [], []), ([(70, ckTop)], [], []), ([(70, ckTop)], [], []), ([(70, ckTop)], [], []), ([(70, ckTop)], [], []), ([(10, ckTop)], [], [])]
noncomputable def dZ420 : List ckZ := [(4, 10, 0), (9, 2, 0), (9, 4, 20), (9, 10, 20), (10, 4, 1)]
-- FarMachine.rule
noncomputable def k223 : ckCtr := (18, ([(0, (1, 0))], [], dC415, dT416, dG417, [], [], [], 0, 0), [([], [(0, 8)], dP418, [], [], [ckTop, (0, 30), (0, 10)], dG419, [], dZ420, [], 1, 4)], 8, 238, 1, 4)
noncomputable def k223_a : ckAs := []
noncomputable def k223_c : List (Nat × ckCtr) := [(18, k16), (37, k202), (42, k222)]
theorem k223_ok (l : Launch) : ckCtrOk l ckMT ckTW ckCL k223 := mt_18 (as := k223_a) (cs := k223_c) (gx := []) (f := 200000) rfl (ckHc (k16_ok l) (ckHc (k202_ok l) (ckHc (k222_ok l) (fun _ h => absurd h List.not_mem_nil)))) True.intro (by decide +kernel)
noncomputable def dC421 : List ckC := [.inl (9, [(4, 10), (4, 11), (4, 12), (4, 13), (4, 14), (4, 15), (4, 16), (4, 17), (4, 18), (4, 19), (4, 20), (4, 21), (4, 22), (4, 23), (4, 24), (4, 25), (0, 0), (0, 1), (0, 2), (0, 3), (0, 4), (0, 5), (0, 6), (4, 26), (0, 7), (4, 27), (0, 8), (0, 9), (0, 10), (0, 11), (1, 1), (0, 12), (0, 13), (0, 14), (0, 15), (1, 1), (4, 11), (0, 16), (4, 28), (4, 29), (0, 17), (0, 18)]), .inr (0, 19, 0)]
noncomputable def dT422 : List ckI := [(0, 1), (0, 1), ckTop, ckTop, ckTop, ckTop, ckTop, ckTop, ckTop, ckTop, ckTop, ckTop, ckTop, (0, 30), (0, 0), (0, 30), (0, 1), ckTop, (0, 1), (30, 30)]
-- FarMachineModel.sign
noncomputable def k224 : ckCtr := (83, ([(0, (1, 0))], [], dC421, dT422, [([(30, ckTop)], [], [])], [], [], [], 0, 0), [([], [(0, 20)], [], [], [], [(-1, -1)], [], [], [(15, 13, 0)], [], 0, 0), ([], [(0, 20)], [], [], [(13, (0, 29)), (15, (1, 30))], [ckTop], [], [], [(13, 15, (-1))], [], 0, 0)], 1, 80, 0, 0)
noncomputable def k224_a : ckAs := []
noncomputable def k224_c : List (Nat × ckCtr) := []
theorem k224_ok (l : Launch) : ckCtrOk l ckMT ckTW ckCL k224 := mt_83 (as := k224_a) (cs := k224_c) (gx := []) (f := 200000) rfl (fun _ h => absurd h List.not_mem_nil) True.intro (by decide +kernel)
noncomputable def dC423 : List ckC := [.inl (9, [(4, 10), (4, 11), (4, 12), (4, 13), (4, 14), (4, 15), (4, 16), (4, 17), (4, 18), (4, 19), (4, 20), (4, 21), (4, 22), (4, 23), (4, 24), (4, 25), (0, 1), (0, 2), (0, 3), (0, 4), (0, 5), (0, 6), (0, 7), (4, 26), (0, 8), (4, 27), (0, 9), (0, 10), (0, 11), (0, 12), (1, 1), (0, 13), (0, 14), (0, 15), (0, 16), (1, 1), (4, 11), (0, 17), (4, 28), (4, 29), (0, 18), (0, 19)]), .inr (0, 20, 0)]
noncomputable def dT424 : List ckI := [(33, 33), (0, 1), (0, 1), ckTop, ckTop, ckTop, ckTop, ckTop, ckTop, ckTop, ckTop, ckTop, ckTop, ckTop, (0, 30), (0, 0), (0, 30), (0, 1), ckTop, (0, 1), (30, 30)]
noncomputable def dP425 : List (Nat × ckC) := [(0, .inl (9, [(4, 10), (4, 11), (4, 12), (4, 13), (4, 14), (4, 15), (4, 16), (4, 17), (4, 18), (4, 19), (4, 20), (4, 21), (4, 22), (4, 23), (4, 24), (4, 25), (0, 1), (0, 2), (0, 3), (0, 4), (0, 5), (0, 6), (0, 7), (4, 26), (0, 8), (4, 27), (0, 9), (0, 10), (0, 11), (0, 12), (1, 1), (0, 13), (0, 22), (0, 15), (0, 16), (1, 1), (4, 11), (0, 17), (4, 28), (4, 29), (0, 18), (0, 19)]))]
-- FarMachineModel.takes
noncomputable def k225 : ckCtr := (84, ([(0, (1, 0)), (1, (0, 0))], [], dC423, dT424, [([(30, ckTop)], [], [])], [], [], [], 0, 0), [([], [(0, 15)], [], [], [], [], [], [], [], [], 0, 0), ([], [(0, 21)], dP425, [], [(14, (0, 29)), (16, (1, 30)), (17, (1, 1))], [(1, 1), (1, 30)], [], [], [(14, 16, (-1)), (14, 22, (-1)), (22, 14, 1), (22, 16, 0)], [], 0, 0)], 2, 100, 0, 0)
noncomputable def k225_a : ckAs := []
noncomputable def k225_c : List (Nat × ckCtr) := [(8, k224)]
theorem k225_ok (l : Launch) : ckCtrOk l ckMT ckTW ckCL k225 := mt_84 (as := k225_a) (cs := k225_c) (gx := []) (f := 200000) rfl (ckHc (k224_ok l) (fun _ h => absurd h List.not_mem_nil)) True.intro (by decide +kernel)
-- FarMachineModel.isDigit
noncomputable def k226 : ckCtr := (87, ([(0, (0, 0))], [], [], [ckTop], [], [], [], [], 0, 0), [([], [(0, 1)], [], [], [(0, (48, 57))], [(1, 1)], [], [], [], [], 0, 0), ([], [(0, 1)], [], [], [], [(0, 0)], [], [], [], [], 0, 0)], 1, 80, 0, 0)
noncomputable def k226_a : ckAs := []
noncomputable def k226_c : List (Nat × ckCtr) := []
theorem k226_ok (l : Launch) : ckCtrOk l ckMT ckTW ckCL k226 := mt_87 (as := k226_a) (cs := k226_c) (gx := []) (f := 200000) rfl (fun _ h => absurd h List.not_mem_nil) True.intro (by decide +kernel)
noncomputable def dC426 : List ckC := [.inl (9, [(4, 10), (1, 1), (4, 11), (4, 12), (4, 13), (4, 14), (4, 15), (4, 16), (4, 17), (4, 18), (4, 19), (4, 20), (4, 21), (4, 22), (4, 23), (4, 24), (0, 1), (0, 2), (0, 3), (0, 4), (0, 5), (0, 6), (0, 7), (4, 25), (0, 8), (4, 26), (0, 9), (0, 10), (0, 11), (0, 12), (4, 27), (0, 13), (0, 14), (0, 15), (0, 16), (4, 27), (1, 1), (0, 17), (4, 28), (4, 29), (0, 18), (0, 19)]), .inr (0, 20, 0)]
noncomputable def dT427 : List ckI := [(-1, -1), (0, 1), (0, 1), ckTop, ckTop, ckTop, ckTop, ckTop, ckTop, ckTop, ckTop, ckTop, ckTop, ckTop, (0, 30), (0, 0), (0, 30), (0, 1), ckTop, (0, 1), (318, 318)]
noncomputable def dG428 : List ckG := [([(48, ckTop), (49, (0, 47)), (55, ckTop), (56, ckTop), (58, ckTop), (59, ckTop), (60, ckTop), (61, ckTop), (62, ckTop), (63, ckTop), (64, ckTop), (65, ckTop), (66, ckTop), (67, ckTop), (68, ckTop), (76, ckTop), (77, (0, 30)), (197, ckTop), (198, (0, 60)), (318, ckTop)], [], [])]
noncomputable def dP429 : List (Nat × ckC) := [(0, .inl (9, [(4, 10), (1, 1), (4, 11), (4, 12), (4, 13), (4, 14), (4, 15), (4, 16), (4, 17), (4, 18), (4, 19), (4, 20), (4, 21), (4, 22), (4, 23), (4, 24), (0, 1), (0, 2), (0, 3), (0, 4), (0, 5), (0, 6), (0, 7), (4, 25), (0, 8), (4, 26), (0, 9), (0, 10), (0, 11), (0, 12), (4, 27), (0, 13), (0, 21), (0, 15), (0, 16), (4, 27), (1, 1), (0, 15), (4, 28), (4, 29), (0, 18), (0, 19)]))]
-- FarMachineModel.letter
noncomputable def k227 : ckCtr := (89, ([(0, (1, 0)), (1, (0, 0))], [], dC426, dT427, dG428, [], [], [(1, 0, 0, 0, [])], 0, 0), [([], [(0, 15)], dP429, [], [], [(0, 30)], [], [], [(14, 21, 0), (21, 14, 0)], [(1, 0, 0, 0, [])], 0, 0)], 1, 80, 0, 0)
noncomputable def k227_a : ckAs := []
noncomputable def k227_c : List (Nat × ckCtr) := []
theorem k227_ok (l : Launch) : ckCtrOk l ckMT ckTW ckCL k227 := mt_89 (as := k227_a) (cs := k227_c) (gx := []) (f := 200000) rfl (fun _ h => absurd h List.not_mem_nil) True.intro (by decide +kernel)
-- FarMachineModel.power
noncomputable def k228 : ckCtr := (50, ([(0, (1, 0))], [], [.inr (0, 0, 0)], [(318, 318)], dG428, [], [], [(1, 0, 0, 0, [])], 0, 0), [([], [(0, 1)], [], [], [], [ckTop], [], [], [], [(1, 0, 0, 0, [])], 0, 0)], 2, 100, 0, 0)
noncomputable def k228_a : ckAs := [(4, [(156723, [(1, 0, 1, ([(0, (1, 0)), (1, (0, 3)), (2, (0, 4))], [], [], [], [], [ckTop, (0, 8)], [], [], [], [(1, 0, 0, 0, [])], 0, 0))])])]
noncomputable def k228_c : List (Nat × ckCtr) := [(23, k74)]
theorem k228_ok (l : Launch) : ckCtrOk l ckMT ckTW ckCL k228 := mt_50 (as := k228_a) (cs := k228_c) (gx := []) (f := 200000) rfl (ckHc (k74_ok l) (fun _ h => absurd h List.not_mem_nil)) True.intro (by decide +kernel)
-- FarMachineModel.ons
noncomputable def k229 : ckCtr := (52, ([(0, (1, 0))], [], [.inr (0, 0, 0)], [(318, 318)], dG428, [], [], [(1, 0, 0, 0, [])], 0, 0), [([], [(0, 1)], [], [], [], [ckTop], [], [], [], [(1, 0, 0, 0, [])], 0, 0)], 1, 80, 0, 0)
noncomputable def k229_a : ckAs := [(4, [(156723, [(1, 0, 1, ([(0, (1, 0)), (1, (0, 3)), (2, (0, 4))], [], [], [], [], [ckTop, (0, 8)], [], [], [], [(1, 0, 0, 0, [])], 0, 0))])])]
noncomputable def k229_c : List (Nat × ckCtr) := []
theorem k229_ok (l : Launch) : ckCtrOk l ckMT ckTW ckCL k229 := mt_52 (as := k229_a) (cs := k229_c) (gx := []) (f := 200000) rfl (fun _ h => absurd h List.not_mem_nil) True.intro (by decide +kernel)
noncomputable def dT430 : List ckI := [ckTop, (0, 1), (0, 1), ckTop, ckTop, ckTop, ckTop, ckTop, ckTop, ckTop, ckTop, ckTop, ckTop, ckTop, (0, 29), (0, 0), (0, 30), (0, 1), ckTop, (0, 1), (318, 318)]
noncomputable def dP431 : List (Nat × ckC) := [(0, .inl (9, [(4, 10), (1, 1), (4, 11), (4, 12), (4, 13), (4, 14), (4, 15), (4, 16), (4, 17), (4, 18), (4, 19), (4, 20), (4, 21), (4, 22), (4, 23), (4, 24), (0, 1), (0, 2), (0, 3), (0, 4), (0, 5), (0, 6), (0, 7), (4, 25), (0, 8), (4, 26), (0, 9), (0, 10), (0, 11), (0, 12), (4, 27), (0, 13), (0, 22), (0, 15), (0, 16), (4, 27), (1, 1), (0, 23), (4, 28), (4, 29), (0, 18), (0, 19)]))]
-- FarMachineModel.letter
noncomputable def k230 : ckCtr := (89, ([(0, (1, 0)), (1, (0, 0))], [], dC426, dT430, dG428, [], [], [(1, 0, 0, 0, [])], 0, 0), [([], [(0, 21)], dP431, [], [], [ckTop, (0, 30), (0, 1)], [], [], [(14, 22, 0), (22, 14, 1), (23, 17, 0), (23, 22, 0)], [(1, 0, 0, 0, [])], 0, 0)], 3, 122, 0, 0)
noncomputable def k230_a : ckAs := []
noncomputable def k230_c : List (Nat × ckCtr) := [(171, k228), (179, k229), (182, k86)]
theorem k230_ok (l : Launch) : ckCtrOk l ckMT ckTW ckCL k230 := mt_89 (as := k230_a) (cs := k230_c) (gx := []) (f := 200000) rfl (ckHc (k228_ok l) (ckHc (k229_ok l) (ckHc (k86_ok l) (fun _ h => absurd h List.not_mem_nil)))) True.intro (by decide +kernel)
noncomputable def dT432 : List ckI := [(0, 1), (0, 1), ckTop, ckTop, ckTop, ckTop, ckTop, ckTop, ckTop, ckTop, ckTop, ckTop, ckTop, (0, 29), (0, 0), (0, 30), (0, 1), ckTop, (0, 1), (30, 30)]
-- FarMachineModel.sign
noncomputable def k231 : ckCtr := (83, ([(0, (1, 0))], [], dC421, dT432, [([(30, ckTop)], [], [])], [], [], [], 0, 0), [([], [(0, 20)], [], [], [(15, (0, 29))], [(-1, -1)], [], [], [(15, 13, 0)], [], 0, 0), ([], [(0, 20)], [], [], [(15, (1, 30))], [ckTop], [], [], [(13, 15, (-1))], [], 0, 0)], 1, 80, 0, 0)
noncomputable def k231_a : ckAs := []
noncomputable def k231_c : List (Nat × ckCtr) := []
theorem k231_ok (l : Launch) : ckCtrOk l ckMT ckTW ckCL k231 := mt_83 (as := k231_a) (cs := k231_c) (gx := []) (f := 200000) rfl (fun _ h => absurd h List.not_mem_nil) True.intro (by decide +kernel)
noncomputable def dC433 : List ckC := [.inl (9, [(4, 10), (1, 1), (4, 11), (4, 12), (4, 13), (4, 14), (4, 15), (4, 16), (4, 17), (4, 18), (4, 19), (4, 20), (4, 21), (4, 22), (4, 23), (4, 24), (0, 0), (0, 1), (0, 2), (0, 3), (0, 4), (0, 5), (0, 6), (4, 25), (0, 7), (4, 26), (0, 8), (0, 9), (0, 10), (0, 11), (1, 2), (0, 12), (0, 13), (0, 14), (0, 15), (1, 2), (1, 1), (0, 16), (4, 27), (4, 28), (0, 17), (0, 18)]), .inr (0, 19, 0), .inr (0, 20, 1)]
noncomputable def dT434 : List ckI := [(0, 1), (0, 1), ckTop, ckTop, ckTop, ckTop, ckTop, ckTop, ckTop, ckTop, ckTop, ckTop, ckTop, (0, 30), (0, 0), (0, 30), (0, 1), ckTop, (0, 1), (318, 318), (30, 30)]
noncomputable def dG435 : List ckG := [([(48, ckTop), (49, (0, 47)), (55, ckTop), (56, ckTop), (58, ckTop), (59, ckTop), (60, ckTop), (61, ckTop), (62, ckTop), (63, ckTop), (64, ckTop), (65, ckTop), (66, ckTop), (67, ckTop), (68, ckTop), (76, ckTop), (77, (0, 30)), (197, ckTop), (198, (0, 60)), (318, ckTop)], [], []), ([(30, ckTop)], [], [])]
noncomputable def dP436 : List (Nat × ckC) := [(0, .inl (9, [(4, 10), (1, 1), (4, 11), (4, 12), (4, 13), (4, 14), (4, 15), (4, 16), (4, 17), (4, 18), (4, 19), (4, 20), (4, 21), (4, 22), (4, 23), (4, 24), (0, 0), (0, 1), (0, 2), (0, 3), (0, 4), (0, 5), (0, 6), (4, 25), (0, 7), (4, 26), (0, 8), (0, 9), (0, 10), (0, 11), (1, 2), (0, 12), (0, 22), (0, 14), (0, 15), (1, 2), (1, 1), (0, 23), (4, 27), (4, 28), (0, 17), (0, 18)]))]
noncomputable def dP437 : List (Nat × ckC) := [(0, .inl (9, [(4, 10), (1, 1), (4, 11), (4, 12), (4, 13), (4, 14), (4, 15), (4, 16), (4, 17), (4, 18), (4, 19), (4, 20), (4, 21), (4, 22), (4, 23), (4, 24), (0, 0), (0, 1), (0, 2), (0, 3), (0, 4), (0, 5), (0, 6), (4, 25), (0, 7), (4, 26), (0, 8), (0, 9), (0, 10), (0, 11), (1, 2), (0, 12), (0, 29), (0, 14), (0, 15), (1, 2), (1, 1), (0, 16), (4, 27), (4, 28), (0, 17), (0, 18)]))]
noncomputable def dZ438 : List ckZ := [(13, 15, (-1)), (13, 29, 0), (28, 15, 0), (28, 29, 0), (29, 15, 0), (29, 28, 29)]
noncomputable def dP439 : List (Nat × ckC) := [(0, .inl (9, [(4, 10), (1, 1), (4, 11), (4, 12), (4, 13), (4, 14), (4, 15), (4, 16), (4, 17), (4, 18), (4, 19), (4, 20), (4, 21), (4, 22), (4, 23), (4, 24), (0, 0), (0, 1), (0, 2), (0, 3), (0, 4), (0, 5), (0, 6), (4, 25), (0, 7), (4, 26), (0, 8), (0, 9), (0, 10), (0, 11), (1, 2), (0, 12), (0, 30), (0, 14), (0, 15), (1, 2), (1, 1), (0, 16), (4, 27), (4, 28), (0, 17), (0, 18)]))]
noncomputable def dZ440 : List ckZ := [(13, 15, (-1)), (13, 25, (-1)), (13, 30, (-1)), (25, 13, 1), (25, 15, 0), (25, 30, 0), (29, 15, (-1)), (29, 30, (-1)), (30, 15, 0)]
-- FarMachineModel.unit
noncomputable def k232 : ckCtr := (88, ([(0, (1, 0))], [], dC433, dT434, dG435, [], [], [(1, 0, 0, 0, [])], 0, 0), [([], [(0, 21)], dP436, [], [], [ckTop, (0, 30), (0, 1)], [], [], [(13, 22, 0), (23, 15, 0), (23, 16, 0), (23, 22, 0)], [(1, 0, 0, 0, [])], 0, 0)], 4, 143, 0, 0)
noncomputable def k232_a : ckAs := [(53, [(480548, [(1, 0, 1, ([(0, (1, 0)), (1, (0, 21)), (2, (0, 27)), (3, (0, 28))], [], dP437, [], [], [ckTop, (0, 3), (0, 30)], [], [], dZ438, [(1, 0, 0, 0, [])], 0, 0))]), (89035, [(1, 0, 1, ([(0, (1, 0)), (1, (0, 21)), (2, (0, 28)), (3, (0, 29))], [], dP439, [], [], [ckTop, (0, 3), (1, 30)], [], [], dZ440, [(1, 0, 0, 0, [])], 0, 0))])])]
noncomputable def k232_c : List (Nat × ckCtr) := [(10, k224), (21, k226), (29, k227), (29, k230), (59, k224), (62, k226), (73, k231)]
theorem k232_ok (l : Launch) : ckCtrOk l ckMT ckTW ckCL k232 := mt_88 (as := k232_a) (cs := k232_c) (gx := []) (f := 200000) rfl (ckHc (k224_ok l) (ckHc (k226_ok l) (ckHc (k227_ok l) (ckHc (k230_ok l) (ckHc (k224_ok l) (ckHc (k226_ok l) (ckHc (k231_ok l) (fun _ h => absurd h List.not_mem_nil)))))))) True.intro (by decide +kernel)
noncomputable def dT441 : List ckI := [(0, 1), (0, 1), ckTop, ckTop, ckTop, ckTop, ckTop, ckTop, ckTop, ckTop, ckTop, ckTop, ckTop, (30, 30), (0, 0), (0, 30), (0, 1), ckTop, (0, 1), (318, 318), (30, 30)]
noncomputable def dP442 : List (Nat × ckC) := [(0, .inl (9, [(4, 10), (1, 1), (4, 11), (4, 12), (4, 13), (4, 14), (4, 15), (4, 16), (4, 17), (4, 18), (4, 19), (4, 20), (4, 21), (4, 22), (4, 23), (4, 24), (0, 0), (0, 1), (0, 2), (0, 3), (0, 4), (0, 5), (0, 6), (4, 25), (0, 7), (4, 26), (0, 8), (0, 9), (0, 10), (0, 11), (1, 2), (0, 12), (0, 13), (0, 14), (0, 15), (1, 2), (1, 1), (0, 14), (4, 27), (4, 28), (0, 17), (0, 18)]))]
-- FarMachineModel.test
noncomputable def k233 : ckCtr := (86, ([(0, (1, 0))], [], dC433, dT441, dG435, [], [], [(1, 0, 0, 0, [])], 0, 0), [([], [(0, 14)], dP442, [], [], [], [], [], [], [(1, 0, 0, 0, [])], 0, 0)], 5, 166, 0, 0)
noncomputable def k233_a : ckAs := []
noncomputable def k233_c : List (Nat × ckCtr) := [(3, k225), (23, k232), (28, k224)]
theorem k233_ok (l : Launch) : ckCtrOk l ckMT ckTW ckCL k233 := mt_86 (as := k233_a) (cs := k233_c) (gx := []) (f := 200000) rfl (ckHc (k225_ok l) (ckHc (k232_ok l) (ckHc (k224_ok l) (fun _ h => absurd h List.not_mem_nil)))) True.intro (by decide +kernel)
noncomputable def dT443 : List ckI := [(0, 1), (0, 1), ckTop, ckTop, ckTop, ckTop, ckTop, ckTop, ckTop, ckTop, ckTop, ckTop, ckTop, (29, 30), (0, 0), (0, 30), (0, 1), ckTop, (0, 1), (318, 318), (30, 30)]
noncomputable def dZ444 : List ckZ := [(13, 22, 0), (21, 15, 0), (21, 16, 0), (21, 22, (-29)), (23, 15, 0), (23, 16, 0), (23, 22, (-29))]
-- FarMachineModel.test
noncomputable def k234 : ckCtr := (86, ([(0, (1, 0))], [], dC433, dT443, dG435, [], [], [(1, 0, 0, 0, [])], 0, 0), [([], [(0, 21)], dP436, [], [], [(0, 1), (29, 30), (0, 1)], [], [], dZ444, [(1, 0, 0, 0, [])], 0, 0)], 6, 189, 0, 0)
noncomputable def k234_a : ckAs := []
noncomputable def k234_c : List (Nat × ckCtr) := [(3, k225), (10, k233), (23, k232), (28, k224), (75, k232)]
theorem k234_ok (l : Launch) : ckCtrOk l ckMT ckTW ckCL k234 := mt_86 (as := k234_a) (cs := k234_c) (gx := []) (f := 200000) rfl (ckHc (k225_ok l) (ckHc (k233_ok l) (ckHc (k232_ok l) (ckHc (k224_ok l) (ckHc (k232_ok l) (fun _ h => absurd h List.not_mem_nil)))))) True.intro (by decide +kernel)
noncomputable def dT445 : List ckI := [(0, 1), (0, 1), ckTop, ckTop, ckTop, ckTop, ckTop, ckTop, ckTop, ckTop, ckTop, ckTop, ckTop, (28, 30), (0, 0), (0, 30), (0, 1), ckTop, (0, 1), (318, 318), (30, 30)]
noncomputable def dZ446 : List ckZ := [(13, 22, 0), (21, 15, 0), (21, 16, 0), (21, 22, (-28)), (23, 15, 0), (23, 16, 0), (23, 22, (-28))]
-- FarMachineModel.test
noncomputable def k235 : ckCtr := (86, ([(0, (1, 0))], [], dC433, dT445, dG435, [], [], [(1, 0, 0, 0, [])], 0, 0), [([], [(0, 21)], dP436, [], [], [(0, 1), (28, 30), (0, 1)], [], [], dZ446, [(1, 0, 0, 0, [])], 0, 0)], 7, 212, 0, 0)
noncomputable def k235_a : ckAs := []
noncomputable def k235_c : List (Nat × ckCtr) := [(3, k225), (10, k234), (23, k232), (28, k224), (75, k232)]
theorem k235_ok (l : Launch) : ckCtrOk l ckMT ckTW ckCL k235 := mt_86 (as := k235_a) (cs := k235_c) (gx := []) (f := 200000) rfl (ckHc (k225_ok l) (ckHc (k234_ok l) (ckHc (k232_ok l) (ckHc (k224_ok l) (ckHc (k232_ok l) (fun _ h => absurd h List.not_mem_nil)))))) True.intro (by decide +kernel)
noncomputable def dT447 : List ckI := [(0, 1), (0, 1), ckTop, ckTop, ckTop, ckTop, ckTop, ckTop, ckTop, ckTop, ckTop, ckTop, ckTop, (27, 30), (0, 0), (0, 30), (0, 1), ckTop, (0, 1), (318, 318), (30, 30)]
noncomputable def dZ448 : List ckZ := [(13, 22, 0), (21, 15, 0), (21, 16, 0), (21, 22, (-27)), (23, 15, 0), (23, 16, 0), (23, 22, (-27))]
-- FarMachineModel.test
noncomputable def k236 : ckCtr := (86, ([(0, (1, 0))], [], dC433, dT447, dG435, [], [], [(1, 0, 0, 0, [])], 0, 0), [([], [(0, 21)], dP436, [], [], [(0, 1), (27, 30), (0, 1)], [], [], dZ448, [(1, 0, 0, 0, [])], 0, 0)], 8, 235, 0, 0)
noncomputable def k236_a : ckAs := []
noncomputable def k236_c : List (Nat × ckCtr) := [(3, k225), (10, k235), (23, k232), (28, k224), (75, k232)]
theorem k236_ok (l : Launch) : ckCtrOk l ckMT ckTW ckCL k236 := mt_86 (as := k236_a) (cs := k236_c) (gx := []) (f := 200000) rfl (ckHc (k225_ok l) (ckHc (k235_ok l) (ckHc (k232_ok l) (ckHc (k224_ok l) (ckHc (k232_ok l) (fun _ h => absurd h List.not_mem_nil)))))) True.intro (by decide +kernel)
noncomputable def dT449 : List ckI := [(0, 1), (0, 1), ckTop, ckTop, ckTop, ckTop, ckTop, ckTop, ckTop, ckTop, ckTop, ckTop, ckTop, (26, 30), (0, 0), (0, 30), (0, 1), ckTop, (0, 1), (318, 318), (30, 30)]
noncomputable def dZ450 : List ckZ := [(13, 22, 0), (21, 15, 0), (21, 16, 0), (21, 22, (-26)), (23, 15, 0), (23, 16, 0), (23, 22, (-26))]
-- FarMachineModel.test
noncomputable def k237 : ckCtr := (86, ([(0, (1, 0))], [], dC433, dT449, dG435, [], [], [(1, 0, 0, 0, [])], 0, 0), [([], [(0, 21)], dP436, [], [], [(0, 1), (26, 30), (0, 1)], [], [], dZ450, [(1, 0, 0, 0, [])], 0, 0)], 9, 258, 0, 0)
noncomputable def k237_a : ckAs := []
noncomputable def k237_c : List (Nat × ckCtr) := [(3, k225), (10, k236), (23, k232), (28, k224), (75, k232)]
theorem k237_ok (l : Launch) : ckCtrOk l ckMT ckTW ckCL k237 := mt_86 (as := k237_a) (cs := k237_c) (gx := []) (f := 200000) rfl (ckHc (k225_ok l) (ckHc (k236_ok l) (ckHc (k232_ok l) (ckHc (k224_ok l) (ckHc (k232_ok l) (fun _ h => absurd h List.not_mem_nil)))))) True.intro (by decide +kernel)
noncomputable def dT451 : List ckI := [(0, 1), (0, 1), ckTop, ckTop, ckTop, ckTop, ckTop, ckTop, ckTop, ckTop, ckTop, ckTop, ckTop, (25, 30), (0, 0), (0, 30), (0, 1), ckTop, (0, 1), (318, 318), (30, 30)]
noncomputable def dZ452 : List ckZ := [(13, 22, 0), (21, 15, 0), (21, 16, 0), (21, 22, (-25)), (23, 15, 0), (23, 16, 0), (23, 22, (-25))]
-- FarMachineModel.test
noncomputable def k238 : ckCtr := (86, ([(0, (1, 0))], [], dC433, dT451, dG435, [], [], [(1, 0, 0, 0, [])], 0, 0), [([], [(0, 21)], dP436, [], [], [(0, 1), (25, 30), (0, 1)], [], [], dZ452, [(1, 0, 0, 0, [])], 0, 0)], 10, 281, 0, 0)
noncomputable def k238_a : ckAs := []
noncomputable def k238_c : List (Nat × ckCtr) := [(3, k225), (10, k237), (23, k232), (28, k224), (75, k232)]
theorem k238_ok (l : Launch) : ckCtrOk l ckMT ckTW ckCL k238 := mt_86 (as := k238_a) (cs := k238_c) (gx := []) (f := 200000) rfl (ckHc (k225_ok l) (ckHc (k237_ok l) (ckHc (k232_ok l) (ckHc (k224_ok l) (ckHc (k232_ok l) (fun _ h => absurd h List.not_mem_nil)))))) True.intro (by decide +kernel)
noncomputable def dT453 : List ckI := [(0, 1), (0, 1), ckTop, ckTop, ckTop, ckTop, ckTop, ckTop, ckTop, ckTop, ckTop, ckTop, ckTop, (24, 30), (0, 0), (0, 30), (0, 1), ckTop, (0, 1), (318, 318), (30, 30)]
noncomputable def dZ454 : List ckZ := [(13, 22, 0), (21, 15, 0), (21, 16, 0), (21, 22, (-24)), (23, 15, 0), (23, 16, 0), (23, 22, (-24))]
-- FarMachineModel.test
noncomputable def k239 : ckCtr := (86, ([(0, (1, 0))], [], dC433, dT453, dG435, [], [], [(1, 0, 0, 0, [])], 0, 0), [([], [(0, 21)], dP436, [], [], [(0, 1), (24, 30), (0, 1)], [], [], dZ454, [(1, 0, 0, 0, [])], 0, 0)], 11, 304, 0, 0)
noncomputable def k239_a : ckAs := []
noncomputable def k239_c : List (Nat × ckCtr) := [(3, k225), (10, k238), (23, k232), (28, k224), (75, k232)]
theorem k239_ok (l : Launch) : ckCtrOk l ckMT ckTW ckCL k239 := mt_86 (as := k239_a) (cs := k239_c) (gx := []) (f := 200000) rfl (ckHc (k225_ok l) (ckHc (k238_ok l) (ckHc (k232_ok l) (ckHc (k224_ok l) (ckHc (k232_ok l) (fun _ h => absurd h List.not_mem_nil)))))) True.intro (by decide +kernel)
noncomputable def dT455 : List ckI := [(0, 1), (0, 1), ckTop, ckTop, ckTop, ckTop, ckTop, ckTop, ckTop, ckTop, ckTop, ckTop, ckTop, (23, 30), (0, 0), (0, 30), (0, 1), ckTop, (0, 1), (318, 318), (30, 30)]
noncomputable def dZ456 : List ckZ := [(13, 22, 0), (21, 15, 0), (21, 16, 0), (21, 22, (-23)), (23, 15, 0), (23, 16, 0), (23, 22, (-23))]
-- FarMachineModel.test
noncomputable def k240 : ckCtr := (86, ([(0, (1, 0))], [], dC433, dT455, dG435, [], [], [(1, 0, 0, 0, [])], 0, 0), [([], [(0, 21)], dP436, [], [], [(0, 1), (23, 30), (0, 1)], [], [], dZ456, [(1, 0, 0, 0, [])], 0, 0)], 12, 327, 0, 0)
noncomputable def k240_a : ckAs := []
noncomputable def k240_c : List (Nat × ckCtr) := [(3, k225), (10, k239), (23, k232), (28, k224), (75, k232)]
theorem k240_ok (l : Launch) : ckCtrOk l ckMT ckTW ckCL k240 := mt_86 (as := k240_a) (cs := k240_c) (gx := []) (f := 200000) rfl (ckHc (k225_ok l) (ckHc (k239_ok l) (ckHc (k232_ok l) (ckHc (k224_ok l) (ckHc (k232_ok l) (fun _ h => absurd h List.not_mem_nil)))))) True.intro (by decide +kernel)
noncomputable def dT457 : List ckI := [(0, 1), (0, 1), ckTop, ckTop, ckTop, ckTop, ckTop, ckTop, ckTop, ckTop, ckTop, ckTop, ckTop, (22, 30), (0, 0), (0, 30), (0, 1), ckTop, (0, 1), (318, 318), (30, 30)]
noncomputable def dZ458 : List ckZ := [(13, 22, 0), (21, 15, 0), (21, 16, 0), (21, 22, (-22)), (23, 15, 0), (23, 16, 0), (23, 22, (-22))]
-- FarMachineModel.test
noncomputable def k241 : ckCtr := (86, ([(0, (1, 0))], [], dC433, dT457, dG435, [], [], [(1, 0, 0, 0, [])], 0, 0), [([], [(0, 21)], dP436, [], [], [(0, 1), (22, 30), (0, 1)], [], [], dZ458, [(1, 0, 0, 0, [])], 0, 0)], 13, 350, 0, 0)
noncomputable def k241_a : ckAs := []
noncomputable def k241_c : List (Nat × ckCtr) := [(3, k225), (10, k240), (23, k232), (28, k224), (75, k232)]
theorem k241_ok (l : Launch) : ckCtrOk l ckMT ckTW ckCL k241 := mt_86 (as := k241_a) (cs := k241_c) (gx := []) (f := 200000) rfl (ckHc (k225_ok l) (ckHc (k240_ok l) (ckHc (k232_ok l) (ckHc (k224_ok l) (ckHc (k232_ok l) (fun _ h => absurd h List.not_mem_nil)))))) True.intro (by decide +kernel)
noncomputable def dT459 : List ckI := [(0, 1), (0, 1), ckTop, ckTop, ckTop, ckTop, ckTop, ckTop, ckTop, ckTop, ckTop, ckTop, ckTop, (21, 30), (0, 0), (0, 30), (0, 1), ckTop, (0, 1), (318, 318), (30, 30)]
noncomputable def dZ460 : List ckZ := [(13, 22, 0), (21, 15, 0), (21, 16, 0), (21, 22, (-21)), (23, 15, 0), (23, 16, 0), (23, 22, (-21))]
-- FarMachineModel.test
noncomputable def k242 : ckCtr := (86, ([(0, (1, 0))], [], dC433, dT459, dG435, [], [], [(1, 0, 0, 0, [])], 0, 0), [([], [(0, 21)], dP436, [], [], [(0, 1), (21, 30), (0, 1)], [], [], dZ460, [(1, 0, 0, 0, [])], 0, 0)], 14, 373, 0, 0)
noncomputable def k242_a : ckAs := []
noncomputable def k242_c : List (Nat × ckCtr) := [(3, k225), (10, k241), (23, k232), (28, k224), (75, k232)]
theorem k242_ok (l : Launch) : ckCtrOk l ckMT ckTW ckCL k242 := mt_86 (as := k242_a) (cs := k242_c) (gx := []) (f := 200000) rfl (ckHc (k225_ok l) (ckHc (k241_ok l) (ckHc (k232_ok l) (ckHc (k224_ok l) (ckHc (k232_ok l) (fun _ h => absurd h List.not_mem_nil)))))) True.intro (by decide +kernel)
noncomputable def dT461 : List ckI := [(0, 1), (0, 1), ckTop, ckTop, ckTop, ckTop, ckTop, ckTop, ckTop, ckTop, ckTop, ckTop, ckTop, (20, 30), (0, 0), (0, 30), (0, 1), ckTop, (0, 1), (318, 318), (30, 30)]
noncomputable def dZ462 : List ckZ := [(13, 22, 0), (21, 15, 0), (21, 16, 0), (21, 22, (-20)), (23, 15, 0), (23, 16, 0), (23, 22, (-20))]
-- FarMachineModel.test
noncomputable def k243 : ckCtr := (86, ([(0, (1, 0))], [], dC433, dT461, dG435, [], [], [(1, 0, 0, 0, [])], 0, 0), [([], [(0, 21)], dP436, [], [], [(0, 1), (20, 30), (0, 1)], [], [], dZ462, [(1, 0, 0, 0, [])], 0, 0)], 15, 396, 0, 0)
noncomputable def k243_a : ckAs := []
noncomputable def k243_c : List (Nat × ckCtr) := [(3, k225), (10, k242), (23, k232), (28, k224), (75, k232)]
theorem k243_ok (l : Launch) : ckCtrOk l ckMT ckTW ckCL k243 := mt_86 (as := k243_a) (cs := k243_c) (gx := []) (f := 200000) rfl (ckHc (k225_ok l) (ckHc (k242_ok l) (ckHc (k232_ok l) (ckHc (k224_ok l) (ckHc (k232_ok l) (fun _ h => absurd h List.not_mem_nil)))))) True.intro (by decide +kernel)
noncomputable def dT463 : List ckI := [(0, 1), (0, 1), ckTop, ckTop, ckTop, ckTop, ckTop, ckTop, ckTop, ckTop, ckTop, ckTop, ckTop, (19, 30), (0, 0), (0, 30), (0, 1), ckTop, (0, 1), (318, 318), (30, 30)]
noncomputable def dZ464 : List ckZ := [(13, 22, 0), (21, 15, 0), (21, 16, 0), (21, 22, (-19)), (23, 15, 0), (23, 16, 0), (23, 22, (-19))]
-- FarMachineModel.test
noncomputable def k244 : ckCtr := (86, ([(0, (1, 0))], [], dC433, dT463, dG435, [], [], [(1, 0, 0, 0, [])], 0, 0), [([], [(0, 21)], dP436, [], [], [(0, 1), (19, 30), (0, 1)], [], [], dZ464, [(1, 0, 0, 0, [])], 0, 0)], 16, 419, 0, 0)
noncomputable def k244_a : ckAs := []
noncomputable def k244_c : List (Nat × ckCtr) := [(3, k225), (10, k243), (23, k232), (28, k224), (75, k232)]
theorem k244_ok (l : Launch) : ckCtrOk l ckMT ckTW ckCL k244 := mt_86 (as := k244_a) (cs := k244_c) (gx := []) (f := 200000) rfl (ckHc (k225_ok l) (ckHc (k243_ok l) (ckHc (k232_ok l) (ckHc (k224_ok l) (ckHc (k232_ok l) (fun _ h => absurd h List.not_mem_nil)))))) True.intro (by decide +kernel)
noncomputable def dT465 : List ckI := [(0, 1), (0, 1), ckTop, ckTop, ckTop, ckTop, ckTop, ckTop, ckTop, ckTop, ckTop, ckTop, ckTop, (18, 30), (0, 0), (0, 30), (0, 1), ckTop, (0, 1), (318, 318), (30, 30)]
noncomputable def dZ466 : List ckZ := [(13, 22, 0), (21, 15, 0), (21, 16, 0), (21, 22, (-18)), (23, 15, 0), (23, 16, 0), (23, 22, (-18))]
-- FarMachineModel.test
noncomputable def k245 : ckCtr := (86, ([(0, (1, 0))], [], dC433, dT465, dG435, [], [], [(1, 0, 0, 0, [])], 0, 0), [([], [(0, 21)], dP436, [], [], [(0, 1), (18, 30), (0, 1)], [], [], dZ466, [(1, 0, 0, 0, [])], 0, 0)], 17, 442, 0, 0)
noncomputable def k245_a : ckAs := []
noncomputable def k245_c : List (Nat × ckCtr) := [(3, k225), (10, k244), (23, k232), (28, k224), (75, k232)]
theorem k245_ok (l : Launch) : ckCtrOk l ckMT ckTW ckCL k245 := mt_86 (as := k245_a) (cs := k245_c) (gx := []) (f := 200000) rfl (ckHc (k225_ok l) (ckHc (k244_ok l) (ckHc (k232_ok l) (ckHc (k224_ok l) (ckHc (k232_ok l) (fun _ h => absurd h List.not_mem_nil)))))) True.intro (by decide +kernel)
noncomputable def dT467 : List ckI := [(0, 1), (0, 1), ckTop, ckTop, ckTop, ckTop, ckTop, ckTop, ckTop, ckTop, ckTop, ckTop, ckTop, (17, 30), (0, 0), (0, 30), (0, 1), ckTop, (0, 1), (318, 318), (30, 30)]
noncomputable def dZ468 : List ckZ := [(13, 22, 0), (21, 15, 0), (21, 16, 0), (21, 22, (-17)), (23, 15, 0), (23, 16, 0), (23, 22, (-17))]
-- FarMachineModel.test
noncomputable def k246 : ckCtr := (86, ([(0, (1, 0))], [], dC433, dT467, dG435, [], [], [(1, 0, 0, 0, [])], 0, 0), [([], [(0, 21)], dP436, [], [], [(0, 1), (17, 30), (0, 1)], [], [], dZ468, [(1, 0, 0, 0, [])], 0, 0)], 18, 465, 0, 0)
noncomputable def k246_a : ckAs := []
noncomputable def k246_c : List (Nat × ckCtr) := [(3, k225), (10, k245), (23, k232), (28, k224), (75, k232)]
theorem k246_ok (l : Launch) : ckCtrOk l ckMT ckTW ckCL k246 := mt_86 (as := k246_a) (cs := k246_c) (gx := []) (f := 200000) rfl (ckHc (k225_ok l) (ckHc (k245_ok l) (ckHc (k232_ok l) (ckHc (k224_ok l) (ckHc (k232_ok l) (fun _ h => absurd h List.not_mem_nil)))))) True.intro (by decide +kernel)
noncomputable def dT469 : List ckI := [(0, 1), (0, 1), ckTop, ckTop, ckTop, ckTop, ckTop, ckTop, ckTop, ckTop, ckTop, ckTop, ckTop, (16, 30), (0, 0), (0, 30), (0, 1), ckTop, (0, 1), (318, 318), (30, 30)]
noncomputable def dZ470 : List ckZ := [(13, 22, 0), (21, 15, 0), (21, 16, 0), (21, 22, (-16)), (23, 15, 0), (23, 16, 0), (23, 22, (-16))]
-- FarMachineModel.test
noncomputable def k247 : ckCtr := (86, ([(0, (1, 0))], [], dC433, dT469, dG435, [], [], [(1, 0, 0, 0, [])], 0, 0), [([], [(0, 21)], dP436, [], [], [(0, 1), (16, 30), (0, 1)], [], [], dZ470, [(1, 0, 0, 0, [])], 0, 0)], 19, 488, 0, 0)
noncomputable def k247_a : ckAs := []
noncomputable def k247_c : List (Nat × ckCtr) := [(3, k225), (10, k246), (23, k232), (28, k224), (75, k232)]
theorem k247_ok (l : Launch) : ckCtrOk l ckMT ckTW ckCL k247 := mt_86 (as := k247_a) (cs := k247_c) (gx := []) (f := 200000) rfl (ckHc (k225_ok l) (ckHc (k246_ok l) (ckHc (k232_ok l) (ckHc (k224_ok l) (ckHc (k232_ok l) (fun _ h => absurd h List.not_mem_nil)))))) True.intro (by decide +kernel)
noncomputable def dT471 : List ckI := [(0, 1), (0, 1), ckTop, ckTop, ckTop, ckTop, ckTop, ckTop, ckTop, ckTop, ckTop, ckTop, ckTop, (15, 30), (0, 0), (0, 30), (0, 1), ckTop, (0, 1), (318, 318), (30, 30)]
noncomputable def dZ472 : List ckZ := [(13, 22, 0), (21, 15, 0), (21, 16, 0), (21, 22, (-15)), (23, 15, 0), (23, 16, 0), (23, 22, (-15))]
-- FarMachineModel.test
noncomputable def k248 : ckCtr := (86, ([(0, (1, 0))], [], dC433, dT471, dG435, [], [], [(1, 0, 0, 0, [])], 0, 0), [([], [(0, 21)], dP436, [], [], [(0, 1), (15, 30), (0, 1)], [], [], dZ472, [(1, 0, 0, 0, [])], 0, 0)], 20, 511, 0, 0)
noncomputable def k248_a : ckAs := []
noncomputable def k248_c : List (Nat × ckCtr) := [(3, k225), (10, k247), (23, k232), (28, k224), (75, k232)]
theorem k248_ok (l : Launch) : ckCtrOk l ckMT ckTW ckCL k248 := mt_86 (as := k248_a) (cs := k248_c) (gx := []) (f := 200000) rfl (ckHc (k225_ok l) (ckHc (k247_ok l) (ckHc (k232_ok l) (ckHc (k224_ok l) (ckHc (k232_ok l) (fun _ h => absurd h List.not_mem_nil)))))) True.intro (by decide +kernel)
noncomputable def dT473 : List ckI := [(0, 1), (0, 1), ckTop, ckTop, ckTop, ckTop, ckTop, ckTop, ckTop, ckTop, ckTop, ckTop, ckTop, (14, 30), (0, 0), (0, 30), (0, 1), ckTop, (0, 1), (318, 318), (30, 30)]
noncomputable def dZ474 : List ckZ := [(13, 22, 0), (21, 15, 0), (21, 16, 0), (21, 22, (-14)), (23, 15, 0), (23, 16, 0), (23, 22, (-14))]
-- FarMachineModel.test
noncomputable def k249 : ckCtr := (86, ([(0, (1, 0))], [], dC433, dT473, dG435, [], [], [(1, 0, 0, 0, [])], 0, 0), [([], [(0, 21)], dP436, [], [], [(0, 1), (14, 30), (0, 1)], [], [], dZ474, [(1, 0, 0, 0, [])], 0, 0)], 21, 534, 0, 0)
noncomputable def k249_a : ckAs := []
noncomputable def k249_c : List (Nat × ckCtr) := [(3, k225), (10, k248), (23, k232), (28, k224), (75, k232)]
theorem k249_ok (l : Launch) : ckCtrOk l ckMT ckTW ckCL k249 := mt_86 (as := k249_a) (cs := k249_c) (gx := []) (f := 200000) rfl (ckHc (k225_ok l) (ckHc (k248_ok l) (ckHc (k232_ok l) (ckHc (k224_ok l) (ckHc (k232_ok l) (fun _ h => absurd h List.not_mem_nil)))))) True.intro (by decide +kernel)
noncomputable def dT475 : List ckI := [(0, 1), (0, 1), ckTop, ckTop, ckTop, ckTop, ckTop, ckTop, ckTop, ckTop, ckTop, ckTop, ckTop, (13, 30), (0, 0), (0, 30), (0, 1), ckTop, (0, 1), (318, 318), (30, 30)]
noncomputable def dZ476 : List ckZ := [(13, 22, 0), (21, 15, 0), (21, 16, 0), (21, 22, (-13)), (23, 15, 0), (23, 16, 0), (23, 22, (-13))]
-- FarMachineModel.test
noncomputable def k250 : ckCtr := (86, ([(0, (1, 0))], [], dC433, dT475, dG435, [], [], [(1, 0, 0, 0, [])], 0, 0), [([], [(0, 21)], dP436, [], [], [(0, 1), (13, 30), (0, 1)], [], [], dZ476, [(1, 0, 0, 0, [])], 0, 0)], 22, 557, 0, 0)
noncomputable def k250_a : ckAs := []
noncomputable def k250_c : List (Nat × ckCtr) := [(3, k225), (10, k249), (23, k232), (28, k224), (75, k232)]
theorem k250_ok (l : Launch) : ckCtrOk l ckMT ckTW ckCL k250 := mt_86 (as := k250_a) (cs := k250_c) (gx := []) (f := 200000) rfl (ckHc (k225_ok l) (ckHc (k249_ok l) (ckHc (k232_ok l) (ckHc (k224_ok l) (ckHc (k232_ok l) (fun _ h => absurd h List.not_mem_nil)))))) True.intro (by decide +kernel)
noncomputable def dT477 : List ckI := [(0, 1), (0, 1), ckTop, ckTop, ckTop, ckTop, ckTop, ckTop, ckTop, ckTop, ckTop, ckTop, ckTop, (12, 30), (0, 0), (0, 30), (0, 1), ckTop, (0, 1), (318, 318), (30, 30)]
noncomputable def dZ478 : List ckZ := [(13, 22, 0), (21, 15, 0), (21, 16, 0), (21, 22, (-12)), (23, 15, 0), (23, 16, 0), (23, 22, (-12))]
-- FarMachineModel.test
noncomputable def k251 : ckCtr := (86, ([(0, (1, 0))], [], dC433, dT477, dG435, [], [], [(1, 0, 0, 0, [])], 0, 0), [([], [(0, 21)], dP436, [], [], [(0, 1), (12, 30), (0, 1)], [], [], dZ478, [(1, 0, 0, 0, [])], 0, 0)], 23, 580, 0, 0)
noncomputable def k251_a : ckAs := []
noncomputable def k251_c : List (Nat × ckCtr) := [(3, k225), (10, k250), (23, k232), (28, k224), (75, k232)]
theorem k251_ok (l : Launch) : ckCtrOk l ckMT ckTW ckCL k251 := mt_86 (as := k251_a) (cs := k251_c) (gx := []) (f := 200000) rfl (ckHc (k225_ok l) (ckHc (k250_ok l) (ckHc (k232_ok l) (ckHc (k224_ok l) (ckHc (k232_ok l) (fun _ h => absurd h List.not_mem_nil)))))) True.intro (by decide +kernel)
noncomputable def dT479 : List ckI := [(0, 1), (0, 1), ckTop, ckTop, ckTop, ckTop, ckTop, ckTop, ckTop, ckTop, ckTop, ckTop, ckTop, (11, 30), (0, 0), (0, 30), (0, 1), ckTop, (0, 1), (318, 318), (30, 30)]
noncomputable def dZ480 : List ckZ := [(13, 22, 0), (21, 15, 0), (21, 16, 0), (21, 22, (-11)), (23, 15, 0), (23, 16, 0), (23, 22, (-11))]
-- FarMachineModel.test
noncomputable def k252 : ckCtr := (86, ([(0, (1, 0))], [], dC433, dT479, dG435, [], [], [(1, 0, 0, 0, [])], 0, 0), [([], [(0, 21)], dP436, [], [], [(0, 1), (11, 30), (0, 1)], [], [], dZ480, [(1, 0, 0, 0, [])], 0, 0)], 24, 603, 0, 0)
noncomputable def k252_a : ckAs := []
noncomputable def k252_c : List (Nat × ckCtr) := [(3, k225), (10, k251), (23, k232), (28, k224), (75, k232)]
theorem k252_ok (l : Launch) : ckCtrOk l ckMT ckTW ckCL k252 := mt_86 (as := k252_a) (cs := k252_c) (gx := []) (f := 200000) rfl (ckHc (k225_ok l) (ckHc (k251_ok l) (ckHc (k232_ok l) (ckHc (k224_ok l) (ckHc (k232_ok l) (fun _ h => absurd h List.not_mem_nil)))))) True.intro (by decide +kernel)
noncomputable def dT481 : List ckI := [(0, 1), (0, 1), ckTop, ckTop, ckTop, ckTop, ckTop, ckTop, ckTop, ckTop, ckTop, ckTop, ckTop, (10, 30), (0, 0), (0, 30), (0, 1), ckTop, (0, 1), (318, 318), (30, 30)]
noncomputable def dZ482 : List ckZ := [(13, 22, 0), (21, 15, 0), (21, 16, 0), (21, 22, (-10)), (23, 15, 0), (23, 16, 0), (23, 22, (-10))]
-- FarMachineModel.test
noncomputable def k253 : ckCtr := (86, ([(0, (1, 0))], [], dC433, dT481, dG435, [], [], [(1, 0, 0, 0, [])], 0, 0), [([], [(0, 21)], dP436, [], [], [(0, 1), (10, 30), (0, 1)], [], [], dZ482, [(1, 0, 0, 0, [])], 0, 0)], 25, 626, 0, 0)
noncomputable def k253_a : ckAs := []
noncomputable def k253_c : List (Nat × ckCtr) := [(3, k225), (10, k252), (23, k232), (28, k224), (75, k232)]
theorem k253_ok (l : Launch) : ckCtrOk l ckMT ckTW ckCL k253 := mt_86 (as := k253_a) (cs := k253_c) (gx := []) (f := 200000) rfl (ckHc (k225_ok l) (ckHc (k252_ok l) (ckHc (k232_ok l) (ckHc (k224_ok l) (ckHc (k232_ok l) (fun _ h => absurd h List.not_mem_nil)))))) True.intro (by decide +kernel)
noncomputable def dT483 : List ckI := [(0, 1), (0, 1), ckTop, ckTop, ckTop, ckTop, ckTop, ckTop, ckTop, ckTop, ckTop, ckTop, ckTop, (9, 30), (0, 0), (0, 30), (0, 1), ckTop, (0, 1), (318, 318), (30, 30)]
noncomputable def dZ484 : List ckZ := [(13, 22, 0), (21, 15, 0), (21, 16, 0), (21, 22, (-9)), (23, 15, 0), (23, 16, 0), (23, 22, (-9))]
-- FarMachineModel.test
noncomputable def k254 : ckCtr := (86, ([(0, (1, 0))], [], dC433, dT483, dG435, [], [], [(1, 0, 0, 0, [])], 0, 0), [([], [(0, 21)], dP436, [], [], [(0, 1), (9, 30), (0, 1)], [], [], dZ484, [(1, 0, 0, 0, [])], 0, 0)], 26, 649, 0, 0)
noncomputable def k254_a : ckAs := []
noncomputable def k254_c : List (Nat × ckCtr) := [(3, k225), (10, k253), (23, k232), (28, k224), (75, k232)]
theorem k254_ok (l : Launch) : ckCtrOk l ckMT ckTW ckCL k254 := mt_86 (as := k254_a) (cs := k254_c) (gx := []) (f := 200000) rfl (ckHc (k225_ok l) (ckHc (k253_ok l) (ckHc (k232_ok l) (ckHc (k224_ok l) (ckHc (k232_ok l) (fun _ h => absurd h List.not_mem_nil)))))) True.intro (by decide +kernel)
noncomputable def dT485 : List ckI := [(0, 1), (0, 1), ckTop, ckTop, ckTop, ckTop, ckTop, ckTop, ckTop, ckTop, ckTop, ckTop, ckTop, (8, 30), (0, 0), (0, 30), (0, 1), ckTop, (0, 1), (318, 318), (30, 30)]
noncomputable def dZ486 : List ckZ := [(13, 22, 0), (21, 15, 0), (21, 16, 0), (21, 22, (-8)), (23, 15, 0), (23, 16, 0), (23, 22, (-8))]
-- FarMachineModel.test
noncomputable def k255 : ckCtr := (86, ([(0, (1, 0))], [], dC433, dT485, dG435, [], [], [(1, 0, 0, 0, [])], 0, 0), [([], [(0, 21)], dP436, [], [], [(0, 1), (8, 30), (0, 1)], [], [], dZ486, [(1, 0, 0, 0, [])], 0, 0)], 27, 672, 0, 0)
noncomputable def k255_a : ckAs := []
noncomputable def k255_c : List (Nat × ckCtr) := [(3, k225), (10, k254), (23, k232), (28, k224), (75, k232)]
theorem k255_ok (l : Launch) : ckCtrOk l ckMT ckTW ckCL k255 := mt_86 (as := k255_a) (cs := k255_c) (gx := []) (f := 200000) rfl (ckHc (k225_ok l) (ckHc (k254_ok l) (ckHc (k232_ok l) (ckHc (k224_ok l) (ckHc (k232_ok l) (fun _ h => absurd h List.not_mem_nil)))))) True.intro (by decide +kernel)
noncomputable def dT487 : List ckI := [(0, 1), (0, 1), ckTop, ckTop, ckTop, ckTop, ckTop, ckTop, ckTop, ckTop, ckTop, ckTop, ckTop, (7, 30), (0, 0), (0, 30), (0, 1), ckTop, (0, 1), (318, 318), (30, 30)]
noncomputable def dZ488 : List ckZ := [(13, 22, 0), (21, 15, 0), (21, 16, 0), (21, 22, (-7)), (23, 15, 0), (23, 16, 0), (23, 22, (-7))]
-- FarMachineModel.test
noncomputable def k256 : ckCtr := (86, ([(0, (1, 0))], [], dC433, dT487, dG435, [], [], [(1, 0, 0, 0, [])], 0, 0), [([], [(0, 21)], dP436, [], [], [(0, 1), (7, 30), (0, 1)], [], [], dZ488, [(1, 0, 0, 0, [])], 0, 0)], 28, 695, 0, 0)
noncomputable def k256_a : ckAs := []
noncomputable def k256_c : List (Nat × ckCtr) := [(3, k225), (10, k255), (23, k232), (28, k224), (75, k232)]
theorem k256_ok (l : Launch) : ckCtrOk l ckMT ckTW ckCL k256 := mt_86 (as := k256_a) (cs := k256_c) (gx := []) (f := 200000) rfl (ckHc (k225_ok l) (ckHc (k255_ok l) (ckHc (k232_ok l) (ckHc (k224_ok l) (ckHc (k232_ok l) (fun _ h => absurd h List.not_mem_nil)))))) True.intro (by decide +kernel)
noncomputable def dT489 : List ckI := [(0, 1), (0, 1), ckTop, ckTop, ckTop, ckTop, ckTop, ckTop, ckTop, ckTop, ckTop, ckTop, ckTop, (6, 30), (0, 0), (0, 30), (0, 1), ckTop, (0, 1), (318, 318), (30, 30)]
noncomputable def dZ490 : List ckZ := [(13, 22, 0), (21, 15, 0), (21, 16, 0), (21, 22, (-6)), (23, 15, 0), (23, 16, 0), (23, 22, (-6))]
-- FarMachineModel.test
noncomputable def k257 : ckCtr := (86, ([(0, (1, 0))], [], dC433, dT489, dG435, [], [], [(1, 0, 0, 0, [])], 0, 0), [([], [(0, 21)], dP436, [], [], [(0, 1), (6, 30), (0, 1)], [], [], dZ490, [(1, 0, 0, 0, [])], 0, 0)], 29, 718, 0, 0)
noncomputable def k257_a : ckAs := []
noncomputable def k257_c : List (Nat × ckCtr) := [(3, k225), (10, k256), (23, k232), (28, k224), (75, k232)]
theorem k257_ok (l : Launch) : ckCtrOk l ckMT ckTW ckCL k257 := mt_86 (as := k257_a) (cs := k257_c) (gx := []) (f := 200000) rfl (ckHc (k225_ok l) (ckHc (k256_ok l) (ckHc (k232_ok l) (ckHc (k224_ok l) (ckHc (k232_ok l) (fun _ h => absurd h List.not_mem_nil)))))) True.intro (by decide +kernel)
noncomputable def dT491 : List ckI := [(0, 1), (0, 1), ckTop, ckTop, ckTop, ckTop, ckTop, ckTop, ckTop, ckTop, ckTop, ckTop, ckTop, (5, 30), (0, 0), (0, 30), (0, 1), ckTop, (0, 1), (318, 318), (30, 30)]
noncomputable def dZ492 : List ckZ := [(13, 22, 0), (21, 15, 0), (21, 16, 0), (21, 22, (-5)), (23, 15, 0), (23, 16, 0), (23, 22, (-5))]
-- FarMachineModel.test
noncomputable def k258 : ckCtr := (86, ([(0, (1, 0))], [], dC433, dT491, dG435, [], [], [(1, 0, 0, 0, [])], 0, 0), [([], [(0, 21)], dP436, [], [], [(0, 1), (5, 30), (0, 1)], [], [], dZ492, [(1, 0, 0, 0, [])], 0, 0)], 30, 741, 0, 0)
noncomputable def k258_a : ckAs := []
noncomputable def k258_c : List (Nat × ckCtr) := [(3, k225), (10, k257), (23, k232), (28, k224), (75, k232)]
theorem k258_ok (l : Launch) : ckCtrOk l ckMT ckTW ckCL k258 := mt_86 (as := k258_a) (cs := k258_c) (gx := []) (f := 200000) rfl (ckHc (k225_ok l) (ckHc (k257_ok l) (ckHc (k232_ok l) (ckHc (k224_ok l) (ckHc (k232_ok l) (fun _ h => absurd h List.not_mem_nil)))))) True.intro (by decide +kernel)
noncomputable def dT493 : List ckI := [(0, 1), (0, 1), ckTop, ckTop, ckTop, ckTop, ckTop, ckTop, ckTop, ckTop, ckTop, ckTop, ckTop, (4, 30), (0, 0), (0, 30), (0, 1), ckTop, (0, 1), (318, 318), (30, 30)]
noncomputable def dZ494 : List ckZ := [(13, 22, 0), (21, 15, 0), (21, 16, 0), (21, 22, (-4)), (23, 15, 0), (23, 16, 0), (23, 22, (-4))]
-- FarMachineModel.test
noncomputable def k259 : ckCtr := (86, ([(0, (1, 0))], [], dC433, dT493, dG435, [], [], [(1, 0, 0, 0, [])], 0, 0), [([], [(0, 21)], dP436, [], [], [(0, 1), (4, 30), (0, 1)], [], [], dZ494, [(1, 0, 0, 0, [])], 0, 0)], 31, 764, 0, 0)
noncomputable def k259_a : ckAs := []
noncomputable def k259_c : List (Nat × ckCtr) := [(3, k225), (10, k258), (23, k232), (28, k224), (75, k232)]
theorem k259_ok (l : Launch) : ckCtrOk l ckMT ckTW ckCL k259 := mt_86 (as := k259_a) (cs := k259_c) (gx := []) (f := 200000) rfl (ckHc (k225_ok l) (ckHc (k258_ok l) (ckHc (k232_ok l) (ckHc (k224_ok l) (ckHc (k232_ok l) (fun _ h => absurd h List.not_mem_nil)))))) True.intro (by decide +kernel)
noncomputable def dT495 : List ckI := [(0, 1), (0, 1), ckTop, ckTop, ckTop, ckTop, ckTop, ckTop, ckTop, ckTop, ckTop, ckTop, ckTop, (3, 30), (0, 0), (0, 30), (0, 1), ckTop, (0, 1), (318, 318), (30, 30)]
noncomputable def dZ496 : List ckZ := [(13, 22, 0), (21, 15, 0), (21, 16, 0), (21, 22, (-3)), (23, 15, 0), (23, 16, 0), (23, 22, (-3))]
-- FarMachineModel.test
noncomputable def k260 : ckCtr := (86, ([(0, (1, 0))], [], dC433, dT495, dG435, [], [], [(1, 0, 0, 0, [])], 0, 0), [([], [(0, 21)], dP436, [], [], [(0, 1), (3, 30), (0, 1)], [], [], dZ496, [(1, 0, 0, 0, [])], 0, 0)], 32, 787, 0, 0)
noncomputable def k260_a : ckAs := []
noncomputable def k260_c : List (Nat × ckCtr) := [(3, k225), (10, k259), (23, k232), (28, k224), (75, k232)]
theorem k260_ok (l : Launch) : ckCtrOk l ckMT ckTW ckCL k260 := mt_86 (as := k260_a) (cs := k260_c) (gx := []) (f := 200000) rfl (ckHc (k225_ok l) (ckHc (k259_ok l) (ckHc (k232_ok l) (ckHc (k224_ok l) (ckHc (k232_ok l) (fun _ h => absurd h List.not_mem_nil)))))) True.intro (by decide +kernel)
noncomputable def dT497 : List ckI := [(0, 1), (0, 1), ckTop, ckTop, ckTop, ckTop, ckTop, ckTop, ckTop, ckTop, ckTop, ckTop, ckTop, (2, 30), (0, 0), (0, 30), (0, 1), ckTop, (0, 1), (318, 318), (30, 30)]
noncomputable def dZ498 : List ckZ := [(13, 22, 0), (21, 15, 0), (21, 16, 0), (21, 22, (-2)), (23, 15, 0), (23, 16, 0), (23, 22, (-2))]
-- FarMachineModel.test
noncomputable def k261 : ckCtr := (86, ([(0, (1, 0))], [], dC433, dT497, dG435, [], [], [(1, 0, 0, 0, [])], 0, 0), [([], [(0, 21)], dP436, [], [], [(0, 1), (2, 30), (0, 1)], [], [], dZ498, [(1, 0, 0, 0, [])], 0, 0)], 33, 810, 0, 0)
noncomputable def k261_a : ckAs := []
noncomputable def k261_c : List (Nat × ckCtr) := [(3, k225), (10, k260), (23, k232), (28, k224), (75, k232)]
theorem k261_ok (l : Launch) : ckCtrOk l ckMT ckTW ckCL k261 := mt_86 (as := k261_a) (cs := k261_c) (gx := []) (f := 200000) rfl (ckHc (k225_ok l) (ckHc (k260_ok l) (ckHc (k232_ok l) (ckHc (k224_ok l) (ckHc (k232_ok l) (fun _ h => absurd h List.not_mem_nil)))))) True.intro (by decide +kernel)
noncomputable def dT499 : List ckI := [(0, 1), (0, 1), ckTop, ckTop, ckTop, ckTop, ckTop, ckTop, ckTop, ckTop, ckTop, ckTop, ckTop, (1, 30), (0, 0), (0, 30), (0, 1), ckTop, (0, 1), (318, 318), (30, 30)]
noncomputable def dZ500 : List ckZ := [(13, 22, 0), (21, 15, 0), (21, 16, 0), (21, 22, (-1)), (23, 15, 0), (23, 16, 0), (23, 22, (-1))]
-- FarMachineModel.test
noncomputable def k262 : ckCtr := (86, ([(0, (1, 0))], [], dC433, dT499, dG435, [], [], [(1, 0, 0, 0, [])], 0, 0), [([], [(0, 21)], dP436, [], [], [(0, 1), (1, 30), (0, 1)], [], [], dZ500, [(1, 0, 0, 0, [])], 0, 0)], 34, 833, 0, 0)
noncomputable def k262_a : ckAs := []
noncomputable def k262_c : List (Nat × ckCtr) := [(3, k225), (10, k261), (23, k232), (28, k224), (75, k232)]
theorem k262_ok (l : Launch) : ckCtrOk l ckMT ckTW ckCL k262 := mt_86 (as := k262_a) (cs := k262_c) (gx := []) (f := 200000) rfl (ckHc (k225_ok l) (ckHc (k261_ok l) (ckHc (k232_ok l) (ckHc (k224_ok l) (ckHc (k232_ok l) (fun _ h => absurd h List.not_mem_nil)))))) True.intro (by decide +kernel)
noncomputable def dZ501 : List ckZ := [(13, 22, 0), (21, 15, 0), (21, 16, 0), (21, 22, 0), (23, 15, 0), (23, 16, 0), (23, 22, 0)]
-- FarMachineModel.test
noncomputable def k263 : ckCtr := (86, ([(0, (1, 0))], [], dC433, dT434, dG435, [], [], [(1, 0, 0, 0, [])], 0, 0), [([], [(0, 21)], dP436, [], [], [(0, 1), (0, 30), (0, 1)], [], [], dZ501, [(1, 0, 0, 0, [])], 0, 0)], 35, 856, 0, 0)
noncomputable def k263_a : ckAs := []
noncomputable def k263_c : List (Nat × ckCtr) := [(3, k225), (10, k262), (23, k232), (28, k224), (75, k232)]
theorem k263_ok (l : Launch) : ckCtrOk l ckMT ckTW ckCL k263 := mt_86 (as := k263_a) (cs := k263_c) (gx := []) (f := 200000) rfl (ckHc (k225_ok l) (ckHc (k262_ok l) (ckHc (k232_ok l) (ckHc (k224_ok l) (ckHc (k232_ok l) (fun _ h => absurd h List.not_mem_nil)))))) True.intro (by decide +kernel)
noncomputable def dT502 : List ckI := [(38, 38), (0, 1), (0, 1), ckTop, ckTop, ckTop, ckTop, ckTop, ckTop, ckTop, ckTop, ckTop, ckTop, ckTop, (0, 30), (0, 0), (0, 30), (0, 1), ckTop, (0, 1), (30, 30)]
-- FarMachineModel.takes
noncomputable def k264 : ckCtr := (84, ([(0, (1, 0)), (1, (0, 0))], [], dC423, dT502, [([(30, ckTop)], [], [])], [], [], [], 0, 0), [([], [(0, 15)], [], [], [], [], [], [], [], [], 0, 0), ([], [(0, 21)], dP425, [], [(14, (0, 29)), (16, (1, 30)), (17, (1, 1))], [(1, 1), (1, 30)], [], [], [(14, 16, (-1)), (14, 22, (-1)), (22, 14, 1), (22, 16, 0)], [], 0, 0)], 2, 100, 0, 0)
noncomputable def k264_a : ckAs := []
noncomputable def k264_c : List (Nat × ckCtr) := [(8, k224)]
theorem k264_ok (l : Launch) : ckCtrOk l ckMT ckTW ckCL k264 := mt_84 (as := k264_a) (cs := k264_c) (gx := []) (f := 200000) rfl (ckHc (k224_ok l) (fun _ h => absurd h List.not_mem_nil)) True.intro (by decide +kernel)
noncomputable def dT503 : List ckI := [(0, 1), (0, 1), ckTop, ckTop, ckTop, ckTop, ckTop, ckTop, ckTop, ckTop, ckTop, ckTop, ckTop, (0, 0), (0, 0), (0, 30), (0, 1), ckTop, (0, 1), (318, 318), (30, 30)]
noncomputable def dZ504 : List ckZ := [(21, 15, 0), (21, 16, 0), (21, 22, 0), (23, 15, 0), (23, 16, 0), (23, 22, 0)]
noncomputable def dP505 : List (Nat × ckC) := [(0, .inl (9, [(4, 10), (1, 1), (4, 11), (4, 12), (4, 13), (4, 14), (4, 15), (4, 16), (4, 17), (4, 18), (4, 19), (4, 20), (4, 21), (4, 22), (4, 23), (4, 24), (0, 0), (0, 1), (0, 2), (0, 3), (0, 4), (0, 5), (0, 6), (4, 25), (0, 7), (4, 26), (0, 8), (0, 9), (0, 10), (0, 11), (1, 2), (0, 12), (0, 25), (0, 14), (0, 15), (1, 2), (1, 1), (0, 26), (4, 27), (4, 28), (0, 17), (0, 18)]))]
noncomputable def dZ506 : List ckZ := [(21, 15, 0), (21, 16, 0), (21, 22, 0), (21, 25, 0), (22, 25, 0), (23, 15, 0), (23, 16, 0), (23, 22, 0), (23, 25, 0), (24, 15, 0), (24, 16, 0), (24, 21, 0), (24, 22, 0), (24, 25, 0), (25, 22, 29), (26, 15, 0), (26, 16, 0), (26, 22, 0), (26, 23, 0), (26, 25, 0)]
-- FarMachineModel.and
noncomputable def k265 : ckCtr := (85, ([(0, (1, 0))], [], dC433, dT503, dG435, [], [], [(1, 0, 0, 0, [])], 0, 0), [([], [(0, 21)], dP436, [], [], [(0, 1), (0, 30), (0, 1)], [], [], dZ504, [(1, 0, 0, 0, [])], 0, 0)], 36, 879, 0, 0)
noncomputable def k265_a : ckAs := [(5, [(574357, [(1, 0, 1, ([(0, (1, 0)), (1, (0, 24))], [], dP505, [], [], [(0, 1), (0, 30), (0, 1)], [], [], dZ506, [(1, 0, 0, 0, [])], 0, 0))])])]
noncomputable def k265_c : List (Nat × ckCtr) := [(1, k263), (8, k264), (15, k262)]
theorem k265_ok (l : Launch) : ckCtrOk l ckMT ckTW ckCL k265 := mt_85 (as := k265_a) (cs := k265_c) (gx := []) (f := 200000) rfl (ckHc (k263_ok l) (ckHc (k264_ok l) (ckHc (k262_ok l) (fun _ h => absurd h List.not_mem_nil)))) True.intro (by decide +kernel)
noncomputable def dC507 : List ckC := [.inl (9, [(4, 10), (1, 2), (4, 11), (4, 12), (4, 13), (4, 14), (4, 15), (4, 16), (4, 17), (4, 18), (4, 19), (4, 20), (4, 21), (4, 22), (4, 23), (4, 24), (0, 2), (0, 3), (0, 4), (0, 5), (0, 6), (0, 7), (0, 8), (4, 25), (0, 9), (4, 26), (0, 10), (0, 11), (0, 12), (0, 13), (1, 1), (0, 14), (0, 15), (0, 16), (0, 17), (5, 0), (5, 0), (0, 18), (4, 27), (4, 28), (0, 19), (0, 20)]), .inr (0, 21, 0), .inr (0, 22, 1)]
noncomputable def dT508 : List ckI := [(0, 0), (0, 30), (0, 1), (0, 1), ckTop, ckTop, ckTop, ckTop, ckTop, ckTop, ckTop, ckTop, ckTop, ckTop, ckTop, ckTop, ckTop, ckTop, (0, 1), ckTop, (0, 1), (30, 30), (318, 318)]
noncomputable def dG509 : List ckG := [([(30, ckTop)], [], []), ([(48, ckTop), (49, (0, 47)), (55, ckTop), (56, ckTop), (58, ckTop), (59, ckTop), (60, ckTop), (61, ckTop), (62, ckTop), (63, ckTop), (64, ckTop), (65, ckTop), (66, ckTop), (67, ckTop), (68, ckTop), (76, ckTop), (77, (0, 30)), (197, ckTop), (198, (0, 60)), (318, ckTop)], [], [])]
noncomputable def dP510 : List (Nat × ckC) := [(0, .inl (9, [(4, 10), (1, 2), (4, 11), (4, 12), (4, 13), (4, 14), (4, 15), (4, 16), (4, 17), (4, 18), (4, 19), (4, 20), (4, 21), (4, 22), (4, 23), (4, 24), (0, 2), (0, 3), (0, 4), (0, 5), (0, 6), (0, 7), (0, 8), (4, 25), (0, 9), (4, 26), (0, 10), (0, 11), (0, 12), (0, 13), (1, 1), (0, 14), (0, 24), (0, 0), (0, 1), (1, 1), (1, 2), (0, 25), (4, 27), (4, 28), (0, 19), (0, 20)]))]
-- FarMachineModel.goesThrough
noncomputable def k266 : ckCtr := (90, ([(0, (1, 0)), (1, (1, 1)), (2, (0, 0)), (3, (0, 1)), (4, (1, 2))], [], dC507, dT508, dG509, [], [], [(1, 1, 0, 0, [])], 0, 0), [([], [(0, 23)], dP510, [], [], [(0, 1), (0, 30), (0, 1)], [], [], [(23, 1, 0), (23, 24, 0), (25, 1, 0), (25, 24, 0)], [(1, 1, 0, 0, [])], 0, 0)], 37, 901, 0, 0)
noncomputable def k266_a : ckAs := []
noncomputable def k266_c : List (Nat × ckCtr) := [(32, k265)]
theorem k266_ok (l : Launch) : ckCtrOk l ckMT ckTW ckCL k266 := mt_90 (as := k266_a) (cs := k266_c) (gx := []) (f := 200000) rfl (ckHc (k265_ok l) (fun _ h => absurd h List.not_mem_nil)) True.intro (by decide +kernel)
noncomputable def dC511 : List ckC := [.inl (9, [(1, 1), (1, 2), (4, 10), (4, 11), (4, 12), (4, 13), (4, 14), (4, 15), (4, 16), (4, 17), (4, 18), (4, 19), (4, 20), (4, 21), (1, 3), (1, 4), (0, 0), (0, 1), (0, 2), (0, 3), (0, 4), (0, 5), (0, 6), (4, 22), (0, 7), (4, 23), (0, 8), (0, 9), (0, 10), (0, 11), (1, 5), (0, 12), (0, 13), (0, 14), (0, 15), (5, 0), (5, 0), (0, 16), (4, 24), (4, 25), (0, 17), (0, 18)]), .inr (0, 19, 0), .inr (0, 20, 1), .inr (0, 21, 2), .inr (0, 22, 3), .inr (0, 23, 4)]
noncomputable def dT512 : List ckI := [(0, 1), (0, 1), (0, 8), (0, 40), (0, 6), (0, 8), (0, 10), (0, 126000), ckTop, ckTop, ckTop, ckTop, (0, 30), ckTop, ckTop, ckTop, (0, 1), ckTop, (0, 1), (7, 7), (318, 318), (300, 300), (10, 10), (30, 30), (1, 99), (0, 126000), ckTop, ckTop, ckTop, ckTop, ckTop, ckTop, ckTop, ckTop]
noncomputable def dG513 : List ckG := [([(7, ckTop)], [], []), ([(48, ckTop), (49, (0, 47)), (50, ckTop), (51, ckTop), (52, ckTop), (54, ckTop), (55, ckTop), (56, ckTop), (57, ckTop), (58, ckTop), (59, ckTop), (60, ckTop), (61, ckTop), (62, ckTop), (63, ckTop), (64, ckTop), (65, ckTop), (66, ckTop), (67, ckTop), (68, ckTop), (76, ckTop), (77, (0, 30)), (197, ckTop), (198, (0, 60)), (318, ckTop)], [(55, 24), (58, 25), (60, 26), (61, 27), (62, 28), (63, 29), (64, 30), (65, 31), (66, 32), (67, 33)], []), ([(300, ckTop)], [], []), ([(10, (0, 30))], [], []), ([(30, ckTop)], [], [])]
noncomputable def dP514 : List (Nat × ckC) := [(0, .inl (9, [(1, 1), (1, 2), (4, 10), (4, 11), (4, 12), (4, 13), (4, 14), (4, 15), (4, 16), (4, 17), (4, 18), (4, 19), (4, 20), (4, 21), (1, 3), (1, 4), (0, 0), (0, 1), (0, 2), (0, 3), (0, 4), (0, 5), (0, 35), (4, 22), (0, 7), (4, 23), (0, 8), (0, 9), (0, 10), (0, 11), (1, 5), (0, 36), (0, 37), (0, 38), (0, 39), (5, 0), (5, 0), (0, 40), (4, 24), (4, 25), (0, 17), (0, 18)])), (1, .inr (0, 19, 5)), (3, .inr (0, 21, 6)), (4, .inr (0, 22, 7))]
noncomputable def dG515 : List ckG := [([(6, ckTop), (7, ckTop)], [], []), ([(300, ckTop)], [], []), ([(10, (0, 30))], [], [])]
noncomputable def dZ516 : List ckZ := [(6, 34, 59), (6, 35, 0), (34, 6, 0), (34, 12, 8), (34, 35, (-1)), (34, 40, 8), (35, 6, 1), (35, 34, 59), (36, 6, 20), (36, 12, 0), (36, 34, 50), (36, 35, 20)]
-- FarMachineModel.rule
noncomputable def k267 : ckCtr := (91, ([(0, (1, 0))], [], dC511, dT512, dG513, [], [], [(1, 1, 0, 0, [])], 0, 0), [([], [(0, 34)], dP514, [], [], [(-50, 9), (0, 10), (0, 30), ckTop, ckTop, ckTop, (0, 1)], dG515, [], dZ516, [(1, 1, 0, 0, [])], 0, 0)], 38, 925, 0, 0)
noncomputable def k267_a : ckAs := [(83, [(956464, [(1, 0, 0, ([(0, (1, 0)), (1, (0, 36)), (2, (0, 39)), (3, (0, 12)), (4, (0, 42))], [], [(3, .inr (0, 21, 5))], [], [], [(0, 30)], [([(300, ckTop)], [], [])], [], [(12, 37, 0), (37, 12, 0), (42, 12, 0), (42, 37, 0)], [(1, 1, 0, 0, [])], 0, 0))])])]
noncomputable def k267_c : List (Nat × ckCtr) := [(12, k23), (30, k266)]
theorem k267_ok (l : Launch) : ckCtrOk l ckMT ckTW ckCL k267 := mt_91 (as := k267_a) (cs := k267_c) (gx := []) (f := 200000) rfl (ckHc (k23_ok l) (ckHc (k266_ok l) (fun _ h => absurd h List.not_mem_nil))) True.intro (by decide +kernel)
noncomputable def dC517 : List ckC := [.inl (2, [(4, 10), (1, 2), (4, 11), (0, 0), (0, 1), (0, 2), (0, 3), (0, 4), (0, 5), (0, 6), (0, 7), (0, 8), (0, 9), (0, 10), (0, 11), (0, 12)]), .inr (0, 13, 0), .inr (0, 13, 1)]
noncomputable def dG518 : List ckG := [([(1, ckTop), (2, ckTop), (3, ckTop), (4, ckTop), (5, ckTop), (6, ckTop), (7, ckTop), (8, (0, 63))], [(0, 3), (1, 4), (2, 5), (3, 2), (4, 1), (5, 16), (6, 15), (7, 14)], [])]
-- FarMachine$Machine.readInto
noncomputable def k268 : ckCtr := (147, ([(0, (1, 0)), (1, (1, 1))], [], dC517, dT128, [([(8, ckTop)], [], []), ([(8, ckTop)], [], [])], [], [], [], 0, 0), [([], [], [(1, .inr (0, 13, 2))], [], [], [(0, 63), ckTop, ckTop], dG518, [], [], [], 0, 0)], 3, 126, 0, 0)
noncomputable def k268_a : ckAs := []
noncomputable def k268_c : List (Nat × ckCtr) := [(59, k70), (70, k82)]
theorem k268_ok (l : Launch) : ckCtrOk l ckMT ckTW ckCL k268 := mt_147 (as := k268_a) (cs := k268_c) (gx := []) (f := 200000) rfl (ckHc (k70_ok l) (ckHc (k82_ok l) (fun _ h => absurd h List.not_mem_nil))) True.intro (by decide +kernel)
-- FarMachine$Rules.sizeOf
noncomputable def k269 : ckCtr := (168, ([(0, (1, 0)), (1, (0, 0))], [], dC402, [ckTop, (0, 10), (10, 10)], [([(10, ckTop)], [], [])], [], [], [], 0, 0), [([], [(0, 3)], [], [], [(0, (0, 9))], [ckTop], [], [], [], [], 0, 0), ([], [(0, 3)], [], [], [], [(0, 0)], [], [], [], [], 0, 0)], 1, 80, 0, 0)
noncomputable def k269_a : ckAs := []
noncomputable def k269_c : List (Nat × ckCtr) := []
theorem k269_ok (l : Launch) : ckCtrOk l ckMT ckTW ckCL k269 := mt_168 (as := k269_a) (cs := k269_c) (gx := []) (f := 200000) rfl (fun _ h => absurd h List.not_mem_nil) True.intro (by decide +kernel)
-- FarMachine$Rules.valueOf
noncomputable def k270 : ckCtr := (175, ([(0, (0, 0)), (1, (1, 0))], [], [.inr (0, 1, 0)], [ckTop, (8, 8)], [([(8, ckTop)], [], [])], [], [], [], 0, 0), [([], [(0, 2)], [], [], [], [ckTop], [], [], [], [], 0, 0), ([], [(0, 0)], [], [], [], [], [], [], [], [], 0, 0)], 1, 80, 0, 0)
noncomputable def k270_a : ckAs := []
noncomputable def k270_c : List (Nat × ckCtr) := []
theorem k270_ok (l : Launch) : ckCtrOk l ckMT ckTW ckCL k270 := mt_175 (as := k270_a) (cs := k270_c) (gx := []) (f := 200000) rfl (fun _ h => absurd h List.not_mem_nil) True.intro (by decide +kernel)
noncomputable def dC519 : List ckC := [.inl (5, [(1, 2), (1, 3), (1, 4), (1, 5), (4, 10), (0, 1)]), .inr (0, 2, 0), .inr (0, 3, 1), .inr (0, 3, 2), .inr (0, 3, 3), .inr (0, 3, 4)]
noncomputable def dG520 : List ckG := [([(8, ckTop)], [], []), ([(70, ckTop)], [], []), ([(70, ckTop)], [], []), ([(70, ckTop)], [], []), ([(70, ckTop)], [], [])]
-- FarMachine$Rules.isTestTrue
noncomputable def k271 : ckCtr := (174, ([(0, (1, 0)), (1, (0, 0)), (2, (1, 1))], [], dC519, [ckTop, (0, 10), (8, 8), (70, 70)], dG520, [], [], [], 0, 0), [([], [(0, 4)], [], [], [], [(0, 0)], [], [], [], [], 0, 0), ([], [(0, 4)], [], [], [(0, (0, 69))], [(1, 1)], [], [], [], [], 0, 0)], 2, 102, 0, 0)
noncomputable def k271_a : ckAs := []
noncomputable def k271_c : List (Nat × ckCtr) := [(22, k270), (33, k270)]
theorem k271_ok (l : Launch) : ckCtrOk l ckMT ckTW ckCL k271 := mt_174 (as := k271_a) (cs := k271_c) (gx := []) (f := 200000) rfl (ckHc (k270_ok l) (ckHc (k270_ok l) (fun _ h => absurd h List.not_mem_nil))) True.intro (by decide +kernel)
noncomputable def dC521 : List ckC := [.inl (5, [(1, 2), (1, 3), (1, 4), (1, 5), (1, 6), (0, 1)]), .inr (0, 2, 0), .inr (0, 3, 1), .inr (0, 3, 2), .inr (0, 3, 3), .inr (0, 3, 4), .inr (0, 4, 5)]
noncomputable def dG522 : List ckG := [([(8, ckTop)], [], []), ([(70, ckTop)], [], []), ([(70, ckTop)], [], []), ([(70, ckTop)], [], []), ([(70, ckTop)], [], []), ([(10, ckTop)], [], [])]
-- FarMachine$Rules.isTrue
noncomputable def k272 : ckCtr := (172, ([(0, (1, 0)), (1, (0, 0)), (2, (1, 1))], [], dC521, [ckTop, (0, 10), (8, 8), (70, 70), (10, 10)], dG522, [], [], [], 0, 0), [([], [(0, 5)], [], [], [], [(1, 1)], [], [], [], [], 0, 0), ([], [(0, 5)], [], [], [(0, (0, 9))], [(0, 0)], [], [], [], [], 0, 0)], 3, 127, 0, 0)
noncomputable def k272_a : ckAs := [(9, [(97688, [(1, 0, 0, ([(0, (1, 0)), (1, (0, 0)), (2, (1, 1)), (3, (0, 5)), (4, (0, 7))], [], [], [], [], [(0, 2147483647)], [], [], [], [], 0, 0))])])]
noncomputable def k272_c : List (Nat × ckCtr) := [(2, k269), (24, k271)]
theorem k272_ok (l : Launch) : ckCtrOk l ckMT ckTW ckCL k272 := mt_172 (as := k272_a) (cs := k272_c) (gx := []) (f := 200000) rfl (ckHc (k269_ok l) (ckHc (k271_ok l) (fun _ h => absurd h List.not_mem_nil))) True.intro (by decide +kernel)
