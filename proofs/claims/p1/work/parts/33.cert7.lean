/-! THE CHECKER: contracts with their certificates (printed by wip/gen/p1gen.py) -/
-- FarMachineModel.isIn
noncomputable def k483 : ckCtr := (45, ([(0, (0, 0)), (1, (0, 1))], [], [], [(47, 47), (48, 48)], [], [], [], [], 0, 0), [([], [(0, 2)], [], [], [], [(1, 1)], [], [], [], [], 0, 0)], 1, 80, 0, 0)
noncomputable def k483_a : ckAs := []
noncomputable def k483_c : List (Nat × ckCtr) := []
theorem k483_ok (l : Launch) : ckCtrOk l ckMT ckTW ckCL k483 := mt_45 (as := k483_a) (cs := k483_c) (gx := []) (f := 200000) rfl (fun _ h => absurd h List.not_mem_nil) True.intro (by decide +kernel)
noncomputable def dC362 : List ckC := [.inl (9, [(4, 10), (4, 11), (4, 12), (4, 13), (4, 14), (4, 15), (4, 16), (4, 17), (4, 18), (4, 19), (4, 20), (4, 21), (1, 1), (1, 2), (4, 22), (4, 23), (0, 2), (0, 2), (0, 2), (0, 2), (0, 2), (0, 2), (0, 2), (4, 24), (0, 2), (4, 25), (0, 2), (0, 2), (0, 2), (0, 2), (4, 26), (0, 2), (0, 2), (0, 2), (0, 2), (4, 26), (4, 11), (0, 2), (4, 27), (4, 28), (0, 2), (0, 2)]), .inr (0, 3, 0), .inr (0, 3, 1)]
noncomputable def dP363 : List (Nat × ckC) := [(0, .inl (9, [(4, 10), (4, 11), (4, 12), (4, 13), (4, 14), (4, 15), (4, 16), (4, 17), (4, 18), (4, 19), (4, 20), (4, 21), (1, 1), (1, 2), (4, 22), (4, 23), (0, 2), (0, 2), (0, 2), (0, 2), (0, 2), (0, 1), (0, 2), (4, 24), (0, 2), (4, 25), (0, 2), (0, 2), (0, 2), (0, 2), (4, 26), (0, 2), (0, 2), (0, 2), (0, 2), (4, 26), (4, 11), (0, 2), (4, 27), (4, 28), (0, 2), (0, 2)])), (1, .inr (0, 3, 2)), (2, .inr (0, 3, 3))]
noncomputable def dG364 : List ckG := [([(1, (47, 47)), (8, (0, 0))], [(0, 0)], []), ([(1, (1, 1)), (8, (0, 0))], [(0, 1)], [])]
-- FarMachineModel.hole
noncomputable def k484 : ckCtr := (103, ([(0, (1, 0)), (1, (0, 0)), (2, (0, 1))], [], dC362, [(47, 47), (1, 1), (0, 0), (8, 8)], [([(8, (0, 0))], [], []), ([(8, (0, 0))], [], [])], [], [], [], 0, 0), [([], [(0, 1)], dP363, [], [], [], dG364, [], [], [], 0, 0)], 2, 101, 0, 0)
noncomputable def k484_a : ckAs := []
noncomputable def k484_c : List (Nat × ckCtr) := [(3, k483)]
theorem k484_ok (l : Launch) : ckCtrOk l ckMT ckTW ckCL k484 := mt_103 (as := k484_a) (cs := k484_c) (gx := []) (f := 200000) rfl (ckHc (k483_ok l) (fun _ h => absurd h List.not_mem_nil)) True.intro (by decide +kernel)
-- FarMachineModel.isIn
noncomputable def k485 : ckCtr := (45, ([(0, (0, 0)), (1, (0, 1))], [], [], [(46, 46), (48, 48)], [], [], [], [], 0, 0), [([], [(0, 2)], [], [], [], [(1, 1)], [], [], [], [], 0, 0)], 1, 80, 0, 0)
noncomputable def k485_a : ckAs := []
noncomputable def k485_c : List (Nat × ckCtr) := []
theorem k485_ok (l : Launch) : ckCtrOk l ckMT ckTW ckCL k485 := mt_45 (as := k485_a) (cs := k485_c) (gx := []) (f := 200000) rfl (fun _ h => absurd h List.not_mem_nil) True.intro (by decide +kernel)
noncomputable def dP365 : List (Nat × ckC) := [(0, .inl (9, [(4, 10), (4, 11), (4, 12), (4, 13), (4, 14), (4, 15), (4, 16), (4, 17), (4, 18), (4, 19), (4, 20), (4, 21), (1, 1), (1, 2), (4, 22), (4, 23), (0, 2), (0, 2), (0, 2), (0, 2), (0, 2), (0, 4), (0, 2), (4, 24), (0, 2), (4, 25), (0, 2), (0, 2), (0, 2), (0, 2), (4, 26), (0, 2), (0, 2), (0, 2), (0, 2), (4, 26), (4, 11), (0, 2), (4, 27), (4, 28), (0, 2), (0, 2)])), (1, .inr (0, 3, 2)), (2, .inr (0, 3, 3))]
noncomputable def dG366 : List ckG := [([(1, (46, 46)), (8, (0, 0))], [(0, 0)], []), ([(1, (1, 2)), (8, (0, 0))], [(0, 1)], [])]
-- FarMachineModel.hole
noncomputable def k486 : ckCtr := (103, ([(0, (1, 0)), (1, (0, 0)), (2, (0, 1))], [], dC362, [(46, 46), (1, 2), (0, 0), (8, 8)], [([(8, (0, 0))], [], []), ([(8, (0, 0))], [], [])], [], [], [], 0, 0), [([], [(0, 4)], dP365, [], [], [(1, 1)], dG366, [], [], [], 0, 0)], 2, 101, 0, 0)
noncomputable def k486_a : ckAs := []
noncomputable def k486_c : List (Nat × ckCtr) := [(3, k485)]
theorem k486_ok (l : Launch) : ckCtrOk l ckMT ckTW ckCL k486 := mt_103 (as := k486_a) (cs := k486_c) (gx := []) (f := 200000) rfl (ckHc (k485_ok l) (fun _ h => absurd h List.not_mem_nil)) True.intro (by decide +kernel)
-- FarMachineModel.isIn
noncomputable def k487 : ckCtr := (45, ([(0, (0, 0)), (1, (0, 1))], [], [], [(45, 45), (48, 48)], [], [], [], [], 0, 0), [([], [(0, 2)], [], [], [], [(1, 1)], [], [], [], [], 0, 0)], 1, 80, 0, 0)
noncomputable def k487_a : ckAs := []
noncomputable def k487_c : List (Nat × ckCtr) := []
theorem k487_ok (l : Launch) : ckCtrOk l ckMT ckTW ckCL k487 := mt_45 (as := k487_a) (cs := k487_c) (gx := []) (f := 200000) rfl (fun _ h => absurd h List.not_mem_nil) True.intro (by decide +kernel)
noncomputable def dG367 : List ckG := [([(1, (45, 45)), (8, (0, 0))], [(0, 0)], []), ([(1, (1, 3)), (8, (0, 0))], [(0, 1)], [])]
-- FarMachineModel.hole
noncomputable def k488 : ckCtr := (103, ([(0, (1, 0)), (1, (0, 0)), (2, (0, 1))], [], dC362, [(45, 45), (1, 3), (0, 0), (8, 8)], [([(8, (0, 0))], [], []), ([(8, (0, 0))], [], [])], [], [], [], 0, 0), [([], [(0, 4)], dP365, [], [], [(1, 1)], dG367, [], [], [], 0, 0)], 2, 101, 0, 0)
noncomputable def k488_a : ckAs := []
noncomputable def k488_c : List (Nat × ckCtr) := [(3, k487)]
theorem k488_ok (l : Launch) : ckCtrOk l ckMT ckTW ckCL k488 := mt_103 (as := k488_a) (cs := k488_c) (gx := []) (f := 200000) rfl (ckHc (k487_ok l) (fun _ h => absurd h List.not_mem_nil)) True.intro (by decide +kernel)
-- FarMachineModel.isIn
noncomputable def k489 : ckCtr := (45, ([(0, (0, 0)), (1, (0, 1))], [], [], [(44, 44), (48, 48)], [], [], [], [], 0, 0), [([], [(0, 2)], [], [], [], [(1, 1)], [], [], [], [], 0, 0)], 1, 80, 0, 0)
noncomputable def k489_a : ckAs := []
noncomputable def k489_c : List (Nat × ckCtr) := []
theorem k489_ok (l : Launch) : ckCtrOk l ckMT ckTW ckCL k489 := mt_45 (as := k489_a) (cs := k489_c) (gx := []) (f := 200000) rfl (fun _ h => absurd h List.not_mem_nil) True.intro (by decide +kernel)
noncomputable def dG368 : List ckG := [([(1, (44, 44)), (8, (0, 0))], [(0, 0)], []), ([(1, (1, 4)), (8, (0, 0))], [(0, 1)], [])]
-- FarMachineModel.hole
noncomputable def k490 : ckCtr := (103, ([(0, (1, 0)), (1, (0, 0)), (2, (0, 1))], [], dC362, [(44, 44), (1, 4), (0, 0), (8, 8)], [([(8, (0, 0))], [], []), ([(8, (0, 0))], [], [])], [], [], [], 0, 0), [([], [(0, 4)], dP365, [], [], [(1, 1)], dG368, [], [], [], 0, 0)], 2, 101, 0, 0)
noncomputable def k490_a : ckAs := []
noncomputable def k490_c : List (Nat × ckCtr) := [(3, k489)]
theorem k490_ok (l : Launch) : ckCtrOk l ckMT ckTW ckCL k490 := mt_103 (as := k490_a) (cs := k490_c) (gx := []) (f := 200000) rfl (ckHc (k489_ok l) (fun _ h => absurd h List.not_mem_nil)) True.intro (by decide +kernel)
-- FarMachineModel.isIn
noncomputable def k491 : ckCtr := (45, ([(0, (0, 0)), (1, (0, 1))], [], [], [(43, 43), (48, 48)], [], [], [], [], 0, 0), [([], [(0, 2)], [], [], [], [(1, 1)], [], [], [], [], 0, 0)], 1, 80, 0, 0)
noncomputable def k491_a : ckAs := []
noncomputable def k491_c : List (Nat × ckCtr) := []
theorem k491_ok (l : Launch) : ckCtrOk l ckMT ckTW ckCL k491 := mt_45 (as := k491_a) (cs := k491_c) (gx := []) (f := 200000) rfl (fun _ h => absurd h List.not_mem_nil) True.intro (by decide +kernel)
noncomputable def dG369 : List ckG := [([(1, (43, 43)), (8, (0, 0))], [(0, 0)], []), ([(1, (1, 5)), (8, (0, 0))], [(0, 1)], [])]
-- FarMachineModel.hole
noncomputable def k492 : ckCtr := (103, ([(0, (1, 0)), (1, (0, 0)), (2, (0, 1))], [], dC362, [(43, 43), (1, 5), (0, 0), (8, 8)], [([(8, (0, 0))], [], []), ([(8, (0, 0))], [], [])], [], [], [], 0, 0), [([], [(0, 4)], dP365, [], [], [(1, 1)], dG369, [], [], [], 0, 0)], 2, 101, 0, 0)
noncomputable def k492_a : ckAs := []
noncomputable def k492_c : List (Nat × ckCtr) := [(3, k491)]
theorem k492_ok (l : Launch) : ckCtrOk l ckMT ckTW ckCL k492 := mt_103 (as := k492_a) (cs := k492_c) (gx := []) (f := 200000) rfl (ckHc (k491_ok l) (fun _ h => absurd h List.not_mem_nil)) True.intro (by decide +kernel)
-- FarMachineModel.isIn
noncomputable def k493 : ckCtr := (45, ([(0, (0, 0)), (1, (0, 1))], [], [], [(42, 42), (48, 48)], [], [], [], [], 0, 0), [([], [(0, 2)], [], [], [], [(1, 1)], [], [], [], [], 0, 0)], 1, 80, 0, 0)
noncomputable def k493_a : ckAs := []
noncomputable def k493_c : List (Nat × ckCtr) := []
theorem k493_ok (l : Launch) : ckCtrOk l ckMT ckTW ckCL k493 := mt_45 (as := k493_a) (cs := k493_c) (gx := []) (f := 200000) rfl (fun _ h => absurd h List.not_mem_nil) True.intro (by decide +kernel)
noncomputable def dG370 : List ckG := [([(1, (42, 42)), (8, (0, 0))], [(0, 0)], []), ([(1, (1, 6)), (8, (0, 0))], [(0, 1)], [])]
-- FarMachineModel.hole
noncomputable def k494 : ckCtr := (103, ([(0, (1, 0)), (1, (0, 0)), (2, (0, 1))], [], dC362, [(42, 42), (1, 6), (0, 0), (8, 8)], [([(8, (0, 0))], [], []), ([(8, (0, 0))], [], [])], [], [], [], 0, 0), [([], [(0, 4)], dP365, [], [], [(1, 1)], dG370, [], [], [], 0, 0)], 2, 101, 0, 0)
noncomputable def k494_a : ckAs := []
noncomputable def k494_c : List (Nat × ckCtr) := [(3, k493)]
theorem k494_ok (l : Launch) : ckCtrOk l ckMT ckTW ckCL k494 := mt_103 (as := k494_a) (cs := k494_c) (gx := []) (f := 200000) rfl (ckHc (k493_ok l) (fun _ h => absurd h List.not_mem_nil)) True.intro (by decide +kernel)
-- FarMachineModel.isIn
noncomputable def k495 : ckCtr := (45, ([(0, (0, 0)), (1, (0, 1))], [], [], [(41, 41), (48, 48)], [], [], [], [], 0, 0), [([], [(0, 2)], [], [], [], [(1, 1)], [], [], [], [], 0, 0)], 1, 80, 0, 0)
noncomputable def k495_a : ckAs := []
noncomputable def k495_c : List (Nat × ckCtr) := []
theorem k495_ok (l : Launch) : ckCtrOk l ckMT ckTW ckCL k495 := mt_45 (as := k495_a) (cs := k495_c) (gx := []) (f := 200000) rfl (fun _ h => absurd h List.not_mem_nil) True.intro (by decide +kernel)
noncomputable def dG371 : List ckG := [([(1, (41, 41)), (8, (0, 0))], [(0, 0)], []), ([(1, (1, 7)), (8, (0, 0))], [(0, 1)], [])]
-- FarMachineModel.hole
noncomputable def k496 : ckCtr := (103, ([(0, (1, 0)), (1, (0, 0)), (2, (0, 1))], [], dC362, [(41, 41), (1, 7), (0, 0), (8, 8)], [([(8, (0, 0))], [], []), ([(8, (0, 0))], [], [])], [], [], [], 0, 0), [([], [(0, 4)], dP365, [], [], [(1, 1)], dG371, [], [], [], 0, 0)], 2, 101, 0, 0)
noncomputable def k496_a : ckAs := []
noncomputable def k496_c : List (Nat × ckCtr) := [(3, k495)]
theorem k496_ok (l : Launch) : ckCtrOk l ckMT ckTW ckCL k496 := mt_103 (as := k496_a) (cs := k496_c) (gx := []) (f := 200000) rfl (ckHc (k495_ok l) (fun _ h => absurd h List.not_mem_nil)) True.intro (by decide +kernel)
-- FarMachineModel.isIn
noncomputable def k497 : ckCtr := (45, ([(0, (0, 0)), (1, (0, 1))], [], [], [(40, 40), (48, 48)], [], [], [], [], 0, 0), [([], [(0, 2)], [], [], [], [(1, 1)], [], [], [], [], 0, 0)], 1, 80, 0, 0)
noncomputable def k497_a : ckAs := []
noncomputable def k497_c : List (Nat × ckCtr) := []
theorem k497_ok (l : Launch) : ckCtrOk l ckMT ckTW ckCL k497 := mt_45 (as := k497_a) (cs := k497_c) (gx := []) (f := 200000) rfl (fun _ h => absurd h List.not_mem_nil) True.intro (by decide +kernel)
noncomputable def dG372 : List ckG := [([(1, (40, 40)), (8, (0, 0))], [(0, 0)], []), ([(1, (1, 8)), (8, (0, 0))], [(0, 1)], [])]
-- FarMachineModel.hole
noncomputable def k498 : ckCtr := (103, ([(0, (1, 0)), (1, (0, 0)), (2, (0, 1))], [], dC362, [(40, 40), (1, 8), (0, 0), (8, 8)], [([(8, (0, 0))], [], []), ([(8, (0, 0))], [], [])], [], [], [], 0, 0), [([], [(0, 4)], dP365, [], [], [(1, 1)], dG372, [], [], [], 0, 0)], 2, 101, 0, 0)
noncomputable def k498_a : ckAs := []
noncomputable def k498_c : List (Nat × ckCtr) := [(3, k497)]
theorem k498_ok (l : Launch) : ckCtrOk l ckMT ckTW ckCL k498 := mt_103 (as := k498_a) (cs := k498_c) (gx := []) (f := 200000) rfl (ckHc (k497_ok l) (fun _ h => absurd h List.not_mem_nil)) True.intro (by decide +kernel)
-- FarMachineModel.isIn
noncomputable def k499 : ckCtr := (45, ([(0, (0, 0)), (1, (0, 1))], [], [], [(39, 39), (48, 48)], [], [], [], [], 0, 0), [([], [(0, 2)], [], [], [], [(1, 1)], [], [], [], [], 0, 0)], 1, 80, 0, 0)
noncomputable def k499_a : ckAs := []
noncomputable def k499_c : List (Nat × ckCtr) := []
theorem k499_ok (l : Launch) : ckCtrOk l ckMT ckTW ckCL k499 := mt_45 (as := k499_a) (cs := k499_c) (gx := []) (f := 200000) rfl (fun _ h => absurd h List.not_mem_nil) True.intro (by decide +kernel)
noncomputable def dG373 : List ckG := [([(1, (39, 39)), (8, (0, 0))], [(0, 0)], []), ([(1, (1, 9)), (8, (0, 0))], [(0, 1)], [])]
-- FarMachineModel.hole
noncomputable def k500 : ckCtr := (103, ([(0, (1, 0)), (1, (0, 0)), (2, (0, 1))], [], dC362, [(39, 39), (1, 9), (0, 0), (8, 8)], [([(8, (0, 0))], [], []), ([(8, (0, 0))], [], [])], [], [], [], 0, 0), [([], [(0, 4)], dP365, [], [], [(1, 1)], dG373, [], [], [], 0, 0)], 2, 101, 0, 0)
noncomputable def k500_a : ckAs := []
noncomputable def k500_c : List (Nat × ckCtr) := [(3, k499)]
theorem k500_ok (l : Launch) : ckCtrOk l ckMT ckTW ckCL k500 := mt_103 (as := k500_a) (cs := k500_c) (gx := []) (f := 200000) rfl (ckHc (k499_ok l) (fun _ h => absurd h List.not_mem_nil)) True.intro (by decide +kernel)
-- FarMachineModel.isIn
noncomputable def k501 : ckCtr := (45, ([(0, (0, 0)), (1, (0, 1))], [], [], [(38, 38), (48, 48)], [], [], [], [], 0, 0), [([], [(0, 2)], [], [], [], [(1, 1)], [], [], [], [], 0, 0)], 1, 80, 0, 0)
noncomputable def k501_a : ckAs := []
noncomputable def k501_c : List (Nat × ckCtr) := []
theorem k501_ok (l : Launch) : ckCtrOk l ckMT ckTW ckCL k501 := mt_45 (as := k501_a) (cs := k501_c) (gx := []) (f := 200000) rfl (fun _ h => absurd h List.not_mem_nil) True.intro (by decide +kernel)
noncomputable def dG374 : List ckG := [([(1, (38, 38)), (8, (0, 0))], [(0, 0)], []), ([(1, (1, 10)), (8, (0, 0))], [(0, 1)], [])]
-- FarMachineModel.hole
noncomputable def k502 : ckCtr := (103, ([(0, (1, 0)), (1, (0, 0)), (2, (0, 1))], [], dC362, [(38, 38), (1, 10), (0, 0), (8, 8)], [([(8, (0, 0))], [], []), ([(8, (0, 0))], [], [])], [], [], [], 0, 0), [([], [(0, 4)], dP365, [], [], [(1, 1)], dG374, [], [], [], 0, 0)], 2, 101, 0, 0)
noncomputable def k502_a : ckAs := []
noncomputable def k502_c : List (Nat × ckCtr) := [(3, k501)]
theorem k502_ok (l : Launch) : ckCtrOk l ckMT ckTW ckCL k502 := mt_103 (as := k502_a) (cs := k502_c) (gx := []) (f := 200000) rfl (ckHc (k501_ok l) (fun _ h => absurd h List.not_mem_nil)) True.intro (by decide +kernel)
-- FarMachineModel.isIn
noncomputable def k503 : ckCtr := (45, ([(0, (0, 0)), (1, (0, 1))], [], [], [(37, 37), (48, 48)], [], [], [], [], 0, 0), [([], [(0, 2)], [], [], [], [(1, 1)], [], [], [], [], 0, 0)], 1, 80, 0, 0)
noncomputable def k503_a : ckAs := []
noncomputable def k503_c : List (Nat × ckCtr) := []
theorem k503_ok (l : Launch) : ckCtrOk l ckMT ckTW ckCL k503 := mt_45 (as := k503_a) (cs := k503_c) (gx := []) (f := 200000) rfl (fun _ h => absurd h List.not_mem_nil) True.intro (by decide +kernel)
noncomputable def dG375 : List ckG := [([(1, (37, 37)), (8, (0, 0))], [(0, 0)], []), ([(1, (1, 11)), (8, (0, 0))], [(0, 1)], [])]
-- FarMachineModel.hole
noncomputable def k504 : ckCtr := (103, ([(0, (1, 0)), (1, (0, 0)), (2, (0, 1))], [], dC362, [(37, 37), (1, 11), (0, 0), (8, 8)], [([(8, (0, 0))], [], []), ([(8, (0, 0))], [], [])], [], [], [], 0, 0), [([], [(0, 4)], dP365, [], [], [(1, 1)], dG375, [], [], [], 0, 0)], 2, 101, 0, 0)
noncomputable def k504_a : ckAs := []
noncomputable def k504_c : List (Nat × ckCtr) := [(3, k503)]
theorem k504_ok (l : Launch) : ckCtrOk l ckMT ckTW ckCL k504 := mt_103 (as := k504_a) (cs := k504_c) (gx := []) (f := 200000) rfl (ckHc (k503_ok l) (fun _ h => absurd h List.not_mem_nil)) True.intro (by decide +kernel)
-- FarMachineModel.isIn
noncomputable def k505 : ckCtr := (45, ([(0, (0, 0)), (1, (0, 1))], [], [], [(36, 36), (48, 48)], [], [], [], [], 0, 0), [([], [(0, 2)], [], [], [], [(1, 1)], [], [], [], [], 0, 0)], 1, 80, 0, 0)
noncomputable def k505_a : ckAs := []
noncomputable def k505_c : List (Nat × ckCtr) := []
theorem k505_ok (l : Launch) : ckCtrOk l ckMT ckTW ckCL k505 := mt_45 (as := k505_a) (cs := k505_c) (gx := []) (f := 200000) rfl (fun _ h => absurd h List.not_mem_nil) True.intro (by decide +kernel)
noncomputable def dG376 : List ckG := [([(1, (36, 36)), (8, (0, 0))], [(0, 0)], []), ([(1, (1, 12)), (8, (0, 0))], [(0, 1)], [])]
-- FarMachineModel.hole
noncomputable def k506 : ckCtr := (103, ([(0, (1, 0)), (1, (0, 0)), (2, (0, 1))], [], dC362, [(36, 36), (1, 12), (0, 0), (8, 8)], [([(8, (0, 0))], [], []), ([(8, (0, 0))], [], [])], [], [], [], 0, 0), [([], [(0, 4)], dP365, [], [], [(1, 1)], dG376, [], [], [], 0, 0)], 2, 101, 0, 0)
noncomputable def k506_a : ckAs := []
noncomputable def k506_c : List (Nat × ckCtr) := [(3, k505)]
theorem k506_ok (l : Launch) : ckCtrOk l ckMT ckTW ckCL k506 := mt_103 (as := k506_a) (cs := k506_c) (gx := []) (f := 200000) rfl (ckHc (k505_ok l) (fun _ h => absurd h List.not_mem_nil)) True.intro (by decide +kernel)
-- FarMachineModel.isIn
noncomputable def k507 : ckCtr := (45, ([(0, (0, 0)), (1, (0, 1))], [], [], [(35, 35), (48, 48)], [], [], [], [], 0, 0), [([], [(0, 2)], [], [], [], [(1, 1)], [], [], [], [], 0, 0)], 1, 80, 0, 0)
noncomputable def k507_a : ckAs := []
noncomputable def k507_c : List (Nat × ckCtr) := []
theorem k507_ok (l : Launch) : ckCtrOk l ckMT ckTW ckCL k507 := mt_45 (as := k507_a) (cs := k507_c) (gx := []) (f := 200000) rfl (fun _ h => absurd h List.not_mem_nil) True.intro (by decide +kernel)
noncomputable def dG377 : List ckG := [([(1, (35, 35)), (8, (0, 0))], [(0, 0)], []), ([(1, (1, 13)), (8, (0, 0))], [(0, 1)], [])]
-- FarMachineModel.hole
noncomputable def k508 : ckCtr := (103, ([(0, (1, 0)), (1, (0, 0)), (2, (0, 1))], [], dC362, [(35, 35), (1, 13), (0, 0), (8, 8)], [([(8, (0, 0))], [], []), ([(8, (0, 0))], [], [])], [], [], [], 0, 0), [([], [(0, 4)], dP365, [], [], [(1, 1)], dG377, [], [], [], 0, 0)], 2, 101, 0, 0)
noncomputable def k508_a : ckAs := []
noncomputable def k508_c : List (Nat × ckCtr) := [(3, k507)]
theorem k508_ok (l : Launch) : ckCtrOk l ckMT ckTW ckCL k508 := mt_103 (as := k508_a) (cs := k508_c) (gx := []) (f := 200000) rfl (ckHc (k507_ok l) (fun _ h => absurd h List.not_mem_nil)) True.intro (by decide +kernel)
-- FarMachineModel.isIn
noncomputable def k509 : ckCtr := (45, ([(0, (0, 0)), (1, (0, 1))], [], [], [(34, 34), (48, 48)], [], [], [], [], 0, 0), [([], [(0, 2)], [], [], [], [(1, 1)], [], [], [], [], 0, 0)], 1, 80, 0, 0)
noncomputable def k509_a : ckAs := []
noncomputable def k509_c : List (Nat × ckCtr) := []
theorem k509_ok (l : Launch) : ckCtrOk l ckMT ckTW ckCL k509 := mt_45 (as := k509_a) (cs := k509_c) (gx := []) (f := 200000) rfl (fun _ h => absurd h List.not_mem_nil) True.intro (by decide +kernel)
noncomputable def dG378 : List ckG := [([(1, (34, 34)), (8, (0, 0))], [(0, 0)], []), ([(1, (1, 14)), (8, (0, 0))], [(0, 1)], [])]
-- FarMachineModel.hole
noncomputable def k510 : ckCtr := (103, ([(0, (1, 0)), (1, (0, 0)), (2, (0, 1))], [], dC362, [(34, 34), (1, 14), (0, 0), (8, 8)], [([(8, (0, 0))], [], []), ([(8, (0, 0))], [], [])], [], [], [], 0, 0), [([], [(0, 4)], dP365, [], [], [(1, 1)], dG378, [], [], [], 0, 0)], 2, 101, 0, 0)
noncomputable def k510_a : ckAs := []
noncomputable def k510_c : List (Nat × ckCtr) := [(3, k509)]
theorem k510_ok (l : Launch) : ckCtrOk l ckMT ckTW ckCL k510 := mt_103 (as := k510_a) (cs := k510_c) (gx := []) (f := 200000) rfl (ckHc (k509_ok l) (fun _ h => absurd h List.not_mem_nil)) True.intro (by decide +kernel)
-- FarMachineModel.isIn
noncomputable def k511 : ckCtr := (45, ([(0, (0, 0)), (1, (0, 1))], [], [], [(33, 33), (48, 48)], [], [], [], [], 0, 0), [([], [(0, 2)], [], [], [], [(1, 1)], [], [], [], [], 0, 0)], 1, 80, 0, 0)
noncomputable def k511_a : ckAs := []
noncomputable def k511_c : List (Nat × ckCtr) := []
theorem k511_ok (l : Launch) : ckCtrOk l ckMT ckTW ckCL k511 := mt_45 (as := k511_a) (cs := k511_c) (gx := []) (f := 200000) rfl (fun _ h => absurd h List.not_mem_nil) True.intro (by decide +kernel)
noncomputable def dG379 : List ckG := [([(1, (33, 33)), (8, (0, 0))], [(0, 0)], []), ([(1, (1, 15)), (8, (0, 0))], [(0, 1)], [])]
-- FarMachineModel.hole
noncomputable def k512 : ckCtr := (103, ([(0, (1, 0)), (1, (0, 0)), (2, (0, 1))], [], dC362, [(33, 33), (1, 15), (0, 0), (8, 8)], [([(8, (0, 0))], [], []), ([(8, (0, 0))], [], [])], [], [], [], 0, 0), [([], [(0, 4)], dP365, [], [], [(1, 1)], dG379, [], [], [], 0, 0)], 2, 101, 0, 0)
noncomputable def k512_a : ckAs := []
noncomputable def k512_c : List (Nat × ckCtr) := [(3, k511)]
theorem k512_ok (l : Launch) : ckCtrOk l ckMT ckTW ckCL k512 := mt_103 (as := k512_a) (cs := k512_c) (gx := []) (f := 200000) rfl (ckHc (k511_ok l) (fun _ h => absurd h List.not_mem_nil)) True.intro (by decide +kernel)
-- FarMachineModel.isIn
noncomputable def k513 : ckCtr := (45, ([(0, (0, 0)), (1, (0, 1))], [], [], [(32, 32), (48, 48)], [], [], [], [], 0, 0), [([], [(0, 2)], [], [], [], [(1, 1)], [], [], [], [], 0, 0)], 1, 80, 0, 0)
noncomputable def k513_a : ckAs := []
noncomputable def k513_c : List (Nat × ckCtr) := []
theorem k513_ok (l : Launch) : ckCtrOk l ckMT ckTW ckCL k513 := mt_45 (as := k513_a) (cs := k513_c) (gx := []) (f := 200000) rfl (fun _ h => absurd h List.not_mem_nil) True.intro (by decide +kernel)
noncomputable def dG380 : List ckG := [([(1, (32, 32)), (8, (0, 0))], [(0, 0)], []), ([(1, (1, 16)), (8, (0, 0))], [(0, 1)], [])]
-- FarMachineModel.hole
noncomputable def k514 : ckCtr := (103, ([(0, (1, 0)), (1, (0, 0)), (2, (0, 1))], [], dC362, [(32, 32), (1, 16), (0, 0), (8, 8)], [([(8, (0, 0))], [], []), ([(8, (0, 0))], [], [])], [], [], [], 0, 0), [([], [(0, 4)], dP365, [], [], [(1, 1)], dG380, [], [], [], 0, 0)], 2, 101, 0, 0)
noncomputable def k514_a : ckAs := []
noncomputable def k514_c : List (Nat × ckCtr) := [(3, k513)]
theorem k514_ok (l : Launch) : ckCtrOk l ckMT ckTW ckCL k514 := mt_103 (as := k514_a) (cs := k514_c) (gx := []) (f := 200000) rfl (ckHc (k513_ok l) (fun _ h => absurd h List.not_mem_nil)) True.intro (by decide +kernel)
-- FarMachineModel.isIn
noncomputable def k515 : ckCtr := (45, ([(0, (0, 0)), (1, (0, 1))], [], [], [(31, 31), (48, 48)], [], [], [], [], 0, 0), [([], [(0, 2)], [], [], [], [(1, 1)], [], [], [], [], 0, 0)], 1, 80, 0, 0)
noncomputable def k515_a : ckAs := []
noncomputable def k515_c : List (Nat × ckCtr) := []
theorem k515_ok (l : Launch) : ckCtrOk l ckMT ckTW ckCL k515 := mt_45 (as := k515_a) (cs := k515_c) (gx := []) (f := 200000) rfl (fun _ h => absurd h List.not_mem_nil) True.intro (by decide +kernel)
noncomputable def dG381 : List ckG := [([(1, (31, 31)), (8, (0, 0))], [(0, 0)], []), ([(1, (1, 17)), (8, (0, 0))], [(0, 1)], [])]
-- FarMachineModel.hole
noncomputable def k516 : ckCtr := (103, ([(0, (1, 0)), (1, (0, 0)), (2, (0, 1))], [], dC362, [(31, 31), (1, 17), (0, 0), (8, 8)], [([(8, (0, 0))], [], []), ([(8, (0, 0))], [], [])], [], [], [], 0, 0), [([], [(0, 4)], dP365, [], [], [(1, 1)], dG381, [], [], [], 0, 0)], 2, 101, 0, 0)
noncomputable def k516_a : ckAs := []
noncomputable def k516_c : List (Nat × ckCtr) := [(3, k515)]
theorem k516_ok (l : Launch) : ckCtrOk l ckMT ckTW ckCL k516 := mt_103 (as := k516_a) (cs := k516_c) (gx := []) (f := 200000) rfl (ckHc (k515_ok l) (fun _ h => absurd h List.not_mem_nil)) True.intro (by decide +kernel)
-- FarMachineModel.isIn
noncomputable def k517 : ckCtr := (45, ([(0, (0, 0)), (1, (0, 1))], [], [], [(30, 30), (48, 48)], [], [], [], [], 0, 0), [([], [(0, 2)], [], [], [], [(1, 1)], [], [], [], [], 0, 0)], 1, 80, 0, 0)
noncomputable def k517_a : ckAs := []
noncomputable def k517_c : List (Nat × ckCtr) := []
theorem k517_ok (l : Launch) : ckCtrOk l ckMT ckTW ckCL k517 := mt_45 (as := k517_a) (cs := k517_c) (gx := []) (f := 200000) rfl (fun _ h => absurd h List.not_mem_nil) True.intro (by decide +kernel)
noncomputable def dG382 : List ckG := [([(1, (30, 30)), (8, (0, 0))], [(0, 0)], []), ([(1, (1, 18)), (8, (0, 0))], [(0, 1)], [])]
-- FarMachineModel.hole
noncomputable def k518 : ckCtr := (103, ([(0, (1, 0)), (1, (0, 0)), (2, (0, 1))], [], dC362, [(30, 30), (1, 18), (0, 0), (8, 8)], [([(8, (0, 0))], [], []), ([(8, (0, 0))], [], [])], [], [], [], 0, 0), [([], [(0, 4)], dP365, [], [], [(1, 1)], dG382, [], [], [], 0, 0)], 2, 101, 0, 0)
noncomputable def k518_a : ckAs := []
noncomputable def k518_c : List (Nat × ckCtr) := [(3, k517)]
theorem k518_ok (l : Launch) : ckCtrOk l ckMT ckTW ckCL k518 := mt_103 (as := k518_a) (cs := k518_c) (gx := []) (f := 200000) rfl (ckHc (k517_ok l) (fun _ h => absurd h List.not_mem_nil)) True.intro (by decide +kernel)
-- FarMachineModel.isIn
noncomputable def k519 : ckCtr := (45, ([(0, (0, 0)), (1, (0, 1))], [], [], [(29, 29), (48, 48)], [], [], [], [], 0, 0), [([], [(0, 2)], [], [], [], [(1, 1)], [], [], [], [], 0, 0)], 1, 80, 0, 0)
noncomputable def k519_a : ckAs := []
noncomputable def k519_c : List (Nat × ckCtr) := []
theorem k519_ok (l : Launch) : ckCtrOk l ckMT ckTW ckCL k519 := mt_45 (as := k519_a) (cs := k519_c) (gx := []) (f := 200000) rfl (fun _ h => absurd h List.not_mem_nil) True.intro (by decide +kernel)
noncomputable def dG383 : List ckG := [([(1, (29, 29)), (8, (0, 0))], [(0, 0)], []), ([(1, (1, 19)), (8, (0, 0))], [(0, 1)], [])]
-- FarMachineModel.hole
noncomputable def k520 : ckCtr := (103, ([(0, (1, 0)), (1, (0, 0)), (2, (0, 1))], [], dC362, [(29, 29), (1, 19), (0, 0), (8, 8)], [([(8, (0, 0))], [], []), ([(8, (0, 0))], [], [])], [], [], [], 0, 0), [([], [(0, 4)], dP365, [], [], [(1, 1)], dG383, [], [], [], 0, 0)], 2, 101, 0, 0)
noncomputable def k520_a : ckAs := []
noncomputable def k520_c : List (Nat × ckCtr) := [(3, k519)]
theorem k520_ok (l : Launch) : ckCtrOk l ckMT ckTW ckCL k520 := mt_103 (as := k520_a) (cs := k520_c) (gx := []) (f := 200000) rfl (ckHc (k519_ok l) (fun _ h => absurd h List.not_mem_nil)) True.intro (by decide +kernel)
-- FarMachineModel.isIn
noncomputable def k521 : ckCtr := (45, ([(0, (0, 0)), (1, (0, 1))], [], [], [(28, 28), (48, 48)], [], [], [], [], 0, 0), [([], [(0, 2)], [], [], [], [(1, 1)], [], [], [], [], 0, 0)], 1, 80, 0, 0)
noncomputable def k521_a : ckAs := []
noncomputable def k521_c : List (Nat × ckCtr) := []
theorem k521_ok (l : Launch) : ckCtrOk l ckMT ckTW ckCL k521 := mt_45 (as := k521_a) (cs := k521_c) (gx := []) (f := 200000) rfl (fun _ h => absurd h List.not_mem_nil) True.intro (by decide +kernel)
noncomputable def dG384 : List ckG := [([(1, (28, 28)), (8, (0, 0))], [(0, 0)], []), ([(1, (1, 20)), (8, (0, 0))], [(0, 1)], [])]
-- FarMachineModel.hole
noncomputable def k522 : ckCtr := (103, ([(0, (1, 0)), (1, (0, 0)), (2, (0, 1))], [], dC362, [(28, 28), (1, 20), (0, 0), (8, 8)], [([(8, (0, 0))], [], []), ([(8, (0, 0))], [], [])], [], [], [], 0, 0), [([], [(0, 4)], dP365, [], [], [(1, 1)], dG384, [], [], [], 0, 0)], 2, 101, 0, 0)
noncomputable def k522_a : ckAs := []
noncomputable def k522_c : List (Nat × ckCtr) := [(3, k521)]
theorem k522_ok (l : Launch) : ckCtrOk l ckMT ckTW ckCL k522 := mt_103 (as := k522_a) (cs := k522_c) (gx := []) (f := 200000) rfl (ckHc (k521_ok l) (fun _ h => absurd h List.not_mem_nil)) True.intro (by decide +kernel)
-- FarMachineModel.isIn
noncomputable def k523 : ckCtr := (45, ([(0, (0, 0)), (1, (0, 1))], [], [], [(27, 27), (48, 48)], [], [], [], [], 0, 0), [([], [(0, 2)], [], [], [], [(1, 1)], [], [], [], [], 0, 0)], 1, 80, 0, 0)
noncomputable def k523_a : ckAs := []
noncomputable def k523_c : List (Nat × ckCtr) := []
theorem k523_ok (l : Launch) : ckCtrOk l ckMT ckTW ckCL k523 := mt_45 (as := k523_a) (cs := k523_c) (gx := []) (f := 200000) rfl (fun _ h => absurd h List.not_mem_nil) True.intro (by decide +kernel)
noncomputable def dG385 : List ckG := [([(1, (27, 27)), (8, (0, 0))], [(0, 0)], []), ([(1, (1, 21)), (8, (0, 0))], [(0, 1)], [])]
-- FarMachineModel.hole
noncomputable def k524 : ckCtr := (103, ([(0, (1, 0)), (1, (0, 0)), (2, (0, 1))], [], dC362, [(27, 27), (1, 21), (0, 0), (8, 8)], [([(8, (0, 0))], [], []), ([(8, (0, 0))], [], [])], [], [], [], 0, 0), [([], [(0, 4)], dP365, [], [], [(1, 1)], dG385, [], [], [], 0, 0)], 2, 101, 0, 0)
noncomputable def k524_a : ckAs := []
noncomputable def k524_c : List (Nat × ckCtr) := [(3, k523)]
theorem k524_ok (l : Launch) : ckCtrOk l ckMT ckTW ckCL k524 := mt_103 (as := k524_a) (cs := k524_c) (gx := []) (f := 200000) rfl (ckHc (k523_ok l) (fun _ h => absurd h List.not_mem_nil)) True.intro (by decide +kernel)
-- FarMachineModel.isIn
noncomputable def k525 : ckCtr := (45, ([(0, (0, 0)), (1, (0, 1))], [], [], [(26, 26), (48, 48)], [], [], [], [], 0, 0), [([], [(0, 2)], [], [], [], [(1, 1)], [], [], [], [], 0, 0)], 1, 80, 0, 0)
noncomputable def k525_a : ckAs := []
noncomputable def k525_c : List (Nat × ckCtr) := []
theorem k525_ok (l : Launch) : ckCtrOk l ckMT ckTW ckCL k525 := mt_45 (as := k525_a) (cs := k525_c) (gx := []) (f := 200000) rfl (fun _ h => absurd h List.not_mem_nil) True.intro (by decide +kernel)
noncomputable def dG386 : List ckG := [([(1, (26, 26)), (8, (0, 0))], [(0, 0)], []), ([(1, (1, 22)), (8, (0, 0))], [(0, 1)], [])]
-- FarMachineModel.hole
noncomputable def k526 : ckCtr := (103, ([(0, (1, 0)), (1, (0, 0)), (2, (0, 1))], [], dC362, [(26, 26), (1, 22), (0, 0), (8, 8)], [([(8, (0, 0))], [], []), ([(8, (0, 0))], [], [])], [], [], [], 0, 0), [([], [(0, 4)], dP365, [], [], [(1, 1)], dG386, [], [], [], 0, 0)], 2, 101, 0, 0)
noncomputable def k526_a : ckAs := []
noncomputable def k526_c : List (Nat × ckCtr) := [(3, k525)]
theorem k526_ok (l : Launch) : ckCtrOk l ckMT ckTW ckCL k526 := mt_103 (as := k526_a) (cs := k526_c) (gx := []) (f := 200000) rfl (ckHc (k525_ok l) (fun _ h => absurd h List.not_mem_nil)) True.intro (by decide +kernel)
-- FarMachineModel.isIn
noncomputable def k527 : ckCtr := (45, ([(0, (0, 0)), (1, (0, 1))], [], [], [(25, 25), (48, 48)], [], [], [], [], 0, 0), [([], [(0, 2)], [], [], [], [(1, 1)], [], [], [], [], 0, 0)], 1, 80, 0, 0)
noncomputable def k527_a : ckAs := []
noncomputable def k527_c : List (Nat × ckCtr) := []
theorem k527_ok (l : Launch) : ckCtrOk l ckMT ckTW ckCL k527 := mt_45 (as := k527_a) (cs := k527_c) (gx := []) (f := 200000) rfl (fun _ h => absurd h List.not_mem_nil) True.intro (by decide +kernel)
noncomputable def dG387 : List ckG := [([(1, (25, 25)), (8, (0, 0))], [(0, 0)], []), ([(1, (1, 23)), (8, (0, 0))], [(0, 1)], [])]
-- FarMachineModel.hole
noncomputable def k528 : ckCtr := (103, ([(0, (1, 0)), (1, (0, 0)), (2, (0, 1))], [], dC362, [(25, 25), (1, 23), (0, 0), (8, 8)], [([(8, (0, 0))], [], []), ([(8, (0, 0))], [], [])], [], [], [], 0, 0), [([], [(0, 4)], dP365, [], [], [(1, 1)], dG387, [], [], [], 0, 0)], 2, 101, 0, 0)
noncomputable def k528_a : ckAs := []
noncomputable def k528_c : List (Nat × ckCtr) := [(3, k527)]
theorem k528_ok (l : Launch) : ckCtrOk l ckMT ckTW ckCL k528 := mt_103 (as := k528_a) (cs := k528_c) (gx := []) (f := 200000) rfl (ckHc (k527_ok l) (fun _ h => absurd h List.not_mem_nil)) True.intro (by decide +kernel)
-- FarMachineModel.isIn
noncomputable def k529 : ckCtr := (45, ([(0, (0, 0)), (1, (0, 1))], [], [], [(24, 24), (48, 48)], [], [], [], [], 0, 0), [([], [(0, 2)], [], [], [], [(1, 1)], [], [], [], [], 0, 0)], 1, 80, 0, 0)
noncomputable def k529_a : ckAs := []
noncomputable def k529_c : List (Nat × ckCtr) := []
theorem k529_ok (l : Launch) : ckCtrOk l ckMT ckTW ckCL k529 := mt_45 (as := k529_a) (cs := k529_c) (gx := []) (f := 200000) rfl (fun _ h => absurd h List.not_mem_nil) True.intro (by decide +kernel)
noncomputable def dG388 : List ckG := [([(1, (24, 24)), (8, (0, 0))], [(0, 0)], []), ([(1, (1, 24)), (8, (0, 0))], [(0, 1)], [])]
-- FarMachineModel.hole
noncomputable def k530 : ckCtr := (103, ([(0, (1, 0)), (1, (0, 0)), (2, (0, 1))], [], dC362, [(24, 24), (1, 24), (0, 0), (8, 8)], [([(8, (0, 0))], [], []), ([(8, (0, 0))], [], [])], [], [], [], 0, 0), [([], [(0, 4)], dP365, [], [], [(1, 1)], dG388, [], [], [], 0, 0)], 2, 101, 0, 0)
noncomputable def k530_a : ckAs := []
noncomputable def k530_c : List (Nat × ckCtr) := [(3, k529)]
theorem k530_ok (l : Launch) : ckCtrOk l ckMT ckTW ckCL k530 := mt_103 (as := k530_a) (cs := k530_c) (gx := []) (f := 200000) rfl (ckHc (k529_ok l) (fun _ h => absurd h List.not_mem_nil)) True.intro (by decide +kernel)
-- FarMachineModel.isIn
noncomputable def k531 : ckCtr := (45, ([(0, (0, 0)), (1, (0, 1))], [], [], [(23, 23), (48, 48)], [], [], [], [], 0, 0), [([], [(0, 2)], [], [], [], [(1, 1)], [], [], [], [], 0, 0)], 1, 80, 0, 0)
noncomputable def k531_a : ckAs := []
noncomputable def k531_c : List (Nat × ckCtr) := []
theorem k531_ok (l : Launch) : ckCtrOk l ckMT ckTW ckCL k531 := mt_45 (as := k531_a) (cs := k531_c) (gx := []) (f := 200000) rfl (fun _ h => absurd h List.not_mem_nil) True.intro (by decide +kernel)
noncomputable def dG389 : List ckG := [([(1, (23, 23)), (8, (0, 0))], [(0, 0)], []), ([(1, (1, 25)), (8, (0, 0))], [(0, 1)], [])]
-- FarMachineModel.hole
noncomputable def k532 : ckCtr := (103, ([(0, (1, 0)), (1, (0, 0)), (2, (0, 1))], [], dC362, [(23, 23), (1, 25), (0, 0), (8, 8)], [([(8, (0, 0))], [], []), ([(8, (0, 0))], [], [])], [], [], [], 0, 0), [([], [(0, 4)], dP365, [], [], [(1, 1)], dG389, [], [], [], 0, 0)], 2, 101, 0, 0)
noncomputable def k532_a : ckAs := []
noncomputable def k532_c : List (Nat × ckCtr) := [(3, k531)]
theorem k532_ok (l : Launch) : ckCtrOk l ckMT ckTW ckCL k532 := mt_103 (as := k532_a) (cs := k532_c) (gx := []) (f := 200000) rfl (ckHc (k531_ok l) (fun _ h => absurd h List.not_mem_nil)) True.intro (by decide +kernel)
-- FarMachineModel.isIn
noncomputable def k533 : ckCtr := (45, ([(0, (0, 0)), (1, (0, 1))], [], [], [(22, 22), (48, 48)], [], [], [], [], 0, 0), [([], [(0, 2)], [], [], [], [(1, 1)], [], [], [], [], 0, 0)], 1, 80, 0, 0)
noncomputable def k533_a : ckAs := []
noncomputable def k533_c : List (Nat × ckCtr) := []
theorem k533_ok (l : Launch) : ckCtrOk l ckMT ckTW ckCL k533 := mt_45 (as := k533_a) (cs := k533_c) (gx := []) (f := 200000) rfl (fun _ h => absurd h List.not_mem_nil) True.intro (by decide +kernel)
noncomputable def dG390 : List ckG := [([(1, (22, 22)), (8, (0, 0))], [(0, 0)], []), ([(1, (1, 26)), (8, (0, 0))], [(0, 1)], [])]
-- FarMachineModel.hole
noncomputable def k534 : ckCtr := (103, ([(0, (1, 0)), (1, (0, 0)), (2, (0, 1))], [], dC362, [(22, 22), (1, 26), (0, 0), (8, 8)], [([(8, (0, 0))], [], []), ([(8, (0, 0))], [], [])], [], [], [], 0, 0), [([], [(0, 4)], dP365, [], [], [(1, 1)], dG390, [], [], [], 0, 0)], 2, 101, 0, 0)
noncomputable def k534_a : ckAs := []
noncomputable def k534_c : List (Nat × ckCtr) := [(3, k533)]
theorem k534_ok (l : Launch) : ckCtrOk l ckMT ckTW ckCL k534 := mt_103 (as := k534_a) (cs := k534_c) (gx := []) (f := 200000) rfl (ckHc (k533_ok l) (fun _ h => absurd h List.not_mem_nil)) True.intro (by decide +kernel)
-- FarMachineModel.isIn
noncomputable def k535 : ckCtr := (45, ([(0, (0, 0)), (1, (0, 1))], [], [], [(21, 21), (48, 48)], [], [], [], [], 0, 0), [([], [(0, 2)], [], [], [], [(1, 1)], [], [], [], [], 0, 0)], 1, 80, 0, 0)
noncomputable def k535_a : ckAs := []
noncomputable def k535_c : List (Nat × ckCtr) := []
theorem k535_ok (l : Launch) : ckCtrOk l ckMT ckTW ckCL k535 := mt_45 (as := k535_a) (cs := k535_c) (gx := []) (f := 200000) rfl (fun _ h => absurd h List.not_mem_nil) True.intro (by decide +kernel)
noncomputable def dG391 : List ckG := [([(1, (21, 21)), (8, (0, 0))], [(0, 0)], []), ([(1, (1, 27)), (8, (0, 0))], [(0, 1)], [])]
-- FarMachineModel.hole
noncomputable def k536 : ckCtr := (103, ([(0, (1, 0)), (1, (0, 0)), (2, (0, 1))], [], dC362, [(21, 21), (1, 27), (0, 0), (8, 8)], [([(8, (0, 0))], [], []), ([(8, (0, 0))], [], [])], [], [], [], 0, 0), [([], [(0, 4)], dP365, [], [], [(1, 1)], dG391, [], [], [], 0, 0)], 2, 101, 0, 0)
noncomputable def k536_a : ckAs := []
noncomputable def k536_c : List (Nat × ckCtr) := [(3, k535)]
theorem k536_ok (l : Launch) : ckCtrOk l ckMT ckTW ckCL k536 := mt_103 (as := k536_a) (cs := k536_c) (gx := []) (f := 200000) rfl (ckHc (k535_ok l) (fun _ h => absurd h List.not_mem_nil)) True.intro (by decide +kernel)
-- FarMachineModel.isIn
noncomputable def k537 : ckCtr := (45, ([(0, (0, 0)), (1, (0, 1))], [], [], [(20, 20), (48, 48)], [], [], [], [], 0, 0), [([], [(0, 2)], [], [], [], [(1, 1)], [], [], [], [], 0, 0)], 1, 80, 0, 0)
noncomputable def k537_a : ckAs := []
noncomputable def k537_c : List (Nat × ckCtr) := []
theorem k537_ok (l : Launch) : ckCtrOk l ckMT ckTW ckCL k537 := mt_45 (as := k537_a) (cs := k537_c) (gx := []) (f := 200000) rfl (fun _ h => absurd h List.not_mem_nil) True.intro (by decide +kernel)
noncomputable def dG392 : List ckG := [([(1, (20, 20)), (8, (0, 0))], [(0, 0)], []), ([(1, (1, 28)), (8, (0, 0))], [(0, 1)], [])]
-- FarMachineModel.hole
noncomputable def k538 : ckCtr := (103, ([(0, (1, 0)), (1, (0, 0)), (2, (0, 1))], [], dC362, [(20, 20), (1, 28), (0, 0), (8, 8)], [([(8, (0, 0))], [], []), ([(8, (0, 0))], [], [])], [], [], [], 0, 0), [([], [(0, 4)], dP365, [], [], [(1, 1)], dG392, [], [], [], 0, 0)], 2, 101, 0, 0)
noncomputable def k538_a : ckAs := []
noncomputable def k538_c : List (Nat × ckCtr) := [(3, k537)]
theorem k538_ok (l : Launch) : ckCtrOk l ckMT ckTW ckCL k538 := mt_103 (as := k538_a) (cs := k538_c) (gx := []) (f := 200000) rfl (ckHc (k537_ok l) (fun _ h => absurd h List.not_mem_nil)) True.intro (by decide +kernel)
-- FarMachineModel.isIn
noncomputable def k539 : ckCtr := (45, ([(0, (0, 0)), (1, (0, 1))], [], [], [(19, 19), (48, 48)], [], [], [], [], 0, 0), [([], [(0, 2)], [], [], [], [(1, 1)], [], [], [], [], 0, 0)], 1, 80, 0, 0)
noncomputable def k539_a : ckAs := []
noncomputable def k539_c : List (Nat × ckCtr) := []
theorem k539_ok (l : Launch) : ckCtrOk l ckMT ckTW ckCL k539 := mt_45 (as := k539_a) (cs := k539_c) (gx := []) (f := 200000) rfl (fun _ h => absurd h List.not_mem_nil) True.intro (by decide +kernel)
noncomputable def dG393 : List ckG := [([(1, (19, 19)), (8, (0, 0))], [(0, 0)], []), ([(1, (1, 29)), (8, (0, 0))], [(0, 1)], [])]
-- FarMachineModel.hole
noncomputable def k540 : ckCtr := (103, ([(0, (1, 0)), (1, (0, 0)), (2, (0, 1))], [], dC362, [(19, 19), (1, 29), (0, 0), (8, 8)], [([(8, (0, 0))], [], []), ([(8, (0, 0))], [], [])], [], [], [], 0, 0), [([], [(0, 4)], dP365, [], [], [(1, 1)], dG393, [], [], [], 0, 0)], 2, 101, 0, 0)
noncomputable def k540_a : ckAs := []
noncomputable def k540_c : List (Nat × ckCtr) := [(3, k539)]
theorem k540_ok (l : Launch) : ckCtrOk l ckMT ckTW ckCL k540 := mt_103 (as := k540_a) (cs := k540_c) (gx := []) (f := 200000) rfl (ckHc (k539_ok l) (fun _ h => absurd h List.not_mem_nil)) True.intro (by decide +kernel)
-- FarMachineModel.isIn
noncomputable def k541 : ckCtr := (45, ([(0, (0, 0)), (1, (0, 1))], [], [], [(18, 18), (48, 48)], [], [], [], [], 0, 0), [([], [(0, 2)], [], [], [], [(1, 1)], [], [], [], [], 0, 0)], 1, 80, 0, 0)
noncomputable def k541_a : ckAs := []
noncomputable def k541_c : List (Nat × ckCtr) := []
theorem k541_ok (l : Launch) : ckCtrOk l ckMT ckTW ckCL k541 := mt_45 (as := k541_a) (cs := k541_c) (gx := []) (f := 200000) rfl (fun _ h => absurd h List.not_mem_nil) True.intro (by decide +kernel)
noncomputable def dG394 : List ckG := [([(1, (18, 18)), (8, (0, 0))], [(0, 0)], []), ([(1, (1, 30)), (8, (0, 0))], [(0, 1)], [])]
-- FarMachineModel.hole
noncomputable def k542 : ckCtr := (103, ([(0, (1, 0)), (1, (0, 0)), (2, (0, 1))], [], dC362, [(18, 18), (1, 30), (0, 0), (8, 8)], [([(8, (0, 0))], [], []), ([(8, (0, 0))], [], [])], [], [], [], 0, 0), [([], [(0, 4)], dP365, [], [], [(1, 1)], dG394, [], [], [], 0, 0)], 2, 101, 0, 0)
noncomputable def k542_a : ckAs := []
noncomputable def k542_c : List (Nat × ckCtr) := [(3, k541)]
theorem k542_ok (l : Launch) : ckCtrOk l ckMT ckTW ckCL k542 := mt_103 (as := k542_a) (cs := k542_c) (gx := []) (f := 200000) rfl (ckHc (k541_ok l) (fun _ h => absurd h List.not_mem_nil)) True.intro (by decide +kernel)
-- FarMachineModel.isIn
noncomputable def k543 : ckCtr := (45, ([(0, (0, 0)), (1, (0, 1))], [], [], [(17, 17), (48, 48)], [], [], [], [], 0, 0), [([], [(0, 2)], [], [], [], [(1, 1)], [], [], [], [], 0, 0)], 1, 80, 0, 0)
noncomputable def k543_a : ckAs := []
noncomputable def k543_c : List (Nat × ckCtr) := []
theorem k543_ok (l : Launch) : ckCtrOk l ckMT ckTW ckCL k543 := mt_45 (as := k543_a) (cs := k543_c) (gx := []) (f := 200000) rfl (fun _ h => absurd h List.not_mem_nil) True.intro (by decide +kernel)
noncomputable def dG395 : List ckG := [([(1, (17, 17)), (8, (0, 0))], [(0, 0)], []), ([(1, (1, 31)), (8, (0, 0))], [(0, 1)], [])]
-- FarMachineModel.hole
noncomputable def k544 : ckCtr := (103, ([(0, (1, 0)), (1, (0, 0)), (2, (0, 1))], [], dC362, [(17, 17), (1, 31), (0, 0), (8, 8)], [([(8, (0, 0))], [], []), ([(8, (0, 0))], [], [])], [], [], [], 0, 0), [([], [(0, 4)], dP365, [], [], [(1, 1)], dG395, [], [], [], 0, 0)], 2, 101, 0, 0)
noncomputable def k544_a : ckAs := []
noncomputable def k544_c : List (Nat × ckCtr) := [(3, k543)]
theorem k544_ok (l : Launch) : ckCtrOk l ckMT ckTW ckCL k544 := mt_103 (as := k544_a) (cs := k544_c) (gx := []) (f := 200000) rfl (ckHc (k543_ok l) (fun _ h => absurd h List.not_mem_nil)) True.intro (by decide +kernel)
-- FarMachineModel.isIn
noncomputable def k545 : ckCtr := (45, ([(0, (0, 0)), (1, (0, 1))], [], [], [(16, 16), (48, 48)], [], [], [], [], 0, 0), [([], [(0, 2)], [], [], [], [(1, 1)], [], [], [], [], 0, 0)], 1, 80, 0, 0)
noncomputable def k545_a : ckAs := []
noncomputable def k545_c : List (Nat × ckCtr) := []
theorem k545_ok (l : Launch) : ckCtrOk l ckMT ckTW ckCL k545 := mt_45 (as := k545_a) (cs := k545_c) (gx := []) (f := 200000) rfl (fun _ h => absurd h List.not_mem_nil) True.intro (by decide +kernel)
noncomputable def dG396 : List ckG := [([(1, (16, 16)), (8, (0, 0))], [(0, 0)], []), ([(1, (1, 32)), (8, (0, 0))], [(0, 1)], [])]
-- FarMachineModel.hole
noncomputable def k546 : ckCtr := (103, ([(0, (1, 0)), (1, (0, 0)), (2, (0, 1))], [], dC362, [(16, 16), (1, 32), (0, 0), (8, 8)], [([(8, (0, 0))], [], []), ([(8, (0, 0))], [], [])], [], [], [], 0, 0), [([], [(0, 4)], dP365, [], [], [(1, 1)], dG396, [], [], [], 0, 0)], 2, 101, 0, 0)
noncomputable def k546_a : ckAs := []
noncomputable def k546_c : List (Nat × ckCtr) := [(3, k545)]
theorem k546_ok (l : Launch) : ckCtrOk l ckMT ckTW ckCL k546 := mt_103 (as := k546_a) (cs := k546_c) (gx := []) (f := 200000) rfl (ckHc (k545_ok l) (fun _ h => absurd h List.not_mem_nil)) True.intro (by decide +kernel)
-- FarMachineModel.isIn
noncomputable def k547 : ckCtr := (45, ([(0, (0, 0)), (1, (0, 1))], [], [], [(15, 15), (48, 48)], [], [], [], [], 0, 0), [([], [(0, 2)], [], [], [], [(1, 1)], [], [], [], [], 0, 0)], 1, 80, 0, 0)
noncomputable def k547_a : ckAs := []
noncomputable def k547_c : List (Nat × ckCtr) := []
theorem k547_ok (l : Launch) : ckCtrOk l ckMT ckTW ckCL k547 := mt_45 (as := k547_a) (cs := k547_c) (gx := []) (f := 200000) rfl (fun _ h => absurd h List.not_mem_nil) True.intro (by decide +kernel)
noncomputable def dG397 : List ckG := [([(1, (15, 15)), (8, (0, 0))], [(0, 0)], []), ([(1, (1, 33)), (8, (0, 0))], [(0, 1)], [])]
-- FarMachineModel.hole
noncomputable def k548 : ckCtr := (103, ([(0, (1, 0)), (1, (0, 0)), (2, (0, 1))], [], dC362, [(15, 15), (1, 33), (0, 0), (8, 8)], [([(8, (0, 0))], [], []), ([(8, (0, 0))], [], [])], [], [], [], 0, 0), [([], [(0, 4)], dP365, [], [], [(1, 1)], dG397, [], [], [], 0, 0)], 2, 101, 0, 0)
noncomputable def k548_a : ckAs := []
noncomputable def k548_c : List (Nat × ckCtr) := [(3, k547)]
theorem k548_ok (l : Launch) : ckCtrOk l ckMT ckTW ckCL k548 := mt_103 (as := k548_a) (cs := k548_c) (gx := []) (f := 200000) rfl (ckHc (k547_ok l) (fun _ h => absurd h List.not_mem_nil)) True.intro (by decide +kernel)
-- FarMachineModel.isIn
noncomputable def k549 : ckCtr := (45, ([(0, (0, 0)), (1, (0, 1))], [], [], [(14, 14), (48, 48)], [], [], [], [], 0, 0), [([], [(0, 2)], [], [], [], [(1, 1)], [], [], [], [], 0, 0)], 1, 80, 0, 0)
noncomputable def k549_a : ckAs := []
noncomputable def k549_c : List (Nat × ckCtr) := []
theorem k549_ok (l : Launch) : ckCtrOk l ckMT ckTW ckCL k549 := mt_45 (as := k549_a) (cs := k549_c) (gx := []) (f := 200000) rfl (fun _ h => absurd h List.not_mem_nil) True.intro (by decide +kernel)
noncomputable def dG398 : List ckG := [([(1, (14, 14)), (8, (0, 0))], [(0, 0)], []), ([(1, (1, 34)), (8, (0, 0))], [(0, 1)], [])]
-- FarMachineModel.hole
noncomputable def k550 : ckCtr := (103, ([(0, (1, 0)), (1, (0, 0)), (2, (0, 1))], [], dC362, [(14, 14), (1, 34), (0, 0), (8, 8)], [([(8, (0, 0))], [], []), ([(8, (0, 0))], [], [])], [], [], [], 0, 0), [([], [(0, 4)], dP365, [], [], [(1, 1)], dG398, [], [], [], 0, 0)], 2, 101, 0, 0)
noncomputable def k550_a : ckAs := []
noncomputable def k550_c : List (Nat × ckCtr) := [(3, k549)]
theorem k550_ok (l : Launch) : ckCtrOk l ckMT ckTW ckCL k550 := mt_103 (as := k550_a) (cs := k550_c) (gx := []) (f := 200000) rfl (ckHc (k549_ok l) (fun _ h => absurd h List.not_mem_nil)) True.intro (by decide +kernel)
-- FarMachineModel.isIn
noncomputable def k551 : ckCtr := (45, ([(0, (0, 0)), (1, (0, 1))], [], [], [(13, 13), (48, 48)], [], [], [], [], 0, 0), [([], [(0, 2)], [], [], [], [(1, 1)], [], [], [], [], 0, 0)], 1, 80, 0, 0)
noncomputable def k551_a : ckAs := []
noncomputable def k551_c : List (Nat × ckCtr) := []
theorem k551_ok (l : Launch) : ckCtrOk l ckMT ckTW ckCL k551 := mt_45 (as := k551_a) (cs := k551_c) (gx := []) (f := 200000) rfl (fun _ h => absurd h List.not_mem_nil) True.intro (by decide +kernel)
noncomputable def dG399 : List ckG := [([(1, (13, 13)), (8, (0, 0))], [(0, 0)], []), ([(1, (1, 35)), (8, (0, 0))], [(0, 1)], [])]
-- FarMachineModel.hole
noncomputable def k552 : ckCtr := (103, ([(0, (1, 0)), (1, (0, 0)), (2, (0, 1))], [], dC362, [(13, 13), (1, 35), (0, 0), (8, 8)], [([(8, (0, 0))], [], []), ([(8, (0, 0))], [], [])], [], [], [], 0, 0), [([], [(0, 4)], dP365, [], [], [(1, 1)], dG399, [], [], [], 0, 0)], 2, 101, 0, 0)
noncomputable def k552_a : ckAs := []
noncomputable def k552_c : List (Nat × ckCtr) := [(3, k551)]
theorem k552_ok (l : Launch) : ckCtrOk l ckMT ckTW ckCL k552 := mt_103 (as := k552_a) (cs := k552_c) (gx := []) (f := 200000) rfl (ckHc (k551_ok l) (fun _ h => absurd h List.not_mem_nil)) True.intro (by decide +kernel)
-- FarMachineModel.isIn
noncomputable def k553 : ckCtr := (45, ([(0, (0, 0)), (1, (0, 1))], [], [], [(12, 12), (48, 48)], [], [], [], [], 0, 0), [([], [(0, 2)], [], [], [], [(1, 1)], [], [], [], [], 0, 0)], 1, 80, 0, 0)
noncomputable def k553_a : ckAs := []
noncomputable def k553_c : List (Nat × ckCtr) := []
theorem k553_ok (l : Launch) : ckCtrOk l ckMT ckTW ckCL k553 := mt_45 (as := k553_a) (cs := k553_c) (gx := []) (f := 200000) rfl (fun _ h => absurd h List.not_mem_nil) True.intro (by decide +kernel)
noncomputable def dG400 : List ckG := [([(1, (12, 12)), (8, (0, 0))], [(0, 0)], []), ([(1, (1, 36)), (8, (0, 0))], [(0, 1)], [])]
-- FarMachineModel.hole
noncomputable def k554 : ckCtr := (103, ([(0, (1, 0)), (1, (0, 0)), (2, (0, 1))], [], dC362, [(12, 12), (1, 36), (0, 0), (8, 8)], [([(8, (0, 0))], [], []), ([(8, (0, 0))], [], [])], [], [], [], 0, 0), [([], [(0, 4)], dP365, [], [], [(1, 1)], dG400, [], [], [], 0, 0)], 2, 101, 0, 0)
noncomputable def k554_a : ckAs := []
noncomputable def k554_c : List (Nat × ckCtr) := [(3, k553)]
theorem k554_ok (l : Launch) : ckCtrOk l ckMT ckTW ckCL k554 := mt_103 (as := k554_a) (cs := k554_c) (gx := []) (f := 200000) rfl (ckHc (k553_ok l) (fun _ h => absurd h List.not_mem_nil)) True.intro (by decide +kernel)
-- FarMachineModel.isIn
noncomputable def k555 : ckCtr := (45, ([(0, (0, 0)), (1, (0, 1))], [], [], [(11, 11), (48, 48)], [], [], [], [], 0, 0), [([], [(0, 2)], [], [], [], [(1, 1)], [], [], [], [], 0, 0)], 1, 80, 0, 0)
noncomputable def k555_a : ckAs := []
noncomputable def k555_c : List (Nat × ckCtr) := []
theorem k555_ok (l : Launch) : ckCtrOk l ckMT ckTW ckCL k555 := mt_45 (as := k555_a) (cs := k555_c) (gx := []) (f := 200000) rfl (fun _ h => absurd h List.not_mem_nil) True.intro (by decide +kernel)
noncomputable def dG401 : List ckG := [([(1, (11, 11)), (8, (0, 0))], [(0, 0)], []), ([(1, (1, 37)), (8, (0, 0))], [(0, 1)], [])]
-- FarMachineModel.hole
noncomputable def k556 : ckCtr := (103, ([(0, (1, 0)), (1, (0, 0)), (2, (0, 1))], [], dC362, [(11, 11), (1, 37), (0, 0), (8, 8)], [([(8, (0, 0))], [], []), ([(8, (0, 0))], [], [])], [], [], [], 0, 0), [([], [(0, 4)], dP365, [], [], [(1, 1)], dG401, [], [], [], 0, 0)], 2, 101, 0, 0)
noncomputable def k556_a : ckAs := []
noncomputable def k556_c : List (Nat × ckCtr) := [(3, k555)]
theorem k556_ok (l : Launch) : ckCtrOk l ckMT ckTW ckCL k556 := mt_103 (as := k556_a) (cs := k556_c) (gx := []) (f := 200000) rfl (ckHc (k555_ok l) (fun _ h => absurd h List.not_mem_nil)) True.intro (by decide +kernel)
-- FarMachineModel.isIn
noncomputable def k557 : ckCtr := (45, ([(0, (0, 0)), (1, (0, 1))], [], [], [(10, 10), (48, 48)], [], [], [], [], 0, 0), [([], [(0, 2)], [], [], [], [(1, 1)], [], [], [], [], 0, 0)], 1, 80, 0, 0)
noncomputable def k557_a : ckAs := []
noncomputable def k557_c : List (Nat × ckCtr) := []
theorem k557_ok (l : Launch) : ckCtrOk l ckMT ckTW ckCL k557 := mt_45 (as := k557_a) (cs := k557_c) (gx := []) (f := 200000) rfl (fun _ h => absurd h List.not_mem_nil) True.intro (by decide +kernel)
noncomputable def dG402 : List ckG := [([(1, (10, 10)), (8, (0, 0))], [(0, 0)], []), ([(1, (1, 38)), (8, (0, 0))], [(0, 1)], [])]
-- FarMachineModel.hole
noncomputable def k558 : ckCtr := (103, ([(0, (1, 0)), (1, (0, 0)), (2, (0, 1))], [], dC362, [(10, 10), (1, 38), (0, 0), (8, 8)], [([(8, (0, 0))], [], []), ([(8, (0, 0))], [], [])], [], [], [], 0, 0), [([], [(0, 4)], dP365, [], [], [(1, 1)], dG402, [], [], [], 0, 0)], 2, 101, 0, 0)
noncomputable def k558_a : ckAs := []
noncomputable def k558_c : List (Nat × ckCtr) := [(3, k557)]
theorem k558_ok (l : Launch) : ckCtrOk l ckMT ckTW ckCL k558 := mt_103 (as := k558_a) (cs := k558_c) (gx := []) (f := 200000) rfl (ckHc (k557_ok l) (fun _ h => absurd h List.not_mem_nil)) True.intro (by decide +kernel)
-- FarMachineModel.isIn
noncomputable def k559 : ckCtr := (45, ([(0, (0, 0)), (1, (0, 1))], [], [], [(9, 9), (48, 48)], [], [], [], [], 0, 0), [([], [(0, 2)], [], [], [], [(1, 1)], [], [], [], [], 0, 0)], 1, 80, 0, 0)
noncomputable def k559_a : ckAs := []
noncomputable def k559_c : List (Nat × ckCtr) := []
theorem k559_ok (l : Launch) : ckCtrOk l ckMT ckTW ckCL k559 := mt_45 (as := k559_a) (cs := k559_c) (gx := []) (f := 200000) rfl (fun _ h => absurd h List.not_mem_nil) True.intro (by decide +kernel)
noncomputable def dG403 : List ckG := [([(1, (9, 9)), (8, (0, 0))], [(0, 0)], []), ([(1, (1, 39)), (8, (0, 0))], [(0, 1)], [])]
-- FarMachineModel.hole
noncomputable def k560 : ckCtr := (103, ([(0, (1, 0)), (1, (0, 0)), (2, (0, 1))], [], dC362, [(9, 9), (1, 39), (0, 0), (8, 8)], [([(8, (0, 0))], [], []), ([(8, (0, 0))], [], [])], [], [], [], 0, 0), [([], [(0, 4)], dP365, [], [], [(1, 1)], dG403, [], [], [], 0, 0)], 2, 101, 0, 0)
noncomputable def k560_a : ckAs := []
noncomputable def k560_c : List (Nat × ckCtr) := [(3, k559)]
theorem k560_ok (l : Launch) : ckCtrOk l ckMT ckTW ckCL k560 := mt_103 (as := k560_a) (cs := k560_c) (gx := []) (f := 200000) rfl (ckHc (k559_ok l) (fun _ h => absurd h List.not_mem_nil)) True.intro (by decide +kernel)
-- FarMachineModel.isIn
noncomputable def k561 : ckCtr := (45, ([(0, (0, 0)), (1, (0, 1))], [], [], [(8, 8), (48, 48)], [], [], [], [], 0, 0), [([], [(0, 2)], [], [], [], [(1, 1)], [], [], [], [], 0, 0)], 1, 80, 0, 0)
noncomputable def k561_a : ckAs := []
noncomputable def k561_c : List (Nat × ckCtr) := []
theorem k561_ok (l : Launch) : ckCtrOk l ckMT ckTW ckCL k561 := mt_45 (as := k561_a) (cs := k561_c) (gx := []) (f := 200000) rfl (fun _ h => absurd h List.not_mem_nil) True.intro (by decide +kernel)
noncomputable def dC404 : List ckC := [.inl (9, [(4, 10), (4, 11), (4, 12), (4, 13), (4, 14), (4, 15), (4, 16), (4, 17), (4, 18), (4, 19), (4, 20), (4, 21), (1, 1), (1, 2), (4, 22), (4, 23), (0, 2), (0, 2), (0, 2), (0, 2), (0, 2), (0, 2), (0, 2), (4, 24), (0, 2), (4, 25), (0, 2), (0, 2), (0, 2), (0, 2), (4, 26), (0, 2), (0, 2), (0, 2), (0, 2), (4, 26), (4, 11), (0, 2), (4, 27), (4, 28), (0, 2), (0, 2)]), .inr (0, 0, 0), .inr (0, 0, 1)]
noncomputable def dP405 : List (Nat × ckC) := [(0, .inl (9, [(4, 10), (4, 11), (4, 12), (4, 13), (4, 14), (4, 15), (4, 16), (4, 17), (4, 18), (4, 19), (4, 20), (4, 21), (1, 1), (1, 2), (4, 22), (4, 23), (0, 2), (0, 2), (0, 2), (0, 2), (0, 2), (0, 3), (0, 2), (4, 24), (0, 2), (4, 25), (0, 2), (0, 2), (0, 2), (0, 2), (4, 26), (0, 2), (0, 2), (0, 2), (0, 2), (4, 26), (4, 11), (0, 2), (4, 27), (4, 28), (0, 2), (0, 2)])), (1, .inr (0, 0, 2)), (2, .inr (0, 0, 3))]
noncomputable def dG406 : List ckG := [([(1, (8, 8)), (8, (0, 0))], [(0, 0)], []), ([(1, (1, 40)), (8, (0, 0))], [(0, 1)], [])]
-- FarMachineModel.hole
noncomputable def k562 : ckCtr := (103, ([(0, (1, 0)), (1, (0, 0)), (2, (0, 1))], [], dC404, [(8, 8), (1, 40), (0, 0)], [([(8, (0, 0))], [], []), ([(8, (0, 0))], [], [])], [], [], [], 0, 0), [([], [(0, 3)], dP405, [], [], [(1, 1)], dG406, [], [], [], 0, 0)], 2, 101, 0, 0)
noncomputable def k562_a : ckAs := []
noncomputable def k562_c : List (Nat × ckCtr) := [(3, k561)]
theorem k562_ok (l : Launch) : ckCtrOk l ckMT ckTW ckCL k562 := mt_103 (as := k562_a) (cs := k562_c) (gx := []) (f := 200000) rfl (ckHc (k561_ok l) (fun _ h => absurd h List.not_mem_nil)) True.intro (by decide +kernel)
-- FarMachineModel.isIn
noncomputable def k563 : ckCtr := (45, ([(0, (0, 0)), (1, (0, 1))], [], [], [(7, 7), (48, 48)], [], [], [], [], 0, 0), [([], [(0, 2)], [], [], [], [(1, 1)], [], [], [], [], 0, 0)], 1, 80, 0, 0)
noncomputable def k563_a : ckAs := []
noncomputable def k563_c : List (Nat × ckCtr) := []
theorem k563_ok (l : Launch) : ckCtrOk l ckMT ckTW ckCL k563 := mt_45 (as := k563_a) (cs := k563_c) (gx := []) (f := 200000) rfl (fun _ h => absurd h List.not_mem_nil) True.intro (by decide +kernel)
noncomputable def dG407 : List ckG := [([(1, (7, 7)), (8, (0, 0))], [(0, 0)], []), ([(1, (1, 41)), (8, (0, 0))], [(0, 1)], [])]
-- FarMachineModel.hole
noncomputable def k564 : ckCtr := (103, ([(0, (1, 0)), (1, (0, 0)), (2, (0, 1))], [], dC362, [(7, 7), (1, 41), (0, 0), (8, 8)], [([(8, (0, 0))], [], []), ([(8, (0, 0))], [], [])], [], [], [], 0, 0), [([], [(0, 4)], dP365, [], [], [(1, 1)], dG407, [], [], [], 0, 0)], 2, 101, 0, 0)
noncomputable def k564_a : ckAs := []
noncomputable def k564_c : List (Nat × ckCtr) := [(3, k563)]
theorem k564_ok (l : Launch) : ckCtrOk l ckMT ckTW ckCL k564 := mt_103 (as := k564_a) (cs := k564_c) (gx := []) (f := 200000) rfl (ckHc (k563_ok l) (fun _ h => absurd h List.not_mem_nil)) True.intro (by decide +kernel)
-- FarMachineModel.isIn
noncomputable def k565 : ckCtr := (45, ([(0, (0, 0)), (1, (0, 1))], [], [], [(6, 6), (48, 48)], [], [], [], [], 0, 0), [([], [(0, 2)], [], [], [], [(1, 1)], [], [], [], [], 0, 0)], 1, 80, 0, 0)
noncomputable def k565_a : ckAs := []
noncomputable def k565_c : List (Nat × ckCtr) := []
theorem k565_ok (l : Launch) : ckCtrOk l ckMT ckTW ckCL k565 := mt_45 (as := k565_a) (cs := k565_c) (gx := []) (f := 200000) rfl (fun _ h => absurd h List.not_mem_nil) True.intro (by decide +kernel)
noncomputable def dG408 : List ckG := [([(1, (6, 6)), (8, (0, 0))], [(0, 0)], []), ([(1, (1, 42)), (8, (0, 0))], [(0, 1)], [])]
-- FarMachineModel.hole
noncomputable def k566 : ckCtr := (103, ([(0, (1, 0)), (1, (0, 0)), (2, (0, 1))], [], dC362, [(6, 6), (1, 42), (0, 0), (8, 8)], [([(8, (0, 0))], [], []), ([(8, (0, 0))], [], [])], [], [], [], 0, 0), [([], [(0, 4)], dP365, [], [], [(1, 1)], dG408, [], [], [], 0, 0)], 2, 101, 0, 0)
noncomputable def k566_a : ckAs := []
noncomputable def k566_c : List (Nat × ckCtr) := [(3, k565)]
theorem k566_ok (l : Launch) : ckCtrOk l ckMT ckTW ckCL k566 := mt_103 (as := k566_a) (cs := k566_c) (gx := []) (f := 200000) rfl (ckHc (k565_ok l) (fun _ h => absurd h List.not_mem_nil)) True.intro (by decide +kernel)
-- FarMachineModel.isIn
noncomputable def k567 : ckCtr := (45, ([(0, (0, 0)), (1, (0, 1))], [], [], [(5, 5), (48, 48)], [], [], [], [], 0, 0), [([], [(0, 2)], [], [], [], [(1, 1)], [], [], [], [], 0, 0)], 1, 80, 0, 0)
noncomputable def k567_a : ckAs := []
noncomputable def k567_c : List (Nat × ckCtr) := []
theorem k567_ok (l : Launch) : ckCtrOk l ckMT ckTW ckCL k567 := mt_45 (as := k567_a) (cs := k567_c) (gx := []) (f := 200000) rfl (fun _ h => absurd h List.not_mem_nil) True.intro (by decide +kernel)
noncomputable def dG409 : List ckG := [([(1, (5, 5)), (8, (0, 0))], [(0, 0)], []), ([(1, (1, 43)), (8, (0, 0))], [(0, 1)], [])]
-- FarMachineModel.hole
noncomputable def k568 : ckCtr := (103, ([(0, (1, 0)), (1, (0, 0)), (2, (0, 1))], [], dC362, [(5, 5), (1, 43), (0, 0), (8, 8)], [([(8, (0, 0))], [], []), ([(8, (0, 0))], [], [])], [], [], [], 0, 0), [([], [(0, 4)], dP365, [], [], [(1, 1)], dG409, [], [], [], 0, 0)], 2, 101, 0, 0)
noncomputable def k568_a : ckAs := []
noncomputable def k568_c : List (Nat × ckCtr) := [(3, k567)]
theorem k568_ok (l : Launch) : ckCtrOk l ckMT ckTW ckCL k568 := mt_103 (as := k568_a) (cs := k568_c) (gx := []) (f := 200000) rfl (ckHc (k567_ok l) (fun _ h => absurd h List.not_mem_nil)) True.intro (by decide +kernel)
-- FarMachineModel.isIn
noncomputable def k569 : ckCtr := (45, ([(0, (0, 0)), (1, (0, 1))], [], [], [(4, 4), (48, 48)], [], [], [], [], 0, 0), [([], [(0, 2)], [], [], [], [(1, 1)], [], [], [], [], 0, 0)], 1, 80, 0, 0)
noncomputable def k569_a : ckAs := []
noncomputable def k569_c : List (Nat × ckCtr) := []
theorem k569_ok (l : Launch) : ckCtrOk l ckMT ckTW ckCL k569 := mt_45 (as := k569_a) (cs := k569_c) (gx := []) (f := 200000) rfl (fun _ h => absurd h List.not_mem_nil) True.intro (by decide +kernel)
noncomputable def dG410 : List ckG := [([(1, (4, 4)), (8, (0, 0))], [(0, 0)], []), ([(1, (1, 44)), (8, (0, 0))], [(0, 1)], [])]
-- FarMachineModel.hole
noncomputable def k570 : ckCtr := (103, ([(0, (1, 0)), (1, (0, 0)), (2, (0, 1))], [], dC362, [(4, 4), (1, 44), (0, 0), (8, 8)], [([(8, (0, 0))], [], []), ([(8, (0, 0))], [], [])], [], [], [], 0, 0), [([], [(0, 4)], dP365, [], [], [(1, 1)], dG410, [], [], [], 0, 0)], 2, 101, 0, 0)
noncomputable def k570_a : ckAs := []
noncomputable def k570_c : List (Nat × ckCtr) := [(3, k569)]
theorem k570_ok (l : Launch) : ckCtrOk l ckMT ckTW ckCL k570 := mt_103 (as := k570_a) (cs := k570_c) (gx := []) (f := 200000) rfl (ckHc (k569_ok l) (fun _ h => absurd h List.not_mem_nil)) True.intro (by decide +kernel)
-- FarMachineModel.isIn
noncomputable def k571 : ckCtr := (45, ([(0, (0, 0)), (1, (0, 1))], [], [], [(3, 3), (48, 48)], [], [], [], [], 0, 0), [([], [(0, 2)], [], [], [], [(1, 1)], [], [], [], [], 0, 0)], 1, 80, 0, 0)
noncomputable def k571_a : ckAs := []
noncomputable def k571_c : List (Nat × ckCtr) := []
theorem k571_ok (l : Launch) : ckCtrOk l ckMT ckTW ckCL k571 := mt_45 (as := k571_a) (cs := k571_c) (gx := []) (f := 200000) rfl (fun _ h => absurd h List.not_mem_nil) True.intro (by decide +kernel)
noncomputable def dG411 : List ckG := [([(1, (3, 3)), (8, (0, 0))], [(0, 0)], []), ([(1, (1, 45)), (8, (0, 0))], [(0, 1)], [])]
-- FarMachineModel.hole
noncomputable def k572 : ckCtr := (103, ([(0, (1, 0)), (1, (0, 0)), (2, (0, 1))], [], dC362, [(3, 3), (1, 45), (0, 0), (8, 8)], [([(8, (0, 0))], [], []), ([(8, (0, 0))], [], [])], [], [], [], 0, 0), [([], [(0, 4)], dP365, [], [], [(1, 1)], dG411, [], [], [], 0, 0)], 2, 101, 0, 0)
noncomputable def k572_a : ckAs := []
noncomputable def k572_c : List (Nat × ckCtr) := [(3, k571)]
theorem k572_ok (l : Launch) : ckCtrOk l ckMT ckTW ckCL k572 := mt_103 (as := k572_a) (cs := k572_c) (gx := []) (f := 200000) rfl (ckHc (k571_ok l) (fun _ h => absurd h List.not_mem_nil)) True.intro (by decide +kernel)
-- FarMachineModel.isIn
noncomputable def k573 : ckCtr := (45, ([(0, (0, 0)), (1, (0, 1))], [], [], [(2, 2), (48, 48)], [], [], [], [], 0, 0), [([], [(0, 2)], [], [], [], [(1, 1)], [], [], [], [], 0, 0)], 1, 80, 0, 0)
noncomputable def k573_a : ckAs := []
noncomputable def k573_c : List (Nat × ckCtr) := []
theorem k573_ok (l : Launch) : ckCtrOk l ckMT ckTW ckCL k573 := mt_45 (as := k573_a) (cs := k573_c) (gx := []) (f := 200000) rfl (fun _ h => absurd h List.not_mem_nil) True.intro (by decide +kernel)
noncomputable def dG412 : List ckG := [([(1, (2, 2)), (8, (0, 0))], [(0, 0)], []), ([(1, (1, 46)), (8, (0, 0))], [(0, 1)], [])]
-- FarMachineModel.hole
noncomputable def k574 : ckCtr := (103, ([(0, (1, 0)), (1, (0, 0)), (2, (0, 1))], [], dC362, [(2, 2), (1, 46), (0, 0), (8, 8)], [([(8, (0, 0))], [], []), ([(8, (0, 0))], [], [])], [], [], [], 0, 0), [([], [(0, 4)], dP365, [], [], [(1, 1)], dG412, [], [], [], 0, 0)], 2, 101, 0, 0)
noncomputable def k574_a : ckAs := []
noncomputable def k574_c : List (Nat × ckCtr) := [(3, k573)]
theorem k574_ok (l : Launch) : ckCtrOk l ckMT ckTW ckCL k574 := mt_103 (as := k574_a) (cs := k574_c) (gx := []) (f := 200000) rfl (ckHc (k573_ok l) (fun _ h => absurd h List.not_mem_nil)) True.intro (by decide +kernel)
-- FarMachineModel.isIn
noncomputable def k575 : ckCtr := (45, ([(0, (0, 0)), (1, (0, 1))], [], [], [(1, 1), (48, 48)], [], [], [], [], 0, 0), [([], [(0, 0)], [], [], [], [], [], [], [], [], 0, 0)], 1, 80, 0, 0)
noncomputable def k575_a : ckAs := []
noncomputable def k575_c : List (Nat × ckCtr) := []
theorem k575_ok (l : Launch) : ckCtrOk l ckMT ckTW ckCL k575 := mt_45 (as := k575_a) (cs := k575_c) (gx := []) (f := 200000) rfl (fun _ h => absurd h List.not_mem_nil) True.intro (by decide +kernel)
