/-! THE CHECKER: contracts with their certificates (printed by wip/gen/p1gen.py) -/
-- FarMachineModel.hole
noncomputable def k661 : ckCtr := (103, ([(0, (1, 0)), (1, (0, 0)), (2, (0, 1))], [], dC43, [(34, 34), (1001, 2147483647), (0, 0), (7, 7)], [([(7, (0, 0))], [], [])], [], [], [], 0, 0), [([], [(0, 4)], [(1, .inr (0, 3, 1))], [], [], [(-6, -6), (1, 1)], [([(6, (0, 0)), (7, (1, 1))], [(6, 5)], [])], [], [], [], 0, 0)], 2, 101, 0, 0)
noncomputable def k661_a : ckAs := []
noncomputable def k661_c : List (Nat × ckCtr) := [(3, k509), (57, k25)]
theorem k661_ok (l : Launch) : ckCtrOk l ckMT ckTW ckCL k661 := mt_103 (as := k661_a) (cs := k661_c) (gx := []) (f := 200000) rfl (ckHc (k509_ok l) (ckHc (k25_ok l) (fun _ h => absurd h List.not_mem_nil))) True.intro (by decide +kernel)
-- FarMachineModel.hole
noncomputable def k662 : ckCtr := (103, ([(0, (1, 0)), (1, (0, 0)), (2, (0, 1))], [], dC43, [(35, 35), (1001, 2147483647), (0, 0), (7, 7)], [([(7, (0, 0))], [], [])], [], [], [], 0, 0), [([], [(0, 4)], [(1, .inr (0, 3, 1))], [], [], [(-6, -6), (1, 1)], [([(6, (0, 0)), (7, (1, 1))], [(6, 5)], [])], [], [], [], 0, 0)], 2, 101, 0, 0)
noncomputable def k662_a : ckAs := []
noncomputable def k662_c : List (Nat × ckCtr) := [(3, k507), (57, k25)]
theorem k662_ok (l : Launch) : ckCtrOk l ckMT ckTW ckCL k662 := mt_103 (as := k662_a) (cs := k662_c) (gx := []) (f := 200000) rfl (ckHc (k507_ok l) (ckHc (k25_ok l) (fun _ h => absurd h List.not_mem_nil))) True.intro (by decide +kernel)
-- FarMachineModel.hole
noncomputable def k663 : ckCtr := (103, ([(0, (1, 0)), (1, (0, 0)), (2, (0, 1))], [], dC43, [(36, 36), (1001, 2147483647), (0, 0), (7, 7)], [([(7, (0, 0))], [], [])], [], [], [], 0, 0), [([], [(0, 4)], [(1, .inr (0, 3, 1))], [], [], [(-6, -6), (1, 1)], [([(6, (0, 0)), (7, (1, 1))], [(6, 5)], [])], [], [], [], 0, 0)], 2, 101, 0, 0)
noncomputable def k663_a : ckAs := []
noncomputable def k663_c : List (Nat × ckCtr) := [(3, k505), (57, k25)]
theorem k663_ok (l : Launch) : ckCtrOk l ckMT ckTW ckCL k663 := mt_103 (as := k663_a) (cs := k663_c) (gx := []) (f := 200000) rfl (ckHc (k505_ok l) (ckHc (k25_ok l) (fun _ h => absurd h List.not_mem_nil))) True.intro (by decide +kernel)
-- FarMachineModel.hole
noncomputable def k664 : ckCtr := (103, ([(0, (1, 0)), (1, (0, 0)), (2, (0, 1))], [], dC43, [(37, 37), (1001, 2147483647), (0, 0), (7, 7)], [([(7, (0, 0))], [], [])], [], [], [], 0, 0), [([], [(0, 4)], [(1, .inr (0, 3, 1))], [], [], [(-6, -6), (1, 1)], [([(6, (0, 0)), (7, (1, 1))], [(6, 5)], [])], [], [], [], 0, 0)], 2, 101, 0, 0)
noncomputable def k664_a : ckAs := []
noncomputable def k664_c : List (Nat × ckCtr) := [(3, k503), (57, k25)]
theorem k664_ok (l : Launch) : ckCtrOk l ckMT ckTW ckCL k664 := mt_103 (as := k664_a) (cs := k664_c) (gx := []) (f := 200000) rfl (ckHc (k503_ok l) (ckHc (k25_ok l) (fun _ h => absurd h List.not_mem_nil))) True.intro (by decide +kernel)
-- FarMachineModel.hole
noncomputable def k665 : ckCtr := (103, ([(0, (1, 0)), (1, (0, 0)), (2, (0, 1))], [], dC43, [(38, 38), (1001, 2147483647), (0, 0), (7, 7)], [([(7, (0, 0))], [], [])], [], [], [], 0, 0), [([], [(0, 4)], [(1, .inr (0, 3, 1))], [], [], [(-6, -6), (1, 1)], [([(6, (0, 0)), (7, (1, 1))], [(6, 5)], [])], [], [], [], 0, 0)], 2, 101, 0, 0)
noncomputable def k665_a : ckAs := []
noncomputable def k665_c : List (Nat × ckCtr) := [(3, k501), (57, k25)]
theorem k665_ok (l : Launch) : ckCtrOk l ckMT ckTW ckCL k665 := mt_103 (as := k665_a) (cs := k665_c) (gx := []) (f := 200000) rfl (ckHc (k501_ok l) (ckHc (k25_ok l) (fun _ h => absurd h List.not_mem_nil))) True.intro (by decide +kernel)
-- FarMachineModel.hole
noncomputable def k666 : ckCtr := (103, ([(0, (1, 0)), (1, (0, 0)), (2, (0, 1))], [], dC43, [(39, 39), (1001, 2147483647), (0, 0), (7, 7)], [([(7, (0, 0))], [], [])], [], [], [], 0, 0), [([], [(0, 4)], [(1, .inr (0, 3, 1))], [], [], [(-6, -6), (1, 1)], [([(6, (0, 0)), (7, (1, 1))], [(6, 5)], [])], [], [], [], 0, 0)], 2, 101, 0, 0)
noncomputable def k666_a : ckAs := []
noncomputable def k666_c : List (Nat × ckCtr) := [(3, k499), (57, k25)]
theorem k666_ok (l : Launch) : ckCtrOk l ckMT ckTW ckCL k666 := mt_103 (as := k666_a) (cs := k666_c) (gx := []) (f := 200000) rfl (ckHc (k499_ok l) (ckHc (k25_ok l) (fun _ h => absurd h List.not_mem_nil))) True.intro (by decide +kernel)
-- FarMachineModel.hole
noncomputable def k667 : ckCtr := (103, ([(0, (1, 0)), (1, (0, 0)), (2, (0, 1))], [], dC43, [(40, 40), (1001, 2147483647), (0, 0), (7, 7)], [([(7, (0, 0))], [], [])], [], [], [], 0, 0), [([], [(0, 4)], [(1, .inr (0, 3, 1))], [], [], [(-6, -6), (1, 1)], [([(6, (0, 0)), (7, (1, 1))], [(6, 5)], [])], [], [], [], 0, 0)], 2, 101, 0, 0)
noncomputable def k667_a : ckAs := []
noncomputable def k667_c : List (Nat × ckCtr) := [(3, k497), (57, k25)]
theorem k667_ok (l : Launch) : ckCtrOk l ckMT ckTW ckCL k667 := mt_103 (as := k667_a) (cs := k667_c) (gx := []) (f := 200000) rfl (ckHc (k497_ok l) (ckHc (k25_ok l) (fun _ h => absurd h List.not_mem_nil))) True.intro (by decide +kernel)
-- FarMachineModel.hole
noncomputable def k668 : ckCtr := (103, ([(0, (1, 0)), (1, (0, 0)), (2, (0, 1))], [], dC43, [(41, 41), (1001, 2147483647), (0, 0), (7, 7)], [([(7, (0, 0))], [], [])], [], [], [], 0, 0), [([], [(0, 4)], [(1, .inr (0, 3, 1))], [], [], [(-6, -6), (1, 1)], [([(6, (0, 0)), (7, (1, 1))], [(6, 5)], [])], [], [], [], 0, 0)], 2, 101, 0, 0)
noncomputable def k668_a : ckAs := []
noncomputable def k668_c : List (Nat × ckCtr) := [(3, k495), (57, k25)]
theorem k668_ok (l : Launch) : ckCtrOk l ckMT ckTW ckCL k668 := mt_103 (as := k668_a) (cs := k668_c) (gx := []) (f := 200000) rfl (ckHc (k495_ok l) (ckHc (k25_ok l) (fun _ h => absurd h List.not_mem_nil))) True.intro (by decide +kernel)
-- FarMachineModel.hole
noncomputable def k669 : ckCtr := (103, ([(0, (1, 0)), (1, (0, 0)), (2, (0, 1))], [], dC43, [(42, 42), (1001, 2147483647), (0, 0), (7, 7)], [([(7, (0, 0))], [], [])], [], [], [], 0, 0), [([], [(0, 4)], [(1, .inr (0, 3, 1))], [], [], [(-6, -6), (1, 1)], [([(6, (0, 0)), (7, (1, 1))], [(6, 5)], [])], [], [], [], 0, 0)], 2, 101, 0, 0)
noncomputable def k669_a : ckAs := []
noncomputable def k669_c : List (Nat × ckCtr) := [(3, k493), (57, k25)]
theorem k669_ok (l : Launch) : ckCtrOk l ckMT ckTW ckCL k669 := mt_103 (as := k669_a) (cs := k669_c) (gx := []) (f := 200000) rfl (ckHc (k493_ok l) (ckHc (k25_ok l) (fun _ h => absurd h List.not_mem_nil))) True.intro (by decide +kernel)
-- FarMachineModel.hole
noncomputable def k670 : ckCtr := (103, ([(0, (1, 0)), (1, (0, 0)), (2, (0, 1))], [], dC43, [(43, 43), (1001, 2147483647), (0, 0), (7, 7)], [([(7, (0, 0))], [], [])], [], [], [], 0, 0), [([], [(0, 4)], [(1, .inr (0, 3, 1))], [], [], [(-6, -6), (1, 1)], [([(6, (0, 0)), (7, (1, 1))], [(6, 5)], [])], [], [], [], 0, 0)], 2, 101, 0, 0)
noncomputable def k670_a : ckAs := []
noncomputable def k670_c : List (Nat × ckCtr) := [(3, k491), (57, k25)]
theorem k670_ok (l : Launch) : ckCtrOk l ckMT ckTW ckCL k670 := mt_103 (as := k670_a) (cs := k670_c) (gx := []) (f := 200000) rfl (ckHc (k491_ok l) (ckHc (k25_ok l) (fun _ h => absurd h List.not_mem_nil))) True.intro (by decide +kernel)
-- FarMachineModel.hole
noncomputable def k671 : ckCtr := (103, ([(0, (1, 0)), (1, (0, 0)), (2, (0, 1))], [], dC43, [(44, 44), (1001, 2147483647), (0, 0), (7, 7)], [([(7, (0, 0))], [], [])], [], [], [], 0, 0), [([], [(0, 4)], [(1, .inr (0, 3, 1))], [], [], [(-6, -6), (1, 1)], [([(6, (0, 0)), (7, (1, 1))], [(6, 5)], [])], [], [], [], 0, 0)], 2, 101, 0, 0)
noncomputable def k671_a : ckAs := []
noncomputable def k671_c : List (Nat × ckCtr) := [(3, k489), (57, k25)]
theorem k671_ok (l : Launch) : ckCtrOk l ckMT ckTW ckCL k671 := mt_103 (as := k671_a) (cs := k671_c) (gx := []) (f := 200000) rfl (ckHc (k489_ok l) (ckHc (k25_ok l) (fun _ h => absurd h List.not_mem_nil))) True.intro (by decide +kernel)
-- FarMachineModel.hole
noncomputable def k672 : ckCtr := (103, ([(0, (1, 0)), (1, (0, 0)), (2, (0, 1))], [], dC43, [(45, 45), (1001, 2147483647), (0, 0), (7, 7)], [([(7, (0, 0))], [], [])], [], [], [], 0, 0), [([], [(0, 4)], [(1, .inr (0, 3, 1))], [], [], [(-6, -6), (1, 1)], [([(6, (0, 0)), (7, (1, 1))], [(6, 5)], [])], [], [], [], 0, 0)], 2, 101, 0, 0)
noncomputable def k672_a : ckAs := []
noncomputable def k672_c : List (Nat × ckCtr) := [(3, k487), (57, k25)]
theorem k672_ok (l : Launch) : ckCtrOk l ckMT ckTW ckCL k672 := mt_103 (as := k672_a) (cs := k672_c) (gx := []) (f := 200000) rfl (ckHc (k487_ok l) (ckHc (k25_ok l) (fun _ h => absurd h List.not_mem_nil))) True.intro (by decide +kernel)
-- FarMachineModel.hole
noncomputable def k673 : ckCtr := (103, ([(0, (1, 0)), (1, (0, 0)), (2, (0, 1))], [], dC43, [(46, 46), (1001, 2147483647), (0, 0), (7, 7)], [([(7, (0, 0))], [], [])], [], [], [], 0, 0), [([], [(0, 4)], [(1, .inr (0, 3, 1))], [], [], [(-6, -6), (1, 1)], [([(6, (0, 0)), (7, (1, 1))], [(6, 5)], [])], [], [], [], 0, 0)], 2, 101, 0, 0)
noncomputable def k673_a : ckAs := []
noncomputable def k673_c : List (Nat × ckCtr) := [(3, k485), (57, k25)]
theorem k673_ok (l : Launch) : ckCtrOk l ckMT ckTW ckCL k673 := mt_103 (as := k673_a) (cs := k673_c) (gx := []) (f := 200000) rfl (ckHc (k485_ok l) (ckHc (k25_ok l) (fun _ h => absurd h List.not_mem_nil))) True.intro (by decide +kernel)
-- FarMachineModel.hole
noncomputable def k674 : ckCtr := (103, ([(0, (1, 0)), (1, (0, 0)), (2, (0, 1))], [], dC43, [(47, 47), (1001, 2147483647), (0, 0), (7, 7)], [([(7, (0, 0))], [], [])], [], [], [], 0, 0), [([], [(0, 4)], [(1, .inr (0, 3, 1))], [], [], [(-6, -6), (1, 1)], [([(6, (0, 0)), (7, (1, 1))], [(6, 5)], [])], [], [], [], 0, 0)], 2, 101, 0, 0)
noncomputable def k674_a : ckAs := []
noncomputable def k674_c : List (Nat × ckCtr) := [(3, k483), (57, k25)]
theorem k674_ok (l : Launch) : ckCtrOk l ckMT ckTW ckCL k674 := mt_103 (as := k674_a) (cs := k674_c) (gx := []) (f := 200000) rfl (ckHc (k483_ok l) (ckHc (k25_ok l) (fun _ h => absurd h List.not_mem_nil))) True.intro (by decide +kernel)
-- FarMachineModel.hole
noncomputable def k675 : ckCtr := (103, ([(0, (1, 0)), (1, (0, 0)), (2, (0, 1))], [], dC43, [(0, 47), (-2147483648, 0), (0, 0), (7, 7)], [([(7, (0, 0))], [], [])], [], [], [], 0, 0), [([], [(0, 4)], [(1, .inr (0, 3, 1))], [], [], [(-4, -4), (1, 1)], [([(4, (0, 0)), (5, (1, 1)), (7, (0, 0))], [(4, 5)], [])], [], [], [], 0, 0)], 2, 101, 0, 0)
noncomputable def k675_a : ckAs := []
noncomputable def k675_c : List (Nat × ckCtr) := [(3, k21), (57, k28)]
theorem k675_ok (l : Launch) : ckCtrOk l ckMT ckTW ckCL k675 := mt_103 (as := k675_a) (cs := k675_c) (gx := []) (f := 200000) rfl (ckHc (k21_ok l) (ckHc (k28_ok l) (fun _ h => absurd h List.not_mem_nil))) True.intro (by decide +kernel)
-- FarMachineModel.hole
noncomputable def k676 : ckCtr := (103, ([(0, (1, 0)), (1, (0, 0)), (2, (0, 1))], [], dC43, [(48, 2147483647), ckTop, (0, 0), (7, 7)], [([(7, (0, 0))], [], [])], [], [], [], 0, 0), [([], [(0, 4)], [(1, .inr (0, 3, 1))], [], [], [(-1, -1), (1, 1)], [([(1, (0, 0)), (2, (1, 1)), (7, (0, 0))], [(1, 5)], [])], [], [], [], 0, 0)], 2, 101, 0, 0)
noncomputable def k676_a : ckAs := []
noncomputable def k676_c : List (Nat × ckCtr) := [(3, k30), (57, k31)]
theorem k676_ok (l : Launch) : ckCtrOk l ckMT ckTW ckCL k676 := mt_103 (as := k676_a) (cs := k676_c) (gx := []) (f := 200000) rfl (ckHc (k30_ok l) (ckHc (k31_ok l) (fun _ h => absurd h List.not_mem_nil))) True.intro (by decide +kernel)
-- FarMachineModel.hole
noncomputable def k677 : ckCtr := (103, ([(0, (1, 0)), (1, (0, 0)), (2, (0, 1))], [], dC43, [(-2147483648, -1), ckTop, (0, 0), (7, 7)], [([(7, (0, 0))], [], [])], [], [], [], 0, 0), [([], [(0, 4)], [(1, .inr (0, 3, 1))], [], [], [(-1, -1), (1, 1)], [([(1, (0, 0)), (2, (1, 1)), (7, (0, 0))], [(1, 5)], [])], [], [], [], 0, 0)], 2, 101, 0, 0)
noncomputable def k677_a : ckAs := []
noncomputable def k677_c : List (Nat × ckCtr) := [(3, k33), (57, k31)]
theorem k677_ok (l : Launch) : ckCtrOk l ckMT ckTW ckCL k677 := mt_103 (as := k677_a) (cs := k677_c) (gx := []) (f := 200000) rfl (ckHc (k33_ok l) (ckHc (k31_ok l) (fun _ h => absurd h List.not_mem_nil))) True.intro (by decide +kernel)
noncomputable def dC418 : List ckC := [.inl (7, [(4, 10), (4, 11), (0, 1), (4, 12), (4, 13), (4, 14), (4, 15), (4, 16), (4, 17), (1, 1)]), .inl (0, [(4, 18), (0, 1)])]
-- FarMachine$World.fewestHolesFor
noncomputable def k678 : ckCtr := (188, ([(0, (1, 0)), (1, (0, 0))], [], dC418, [(1, 40), (0, 0)], [], [], [], [], 0, 0), [([], [(0, 2)], [], [], [], [(-9, -9)], [], [], [], [], 0, 0)], 1, 80, 0, 0)
noncomputable def k678_a : ckAs := []
noncomputable def k678_c : List (Nat × ckCtr) := []
theorem k678_ok (l : Launch) : ckCtrOk l ckMT ckTW ckCL k678 := mt_188 (as := k678_a) (cs := k678_c) (gx := []) (f := 200000) rfl (fun _ h => absurd h List.not_mem_nil) True.intro (by decide +kernel)
noncomputable def dC419 : List ckC := [.inl (8, [(1, 1), (4, 10), (0, 1), (4, 11), (4, 12), (4, 13), (4, 14), (1, 2)]), .inl (7, [(4, 15), (4, 16), (0, 1), (4, 17), (4, 18), (4, 19), (4, 20), (4, 21), (4, 22), (1, 3)]), .inr (0, 2, 0), .inl (0, [(4, 23), (0, 1)])]
-- FarMachine.fewest
noncomputable def k679 : ckCtr := (26, ([(0, (1, 0)), (1, (0, 0))], [], dC419, [ckTop, (0, 0), (7, 7)], [([(7, (0, 0))], [], [])], [], [], [], 0, 0), [([], [(0, 3)], [(2, .inr (0, 2, 1))], [], [(0, (-2147483648, 0))], [(-4, -4), (1, 1)], [([(4, (0, 0)), (5, (1, 1)), (7, (0, 0))], [(4, 4)], [])], [], [], [], 0, 0), ([], [(0, 3)], [(2, .inr (0, 2, 1))], [], [(0, (41, 2147483647))], [(-6, -6), (1, 1)], [([(6, (0, 0)), (7, (1, 1))], [(6, 4)], [])], [], [], [], 0, 0), ([], [(0, 3)], [], [], [(0, (1, 40))], [(-9, -9)], [], [], [], [], 0, 0)], 2, 105, 0, 0)
noncomputable def k679_a : ckAs := []
noncomputable def k679_c : List (Nat × ckCtr) := [(8, k15), (21, k16), (32, k678)]
theorem k679_ok (l : Launch) : ckCtrOk l ckMT ckTW ckCL k679 := mt_26 (as := k679_a) (cs := k679_c) (gx := []) (f := 200000) rfl (ckHc (k15_ok l) (ckHc (k16_ok l) (ckHc (k678_ok l) (fun _ h => absurd h List.not_mem_nil)))) True.intro (by decide +kernel)
-- FarMachineModel.within
noncomputable def k680 : ckCtr := (46, ([(0, (0, 0)), (1, (0, 1)), (2, (0, 2))], [], [], [(1, 40), (1, 1), (40, 40)], [], [], [], [], 0, 0), [([], [(0, 3)], [], [], [], [(0, 0)], [], [], [], [], 0, 0)], 1, 80, 0, 0)
noncomputable def k680_a : ckAs := []
noncomputable def k680_c : List (Nat × ckCtr) := []
theorem k680_ok (l : Launch) : ckCtrOk l ckMT ckTW ckCL k680 := mt_46 (as := k680_a) (cs := k680_c) (gx := []) (f := 200000) rfl (fun _ h => absurd h List.not_mem_nil) True.intro (by decide +kernel)
-- FarMachineModel.fewest
noncomputable def k681 : ckCtr := (104, ([(0, (1, 0)), (1, (0, 0))], [], dC330, [(1, 40), (0, 0)], [], [], [], [], 0, 0), [([], [(0, 2)], [], [], [], [(-9, -9)], [], [], [], [], 0, 0)], 2, 102, 0, 0)
noncomputable def k681_a : ckAs := []
noncomputable def k681_c : List (Nat × ckCtr) := [(4, k680)]
theorem k681_ok (l : Launch) : ckCtrOk l ckMT ckTW ckCL k681 := mt_104 (as := k681_a) (cs := k681_c) (gx := []) (f := 200000) rfl (ckHc (k680_ok l) (fun _ h => absurd h List.not_mem_nil)) True.intro (by decide +kernel)
-- FarMachineModel.within
noncomputable def k682 : ckCtr := (46, ([(0, (0, 0)), (1, (0, 1)), (2, (0, 2))], [], [], [(41, 2147483647), (1, 1), (40, 40)], [], [], [], [], 0, 0), [([], [(0, 3)], [], [], [], [(-6, -6)], [], [], [], [], 0, 0)], 1, 80, 0, 0)
noncomputable def k682_a : ckAs := []
noncomputable def k682_c : List (Nat × ckCtr) := []
theorem k682_ok (l : Launch) : ckCtrOk l ckMT ckTW ckCL k682 := mt_46 (as := k682_a) (cs := k682_c) (gx := []) (f := 200000) rfl (fun _ h => absurd h List.not_mem_nil) True.intro (by decide +kernel)
-- FarMachineModel.fewest
noncomputable def k683 : ckCtr := (104, ([(0, (1, 0)), (1, (0, 0))], [], dC42, [(41, 2147483647), (0, 0), (7, 7)], [([(7, (0, 0))], [], [])], [], [], [], 0, 0), [([], [(0, 3)], [(1, .inr (0, 2, 1))], [], [], [(-6, -6), (1, 1)], [([(6, (0, 0)), (7, (1, 1))], [(6, 4)], [])], [], [], [], 0, 0)], 2, 102, 0, 0)
noncomputable def k683_a : ckAs := []
noncomputable def k683_c : List (Nat × ckCtr) := [(4, k682), (14, k25)]
theorem k683_ok (l : Launch) : ckCtrOk l ckMT ckTW ckCL k683 := mt_104 (as := k683_a) (cs := k683_c) (gx := []) (f := 200000) rfl (ckHc (k682_ok l) (ckHc (k25_ok l) (fun _ h => absurd h List.not_mem_nil))) True.intro (by decide +kernel)
-- FarMachineModel.within
noncomputable def k684 : ckCtr := (46, ([(0, (0, 0)), (1, (0, 1)), (2, (0, 2))], [], [], [(-2147483648, 0), (1, 1), (40, 40)], [], [], [], [], 0, 0), [([], [(0, 3)], [], [], [], [(-4, -4)], [], [], [], [], 0, 0)], 1, 80, 0, 0)
noncomputable def k684_a : ckAs := []
noncomputable def k684_c : List (Nat × ckCtr) := []
theorem k684_ok (l : Launch) : ckCtrOk l ckMT ckTW ckCL k684 := mt_46 (as := k684_a) (cs := k684_c) (gx := []) (f := 200000) rfl (fun _ h => absurd h List.not_mem_nil) True.intro (by decide +kernel)
-- FarMachineModel.fewest
noncomputable def k685 : ckCtr := (104, ([(0, (1, 0)), (1, (0, 0))], [], dC42, [(-2147483648, 0), (0, 0), (7, 7)], [([(7, (0, 0))], [], [])], [], [], [], 0, 0), [([], [(0, 3)], [(1, .inr (0, 2, 1))], [], [], [(-4, -4), (1, 1)], [([(4, (0, 0)), (5, (1, 1)), (7, (0, 0))], [(4, 4)], [])], [], [], [], 0, 0)], 2, 102, 0, 0)
noncomputable def k685_a : ckAs := []
noncomputable def k685_c : List (Nat × ckCtr) := [(4, k684), (14, k28)]
theorem k685_ok (l : Launch) : ckCtrOk l ckMT ckTW ckCL k685 := mt_104 (as := k685_a) (cs := k685_c) (gx := []) (f := 200000) rfl (ckHc (k684_ok l) (ckHc (k28_ok l) (fun _ h => absurd h List.not_mem_nil))) True.intro (by decide +kernel)
-- java/lang/Integer.bitCount
noncomputable def k686 : ckCtr := (193, ([(0, (0, 0))], [], [], [(0, 255)], [], [], [], [], 0, 0), [([], [(0, 1)], [], [], [], [(0, 63)], [], [], [], [], 0, 0)], 1, 80, 0, 0)
noncomputable def k686_a : ckAs := []
noncomputable def k686_c : List (Nat × ckCtr) := []
theorem k686_ok (l : Launch) : ckCtrOk l ckMT ckTW ckCL k686 := mt_193 (as := k686_a) (cs := k686_c) (gx := []) (f := 200000) rfl (fun _ h => absurd h List.not_mem_nil) True.intro (by decide +kernel)
noncomputable def dT420 : List ckI := [(0, 99), (0, 0), (50, 50), (60, 60), (10, 10), (24, 24), (200, 200), (9, 9)]
-- FarMachine$Machine.leastOffFor
noncomputable def k687 : ckCtr := (148, ([(0, (1, 0)), (1, (0, 0))], [], dC53, dT420, [], [], [], [], 0, 0), [([], [(0, 1)], [], [], [], [], [], [], [], [], 0, 0)], 2, 100, 0, 0)
noncomputable def k687_a : ckAs := [(7, [(454742, [(1, 0, 0, ([(0, (1, 0)), (1, (0, 0)), (2, (0, 1)), (3, (0, 9))], [], [], [], [], [(0, 256)], [], [], [], [], 0, 0))])])]
noncomputable def k687_c : List (Nat × ckCtr) := [(38, k686), (42, k167)]
theorem k687_ok (l : Launch) : ckCtrOk l ckMT ckTW ckCL k687 := mt_148 (as := k687_a) (cs := k687_c) (gx := []) (f := 200000) rfl (ckHc (k686_ok l) (ckHc (k167_ok l) (fun _ h => absurd h List.not_mem_nil))) True.intro (by decide +kernel)
noncomputable def dC421 : List ckC := [.inl (8, [(1, 1), (4, 10), (0, 1), (4, 11), (4, 12), (4, 13), (4, 14), (1, 2)]), .inl (7, [(1, 3), (4, 15), (0, 1), (4, 16), (4, 17), (4, 18), (4, 19), (4, 20), (4, 21), (4, 22)]), .inr (0, 2, 0), .inl (2, [(4, 23), (4, 24), (4, 25), (0, 1), (0, 1), (0, 1), (0, 3), (0, 4), (0, 1), (0, 1), (0, 5), (0, 6), (0, 7), (0, 8), (0, 1), (0, 1)])]
noncomputable def dT422 : List ckI := [ckTop, (0, 0), (7, 7), (50, 50), (60, 60), (10, 10), (24, 24), (200, 200), (9, 9)]
-- FarMachine.keep
noncomputable def k688 : ckCtr := (27, ([(0, (1, 0)), (1, (0, 0))], [], dC421, dT422, [([(7, (0, 0))], [], [])], [], [], [], 0, 0), [([], [(0, 9)], [(2, .inr (0, 2, 1))], [], [(0, (-2147483648, -1))], [(-4, -4), (1, 1)], [([(4, (0, 0)), (5, (1, 1)), (7, (0, 0))], [(4, 10)], [])], [], [], [], 0, 0), ([], [(0, 9)], [(2, .inr (0, 2, 1))], [], [(0, (100, 2147483647))], [(-6, -6), (1, 1)], [([(6, (0, 0)), (7, (1, 1))], [(6, 10)], [])], [], [], [], 0, 0), ([], [(0, 1)], [], [], [(0, (0, 99))], [], [], [], [], [], 0, 0)], 3, 124, 0, 0)
noncomputable def k688_a : ckAs := []
noncomputable def k688_c : List (Nat × ckCtr) := [(7, k15), (20, k16), (34, k687)]
theorem k688_ok (l : Launch) : ckCtrOk l ckMT ckTW ckCL k688 := mt_27 (as := k688_a) (cs := k688_c) (gx := []) (f := 200000) rfl (ckHc (k15_ok l) (ckHc (k16_ok l) (ckHc (k687_ok l) (fun _ h => absurd h List.not_mem_nil)))) True.intro (by decide +kernel)
-- FarMachineModel.bits
noncomputable def k689 : ckCtr := (48, ([(0, (0, 0))], [], [], [(1, 255)], [], [], [], [], 0, 0), [([], [(0, 1)], [], [], [(0, (2, 255))], [(0, 8)], [], [], [], [], 0, 0), ([], [(0, 1)], [], [], [], [(0, 1)], [], [], [], [], 0, 0)], 1, 80, 0, 0)
noncomputable def k689_a : ckAs := []
noncomputable def k689_c : List (Nat × ckCtr) := []
noncomputable def k689_u0 : ckCut := (4, ([(0, (0, 0)), (1, (0, 1)), (2, (0, 2))], [], [], [(2, 255), (0, 8), (0, 0)], [], [], [], [], 0, 0), 1, 0, 0, 0)
noncomputable def k689_g0 : List ckCut := [k689_u0]
theorem k689_t0 : ckRun es_48 k689_a k689_c [] 3 1 80 0 0 (ckEndF 1 0 0 k689.2.1 k689.2.2.1) ckKs ckKc 200000 0 4 k689_u0.2.1 [] = true := by decide +kernel
theorem k689_ok (l : Launch) : ckCtrOk l ckMT ckTW ckCL k689 := mt_48 (as := k689_a) (cs := k689_c) (gx := k689_g0) (f := 200000) rfl (fun _ h => absurd h List.not_mem_nil) ⟨k689_t0, True.intro⟩ (by decide +kernel)
-- FarMachineModel.keep
noncomputable def k690 : ckCtr := (105, ([(0, (1, 0)), (1, (0, 0))], [], dC46, [(0, 99), (0, 0), (318, 318)], dG40, [], [], [], 0, 0), [([], [(0, 1)], [], [], [], [], [], [], [], [], 0, 0)], 2, 102, 0, 0)
noncomputable def k690_a : ckAs := [(72, [(528137, [(1, 0, 0, ([(0, (1, 0)), (1, (0, 0)), (2, (0, 3)), (3, (0, 5)), (4, (0, 6)), (5, (0, 1)), (6, (0, 14))], [], [], [], [], [(0, 8)], [], [], [], [], 0, 0))])]), (24, [(375238, [(1, 0, 0, ([(0, (1, 0)), (1, (0, 0)), (2, (0, 3)), (3, (0, 6)), (4, (0, 17)), (5, (0, 1)), (6, (0, 14))], [], [], [], [], [(1, 256)], [], [], [], [], 0, 0))])])]
noncomputable def k690_c : List (Nat × ckCtr) := [(4, k79), (38, k148), (53, k689), (57, k186), (116, k144)]
theorem k690_ok (l : Launch) : ckCtrOk l ckMT ckTW ckCL k690 := mt_105 (as := k690_a) (cs := k690_c) (gx := []) (f := 200000) rfl (ckHc (k79_ok l) (ckHc (k148_ok l) (ckHc (k689_ok l) (ckHc (k186_ok l) (ckHc (k144_ok l) (fun _ h => absurd h List.not_mem_nil)))))) True.intro (by decide +kernel)
-- FarMachineModel.keep
noncomputable def k691 : ckCtr := (105, ([(0, (1, 0)), (1, (0, 0))], [], dC42, [(100, 2147483647), (0, 0), (7, 7)], [([(7, (0, 0))], [], [])], [], [], [], 0, 0), [([], [(0, 3)], [(1, .inr (0, 2, 1))], [], [], [(-6, -6), (1, 1)], [([(6, (0, 0)), (7, (1, 1))], [(6, 4)], [])], [], [], [], 0, 0)], 2, 102, 0, 0)
noncomputable def k691_a : ckAs := []
noncomputable def k691_c : List (Nat × ckCtr) := [(4, k93), (14, k25)]
theorem k691_ok (l : Launch) : ckCtrOk l ckMT ckTW ckCL k691 := mt_105 (as := k691_a) (cs := k691_c) (gx := []) (f := 200000) rfl (ckHc (k93_ok l) (ckHc (k25_ok l) (fun _ h => absurd h List.not_mem_nil))) True.intro (by decide +kernel)
-- FarMachineModel.keep
noncomputable def k692 : ckCtr := (105, ([(0, (1, 0)), (1, (0, 0))], [], dC42, [(-2147483648, -1), (0, 0), (7, 7)], [([(7, (0, 0))], [], [])], [], [], [], 0, 0), [([], [(0, 3)], [(1, .inr (0, 2, 1))], [], [], [(-4, -4), (1, 1)], [([(4, (0, 0)), (5, (1, 1)), (7, (0, 0))], [(4, 4)], [])], [], [], [], 0, 0)], 2, 102, 0, 0)
noncomputable def k692_a : ckAs := []
noncomputable def k692_c : List (Nat × ckCtr) := [(4, k111), (14, k28)]
theorem k692_ok (l : Launch) : ckCtrOk l ckMT ckTW ckCL k692 := mt_105 (as := k692_a) (cs := k692_c) (gx := []) (f := 200000) rfl (ckHc (k111_ok l) (ckHc (k28_ok l) (fun _ h => absurd h List.not_mem_nil))) True.intro (by decide +kernel)
-- FarMachine$Machine.sumOf
noncomputable def k693 : ckCtr := (135, ([(0, (1, 0)), (1, (4, 1)), (2, (0, 0))], [], dC107, dT108, [([(8, (0, 0))], [], [])], [], [], [], 0, 0), [([], [(0, 0)], [], [], [], [], [], [], [], [], 0, 0)], 1, 80, 0, 0)
noncomputable def k693_a : ckAs := []
noncomputable def k693_c : List (Nat × ckCtr) := []
noncomputable def k693_u0 : ckCut := (5, ([(0, (1, 0)), (1, (4, 1)), (2, (0, 0)), (3, (0, 0)), (4, (0, 8)), (5, (0, 0))], [], dC107, dT109, [([(8, (0, 0))], [], [])], [], [], [], 0, 0), 8, 1, 0, 0)
noncomputable def k693_g0 : List ckCut := [k693_u0]
theorem k693_t0 : ckRun es_135 k693_a k693_c [] 6 1 80 0 0 (ckEndF 1 0 0 k693.2.1 k693.2.2.1) ckKs ckKc 200000 0 5 k693_u0.2.1 [] = true := by decide +kernel
theorem k693_ok (l : Launch) : ckCtrOk l ckMT ckTW ckCL k693 := mt_135 (as := k693_a) (cs := k693_c) (gx := k693_g0) (f := 200000) rfl (fun _ h => absurd h List.not_mem_nil) ⟨k693_t0, True.intro⟩ (by decide +kernel)
-- FarMachine$Machine.sumOn
noncomputable def k694 : ckCtr := (134, ([(0, (1, 0)), (1, (4, 1))], [], dC107, dT108, [([(8, (0, 0))], [], [])], [], [], [], 0, 0), [([], [(0, 0)], [], [], [], [], [], [], [], [], 0, 0)], 2, 105, 0, 0)
noncomputable def k694_a : ckAs := []
noncomputable def k694_c : List (Nat × ckCtr) := [(6, k693)]
theorem k694_ok (l : Launch) : ckCtrOk l ckMT ckTW ckCL k694 := mt_134 (as := k694_a) (cs := k694_c) (gx := []) (f := 200000) rfl (ckHc (k693_ok l) (fun _ h => absurd h List.not_mem_nil)) True.intro (by decide +kernel)
-- FarMachine.held
noncomputable def k695 : ckCtr := (41, ([(0, (0, 0)), (1, (0, 1)), (2, (0, 2))], [], [], [(0, 0), (48, 48), (99, 99)], [], [], [], [], 0, 0), [([], [(0, 1)], [], [], [], [], [], [], [], [], 0, 0)], 1, 80, 0, 0)
noncomputable def k695_a : ckAs := []
noncomputable def k695_c : List (Nat × ckCtr) := []
theorem k695_ok (l : Launch) : ckCtrOk l ckMT ckTW ckCL k695 := mt_41 (as := k695_a) (cs := k695_c) (gx := []) (f := 200000) rfl (fun _ h => absurd h List.not_mem_nil) True.intro (by decide +kernel)
noncomputable def dC423 : List ckC := [.inl (2, [(4, 10), (1, 1), (4, 11), (0, 1), (0, 1), (0, 1), (0, 0), (0, 2), (0, 1), (0, 1), (0, 3), (0, 4), (0, 5), (0, 6), (0, 1), (0, 1)]), .inr (0, 7, 0)]
noncomputable def dT424 : List ckI := [(50, 50), (0, 0), (60, 60), (10, 10), (24, 24), (200, 200), (9, 9), (8, 8)]
-- FarMachine$Machine.heatAfter
noncomputable def k696 : ckCtr := (143, ([(0, (1, 0)), (1, (0, 0))], [], dC423, dT424, [([(8, (0, 0))], [], [])], [], [], [], 0, 0), [([], [(0, 8)], [], [], [], [(48, 48)], [], [], [], [], 0, 0)], 3, 126, 0, 0)
noncomputable def k696_a : ckAs := []
noncomputable def k696_c : List (Nat × ckCtr) := [(6, k694), (14, k695)]
theorem k696_ok (l : Launch) : ckCtrOk l ckMT ckTW ckCL k696 := mt_143 (as := k696_a) (cs := k696_c) (gx := []) (f := 200000) rfl (ckHc (k694_ok l) (ckHc (k695_ok l) (fun _ h => absurd h List.not_mem_nil))) True.intro (by decide +kernel)
-- FarMachine.held
noncomputable def k697 : ckCtr := (41, ([(0, (0, 0)), (1, (0, 1)), (2, (0, 2))], [], [], [(0, 0), (46, 46), (99, 99)], [], [], [], [], 0, 0), [([], [(0, 1)], [], [], [], [], [], [], [], [], 0, 0)], 1, 80, 0, 0)
noncomputable def k697_a : ckAs := []
noncomputable def k697_c : List (Nat × ckCtr) := []
theorem k697_ok (l : Launch) : ckCtrOk l ckMT ckTW ckCL k697 := mt_41 (as := k697_a) (cs := k697_c) (gx := []) (f := 200000) rfl (fun _ h => absurd h List.not_mem_nil) True.intro (by decide +kernel)
noncomputable def dC425 : List ckC := [.inl (2, [(4, 10), (1, 1), (4, 11), (0, 1), (0, 1), (0, 1), (0, 2), (0, 3), (0, 1), (0, 1), (0, 4), (0, 5), (0, 6), (0, 7), (0, 1), (0, 1)]), .inr (0, 8, 0)]
noncomputable def dT426 : List ckI := [(48, 48), (0, 0), (50, 50), (60, 60), (10, 10), (24, 24), (200, 200), (9, 9), (8, 8)]
-- FarMachine$Machine.heatAfter
noncomputable def k698 : ckCtr := (143, ([(0, (1, 0)), (1, (0, 0))], [], dC425, dT426, [([(8, (0, 0))], [], [])], [], [], [], 0, 0), [([], [(0, 9)], [], [], [], [(46, 46)], [], [], [], [], 0, 0)], 3, 126, 0, 0)
noncomputable def k698_a : ckAs := []
noncomputable def k698_c : List (Nat × ckCtr) := [(6, k694), (14, k697)]
theorem k698_ok (l : Launch) : ckCtrOk l ckMT ckTW ckCL k698 := mt_143 (as := k698_a) (cs := k698_c) (gx := []) (f := 200000) rfl (ckHc (k694_ok l) (ckHc (k697_ok l) (fun _ h => absurd h List.not_mem_nil))) True.intro (by decide +kernel)
-- FarMachine.held
noncomputable def k699 : ckCtr := (41, ([(0, (0, 0)), (1, (0, 1)), (2, (0, 2))], [], [], [(0, 0), (44, 44), (99, 99)], [], [], [], [], 0, 0), [([], [(0, 1)], [], [], [], [], [], [], [], [], 0, 0)], 1, 80, 0, 0)
noncomputable def k699_a : ckAs := []
noncomputable def k699_c : List (Nat × ckCtr) := []
theorem k699_ok (l : Launch) : ckCtrOk l ckMT ckTW ckCL k699 := mt_41 (as := k699_a) (cs := k699_c) (gx := []) (f := 200000) rfl (fun _ h => absurd h List.not_mem_nil) True.intro (by decide +kernel)
noncomputable def dT427 : List ckI := [(46, 46), (0, 0), (50, 50), (60, 60), (10, 10), (24, 24), (200, 200), (9, 9), (8, 8)]
-- FarMachine$Machine.heatAfter
noncomputable def k700 : ckCtr := (143, ([(0, (1, 0)), (1, (0, 0))], [], dC425, dT427, [([(8, (0, 0))], [], [])], [], [], [], 0, 0), [([], [(0, 9)], [], [], [], [(44, 44)], [], [], [], [], 0, 0)], 3, 126, 0, 0)
noncomputable def k700_a : ckAs := []
noncomputable def k700_c : List (Nat × ckCtr) := [(6, k694), (14, k699)]
theorem k700_ok (l : Launch) : ckCtrOk l ckMT ckTW ckCL k700 := mt_143 (as := k700_a) (cs := k700_c) (gx := []) (f := 200000) rfl (ckHc (k694_ok l) (ckHc (k699_ok l) (fun _ h => absurd h List.not_mem_nil))) True.intro (by decide +kernel)
-- FarMachine.held
noncomputable def k701 : ckCtr := (41, ([(0, (0, 0)), (1, (0, 1)), (2, (0, 2))], [], [], [(0, 0), (42, 42), (99, 99)], [], [], [], [], 0, 0), [([], [(0, 1)], [], [], [], [], [], [], [], [], 0, 0)], 1, 80, 0, 0)
noncomputable def k701_a : ckAs := []
noncomputable def k701_c : List (Nat × ckCtr) := []
theorem k701_ok (l : Launch) : ckCtrOk l ckMT ckTW ckCL k701 := mt_41 (as := k701_a) (cs := k701_c) (gx := []) (f := 200000) rfl (fun _ h => absurd h List.not_mem_nil) True.intro (by decide +kernel)
noncomputable def dT428 : List ckI := [(44, 44), (0, 0), (50, 50), (60, 60), (10, 10), (24, 24), (200, 200), (9, 9), (8, 8)]
-- FarMachine$Machine.heatAfter
noncomputable def k702 : ckCtr := (143, ([(0, (1, 0)), (1, (0, 0))], [], dC425, dT428, [([(8, (0, 0))], [], [])], [], [], [], 0, 0), [([], [(0, 9)], [], [], [], [(42, 42)], [], [], [], [], 0, 0)], 3, 126, 0, 0)
noncomputable def k702_a : ckAs := []
noncomputable def k702_c : List (Nat × ckCtr) := [(6, k694), (14, k701)]
theorem k702_ok (l : Launch) : ckCtrOk l ckMT ckTW ckCL k702 := mt_143 (as := k702_a) (cs := k702_c) (gx := []) (f := 200000) rfl (ckHc (k694_ok l) (ckHc (k701_ok l) (fun _ h => absurd h List.not_mem_nil))) True.intro (by decide +kernel)
-- FarMachine.held
noncomputable def k703 : ckCtr := (41, ([(0, (0, 0)), (1, (0, 1)), (2, (0, 2))], [], [], [(0, 0), (40, 40), (99, 99)], [], [], [], [], 0, 0), [([], [(0, 1)], [], [], [], [], [], [], [], [], 0, 0)], 1, 80, 0, 0)
noncomputable def k703_a : ckAs := []
noncomputable def k703_c : List (Nat × ckCtr) := []
theorem k703_ok (l : Launch) : ckCtrOk l ckMT ckTW ckCL k703 := mt_41 (as := k703_a) (cs := k703_c) (gx := []) (f := 200000) rfl (fun _ h => absurd h List.not_mem_nil) True.intro (by decide +kernel)
noncomputable def dT429 : List ckI := [(42, 42), (0, 0), (50, 50), (60, 60), (10, 10), (24, 24), (200, 200), (9, 9), (8, 8)]
-- FarMachine$Machine.heatAfter
noncomputable def k704 : ckCtr := (143, ([(0, (1, 0)), (1, (0, 0))], [], dC425, dT429, [([(8, (0, 0))], [], [])], [], [], [], 0, 0), [([], [(0, 9)], [], [], [], [(40, 40)], [], [], [], [], 0, 0)], 3, 126, 0, 0)
noncomputable def k704_a : ckAs := []
noncomputable def k704_c : List (Nat × ckCtr) := [(6, k694), (14, k703)]
theorem k704_ok (l : Launch) : ckCtrOk l ckMT ckTW ckCL k704 := mt_143 (as := k704_a) (cs := k704_c) (gx := []) (f := 200000) rfl (ckHc (k694_ok l) (ckHc (k703_ok l) (fun _ h => absurd h List.not_mem_nil))) True.intro (by decide +kernel)
-- FarMachine.held
noncomputable def k705 : ckCtr := (41, ([(0, (0, 0)), (1, (0, 1)), (2, (0, 2))], [], [], [(0, 0), (38, 38), (99, 99)], [], [], [], [], 0, 0), [([], [(0, 1)], [], [], [], [], [], [], [], [], 0, 0)], 1, 80, 0, 0)
noncomputable def k705_a : ckAs := []
noncomputable def k705_c : List (Nat × ckCtr) := []
theorem k705_ok (l : Launch) : ckCtrOk l ckMT ckTW ckCL k705 := mt_41 (as := k705_a) (cs := k705_c) (gx := []) (f := 200000) rfl (fun _ h => absurd h List.not_mem_nil) True.intro (by decide +kernel)
noncomputable def dT430 : List ckI := [(40, 40), (0, 0), (50, 50), (60, 60), (10, 10), (24, 24), (200, 200), (9, 9), (8, 8)]
-- FarMachine$Machine.heatAfter
noncomputable def k706 : ckCtr := (143, ([(0, (1, 0)), (1, (0, 0))], [], dC425, dT430, [([(8, (0, 0))], [], [])], [], [], [], 0, 0), [([], [(0, 9)], [], [], [], [(38, 38)], [], [], [], [], 0, 0)], 3, 126, 0, 0)
noncomputable def k706_a : ckAs := []
noncomputable def k706_c : List (Nat × ckCtr) := [(6, k694), (14, k705)]
theorem k706_ok (l : Launch) : ckCtrOk l ckMT ckTW ckCL k706 := mt_143 (as := k706_a) (cs := k706_c) (gx := []) (f := 200000) rfl (ckHc (k694_ok l) (ckHc (k705_ok l) (fun _ h => absurd h List.not_mem_nil))) True.intro (by decide +kernel)
-- FarMachine.held
noncomputable def k707 : ckCtr := (41, ([(0, (0, 0)), (1, (0, 1)), (2, (0, 2))], [], [], [(0, 0), (36, 36), (99, 99)], [], [], [], [], 0, 0), [([], [(0, 1)], [], [], [], [], [], [], [], [], 0, 0)], 1, 80, 0, 0)
noncomputable def k707_a : ckAs := []
noncomputable def k707_c : List (Nat × ckCtr) := []
theorem k707_ok (l : Launch) : ckCtrOk l ckMT ckTW ckCL k707 := mt_41 (as := k707_a) (cs := k707_c) (gx := []) (f := 200000) rfl (fun _ h => absurd h List.not_mem_nil) True.intro (by decide +kernel)
noncomputable def dT431 : List ckI := [(38, 38), (0, 0), (50, 50), (60, 60), (10, 10), (24, 24), (200, 200), (9, 9), (8, 8)]
-- FarMachine$Machine.heatAfter
noncomputable def k708 : ckCtr := (143, ([(0, (1, 0)), (1, (0, 0))], [], dC425, dT431, [([(8, (0, 0))], [], [])], [], [], [], 0, 0), [([], [(0, 9)], [], [], [], [(36, 36)], [], [], [], [], 0, 0)], 3, 126, 0, 0)
noncomputable def k708_a : ckAs := []
noncomputable def k708_c : List (Nat × ckCtr) := [(6, k694), (14, k707)]
theorem k708_ok (l : Launch) : ckCtrOk l ckMT ckTW ckCL k708 := mt_143 (as := k708_a) (cs := k708_c) (gx := []) (f := 200000) rfl (ckHc (k694_ok l) (ckHc (k707_ok l) (fun _ h => absurd h List.not_mem_nil))) True.intro (by decide +kernel)
-- FarMachine.held
noncomputable def k709 : ckCtr := (41, ([(0, (0, 0)), (1, (0, 1)), (2, (0, 2))], [], [], [(0, 0), (34, 34), (99, 99)], [], [], [], [], 0, 0), [([], [(0, 1)], [], [], [], [], [], [], [], [], 0, 0)], 1, 80, 0, 0)
noncomputable def k709_a : ckAs := []
noncomputable def k709_c : List (Nat × ckCtr) := []
theorem k709_ok (l : Launch) : ckCtrOk l ckMT ckTW ckCL k709 := mt_41 (as := k709_a) (cs := k709_c) (gx := []) (f := 200000) rfl (fun _ h => absurd h List.not_mem_nil) True.intro (by decide +kernel)
noncomputable def dT432 : List ckI := [(36, 36), (0, 0), (50, 50), (60, 60), (10, 10), (24, 24), (200, 200), (9, 9), (8, 8)]
-- FarMachine$Machine.heatAfter
noncomputable def k710 : ckCtr := (143, ([(0, (1, 0)), (1, (0, 0))], [], dC425, dT432, [([(8, (0, 0))], [], [])], [], [], [], 0, 0), [([], [(0, 9)], [], [], [], [(34, 34)], [], [], [], [], 0, 0)], 3, 126, 0, 0)
noncomputable def k710_a : ckAs := []
noncomputable def k710_c : List (Nat × ckCtr) := [(6, k694), (14, k709)]
theorem k710_ok (l : Launch) : ckCtrOk l ckMT ckTW ckCL k710 := mt_143 (as := k710_a) (cs := k710_c) (gx := []) (f := 200000) rfl (ckHc (k694_ok l) (ckHc (k709_ok l) (fun _ h => absurd h List.not_mem_nil))) True.intro (by decide +kernel)
-- FarMachine.held
noncomputable def k711 : ckCtr := (41, ([(0, (0, 0)), (1, (0, 1)), (2, (0, 2))], [], [], [(0, 0), (32, 32), (99, 99)], [], [], [], [], 0, 0), [([], [(0, 1)], [], [], [], [], [], [], [], [], 0, 0)], 1, 80, 0, 0)
noncomputable def k711_a : ckAs := []
noncomputable def k711_c : List (Nat × ckCtr) := []
theorem k711_ok (l : Launch) : ckCtrOk l ckMT ckTW ckCL k711 := mt_41 (as := k711_a) (cs := k711_c) (gx := []) (f := 200000) rfl (fun _ h => absurd h List.not_mem_nil) True.intro (by decide +kernel)
noncomputable def dT433 : List ckI := [(34, 34), (0, 0), (50, 50), (60, 60), (10, 10), (24, 24), (200, 200), (9, 9), (8, 8)]
-- FarMachine$Machine.heatAfter
noncomputable def k712 : ckCtr := (143, ([(0, (1, 0)), (1, (0, 0))], [], dC425, dT433, [([(8, (0, 0))], [], [])], [], [], [], 0, 0), [([], [(0, 9)], [], [], [], [(32, 32)], [], [], [], [], 0, 0)], 3, 126, 0, 0)
noncomputable def k712_a : ckAs := []
noncomputable def k712_c : List (Nat × ckCtr) := [(6, k694), (14, k711)]
theorem k712_ok (l : Launch) : ckCtrOk l ckMT ckTW ckCL k712 := mt_143 (as := k712_a) (cs := k712_c) (gx := []) (f := 200000) rfl (ckHc (k694_ok l) (ckHc (k711_ok l) (fun _ h => absurd h List.not_mem_nil))) True.intro (by decide +kernel)
-- FarMachine.held
noncomputable def k713 : ckCtr := (41, ([(0, (0, 0)), (1, (0, 1)), (2, (0, 2))], [], [], [(0, 0), (30, 30), (99, 99)], [], [], [], [], 0, 0), [([], [(0, 1)], [], [], [], [], [], [], [], [], 0, 0)], 1, 80, 0, 0)
noncomputable def k713_a : ckAs := []
noncomputable def k713_c : List (Nat × ckCtr) := []
theorem k713_ok (l : Launch) : ckCtrOk l ckMT ckTW ckCL k713 := mt_41 (as := k713_a) (cs := k713_c) (gx := []) (f := 200000) rfl (fun _ h => absurd h List.not_mem_nil) True.intro (by decide +kernel)
noncomputable def dT434 : List ckI := [(32, 32), (0, 0), (50, 50), (60, 60), (10, 10), (24, 24), (200, 200), (9, 9), (8, 8)]
-- FarMachine$Machine.heatAfter
noncomputable def k714 : ckCtr := (143, ([(0, (1, 0)), (1, (0, 0))], [], dC425, dT434, [([(8, (0, 0))], [], [])], [], [], [], 0, 0), [([], [(0, 9)], [], [], [], [(30, 30)], [], [], [], [], 0, 0)], 3, 126, 0, 0)
noncomputable def k714_a : ckAs := []
noncomputable def k714_c : List (Nat × ckCtr) := [(6, k694), (14, k713)]
theorem k714_ok (l : Launch) : ckCtrOk l ckMT ckTW ckCL k714 := mt_143 (as := k714_a) (cs := k714_c) (gx := []) (f := 200000) rfl (ckHc (k694_ok l) (ckHc (k713_ok l) (fun _ h => absurd h List.not_mem_nil))) True.intro (by decide +kernel)
-- FarMachine.held
noncomputable def k715 : ckCtr := (41, ([(0, (0, 0)), (1, (0, 1)), (2, (0, 2))], [], [], [(0, 0), (28, 28), (99, 99)], [], [], [], [], 0, 0), [([], [(0, 1)], [], [], [], [], [], [], [], [], 0, 0)], 1, 80, 0, 0)
noncomputable def k715_a : ckAs := []
noncomputable def k715_c : List (Nat × ckCtr) := []
theorem k715_ok (l : Launch) : ckCtrOk l ckMT ckTW ckCL k715 := mt_41 (as := k715_a) (cs := k715_c) (gx := []) (f := 200000) rfl (fun _ h => absurd h List.not_mem_nil) True.intro (by decide +kernel)
noncomputable def dT435 : List ckI := [(30, 30), (0, 0), (50, 50), (60, 60), (10, 10), (24, 24), (200, 200), (9, 9), (8, 8)]
-- FarMachine$Machine.heatAfter
noncomputable def k716 : ckCtr := (143, ([(0, (1, 0)), (1, (0, 0))], [], dC425, dT435, [([(8, (0, 0))], [], [])], [], [], [], 0, 0), [([], [(0, 9)], [], [], [], [(28, 28)], [], [], [], [], 0, 0)], 3, 126, 0, 0)
noncomputable def k716_a : ckAs := []
noncomputable def k716_c : List (Nat × ckCtr) := [(6, k694), (14, k715)]
theorem k716_ok (l : Launch) : ckCtrOk l ckMT ckTW ckCL k716 := mt_143 (as := k716_a) (cs := k716_c) (gx := []) (f := 200000) rfl (ckHc (k694_ok l) (ckHc (k715_ok l) (fun _ h => absurd h List.not_mem_nil))) True.intro (by decide +kernel)
-- FarMachine.held
noncomputable def k717 : ckCtr := (41, ([(0, (0, 0)), (1, (0, 1)), (2, (0, 2))], [], [], [(0, 0), (26, 26), (99, 99)], [], [], [], [], 0, 0), [([], [(0, 1)], [], [], [], [], [], [], [], [], 0, 0)], 1, 80, 0, 0)
noncomputable def k717_a : ckAs := []
noncomputable def k717_c : List (Nat × ckCtr) := []
theorem k717_ok (l : Launch) : ckCtrOk l ckMT ckTW ckCL k717 := mt_41 (as := k717_a) (cs := k717_c) (gx := []) (f := 200000) rfl (fun _ h => absurd h List.not_mem_nil) True.intro (by decide +kernel)
noncomputable def dT436 : List ckI := [(28, 28), (0, 0), (50, 50), (60, 60), (10, 10), (24, 24), (200, 200), (9, 9), (8, 8)]
-- FarMachine$Machine.heatAfter
noncomputable def k718 : ckCtr := (143, ([(0, (1, 0)), (1, (0, 0))], [], dC425, dT436, [([(8, (0, 0))], [], [])], [], [], [], 0, 0), [([], [(0, 9)], [], [], [], [(26, 26)], [], [], [], [], 0, 0)], 3, 126, 0, 0)
noncomputable def k718_a : ckAs := []
noncomputable def k718_c : List (Nat × ckCtr) := [(6, k694), (14, k717)]
theorem k718_ok (l : Launch) : ckCtrOk l ckMT ckTW ckCL k718 := mt_143 (as := k718_a) (cs := k718_c) (gx := []) (f := 200000) rfl (ckHc (k694_ok l) (ckHc (k717_ok l) (fun _ h => absurd h List.not_mem_nil))) True.intro (by decide +kernel)
-- FarMachine.held
noncomputable def k719 : ckCtr := (41, ([(0, (0, 0)), (1, (0, 1)), (2, (0, 2))], [], [], [(0, 0), (24, 24), (99, 99)], [], [], [], [], 0, 0), [([], [(0, 1)], [], [], [], [], [], [], [], [], 0, 0)], 1, 80, 0, 0)
noncomputable def k719_a : ckAs := []
noncomputable def k719_c : List (Nat × ckCtr) := []
theorem k719_ok (l : Launch) : ckCtrOk l ckMT ckTW ckCL k719 := mt_41 (as := k719_a) (cs := k719_c) (gx := []) (f := 200000) rfl (fun _ h => absurd h List.not_mem_nil) True.intro (by decide +kernel)
noncomputable def dT437 : List ckI := [(26, 26), (0, 0), (50, 50), (60, 60), (10, 10), (24, 24), (200, 200), (9, 9), (8, 8)]
-- FarMachine$Machine.heatAfter
noncomputable def k720 : ckCtr := (143, ([(0, (1, 0)), (1, (0, 0))], [], dC425, dT437, [([(8, (0, 0))], [], [])], [], [], [], 0, 0), [([], [(0, 5)], [], [], [], [], [], [], [], [], 0, 0)], 3, 126, 0, 0)
noncomputable def k720_a : ckAs := []
noncomputable def k720_c : List (Nat × ckCtr) := [(6, k694), (14, k719)]
theorem k720_ok (l : Launch) : ckCtrOk l ckMT ckTW ckCL k720 := mt_143 (as := k720_a) (cs := k720_c) (gx := []) (f := 200000) rfl (ckHc (k694_ok l) (ckHc (k719_ok l) (fun _ h => absurd h List.not_mem_nil))) True.intro (by decide +kernel)
-- FarMachine.held
noncomputable def k721 : ckCtr := (41, ([(0, (0, 0)), (1, (0, 1)), (2, (0, 2))], [], [], [(0, 0), (22, 22), (99, 99)], [], [], [], [], 0, 0), [([], [(0, 1)], [], [], [], [], [], [], [], [], 0, 0)], 1, 80, 0, 0)
noncomputable def k721_a : ckAs := []
noncomputable def k721_c : List (Nat × ckCtr) := []
theorem k721_ok (l : Launch) : ckCtrOk l ckMT ckTW ckCL k721 := mt_41 (as := k721_a) (cs := k721_c) (gx := []) (f := 200000) rfl (fun _ h => absurd h List.not_mem_nil) True.intro (by decide +kernel)
noncomputable def dC438 : List ckC := [.inl (2, [(4, 10), (1, 1), (4, 11), (0, 1), (0, 1), (0, 1), (0, 2), (0, 3), (0, 1), (0, 1), (0, 4), (0, 0), (0, 5), (0, 6), (0, 1), (0, 1)]), .inr (0, 7, 0)]
noncomputable def dT439 : List ckI := [(24, 24), (0, 0), (50, 50), (60, 60), (10, 10), (200, 200), (9, 9), (8, 8)]
-- FarMachine$Machine.heatAfter
noncomputable def k722 : ckCtr := (143, ([(0, (1, 0)), (1, (0, 0))], [], dC438, dT439, [([(8, (0, 0))], [], [])], [], [], [], 0, 0), [([], [(0, 8)], [], [], [], [(22, 22)], [], [], [], [], 0, 0)], 3, 126, 0, 0)
noncomputable def k722_a : ckAs := []
noncomputable def k722_c : List (Nat × ckCtr) := [(6, k694), (14, k721)]
theorem k722_ok (l : Launch) : ckCtrOk l ckMT ckTW ckCL k722 := mt_143 (as := k722_a) (cs := k722_c) (gx := []) (f := 200000) rfl (ckHc (k694_ok l) (ckHc (k721_ok l) (fun _ h => absurd h List.not_mem_nil))) True.intro (by decide +kernel)
-- FarMachine.held
noncomputable def k723 : ckCtr := (41, ([(0, (0, 0)), (1, (0, 1)), (2, (0, 2))], [], [], [(0, 0), (20, 20), (99, 99)], [], [], [], [], 0, 0), [([], [(0, 1)], [], [], [], [], [], [], [], [], 0, 0)], 1, 80, 0, 0)
noncomputable def k723_a : ckAs := []
noncomputable def k723_c : List (Nat × ckCtr) := []
theorem k723_ok (l : Launch) : ckCtrOk l ckMT ckTW ckCL k723 := mt_41 (as := k723_a) (cs := k723_c) (gx := []) (f := 200000) rfl (fun _ h => absurd h List.not_mem_nil) True.intro (by decide +kernel)
noncomputable def dT440 : List ckI := [(22, 22), (0, 0), (50, 50), (60, 60), (10, 10), (24, 24), (200, 200), (9, 9), (8, 8)]
-- FarMachine$Machine.heatAfter
noncomputable def k724 : ckCtr := (143, ([(0, (1, 0)), (1, (0, 0))], [], dC425, dT440, [([(8, (0, 0))], [], [])], [], [], [], 0, 0), [([], [(0, 9)], [], [], [], [(20, 20)], [], [], [], [], 0, 0)], 3, 126, 0, 0)
noncomputable def k724_a : ckAs := []
noncomputable def k724_c : List (Nat × ckCtr) := [(6, k694), (14, k723)]
theorem k724_ok (l : Launch) : ckCtrOk l ckMT ckTW ckCL k724 := mt_143 (as := k724_a) (cs := k724_c) (gx := []) (f := 200000) rfl (ckHc (k694_ok l) (ckHc (k723_ok l) (fun _ h => absurd h List.not_mem_nil))) True.intro (by decide +kernel)
-- FarMachine.held
noncomputable def k725 : ckCtr := (41, ([(0, (0, 0)), (1, (0, 1)), (2, (0, 2))], [], [], [(0, 0), (18, 18), (99, 99)], [], [], [], [], 0, 0), [([], [(0, 1)], [], [], [], [], [], [], [], [], 0, 0)], 1, 80, 0, 0)
noncomputable def k725_a : ckAs := []
noncomputable def k725_c : List (Nat × ckCtr) := []
theorem k725_ok (l : Launch) : ckCtrOk l ckMT ckTW ckCL k725 := mt_41 (as := k725_a) (cs := k725_c) (gx := []) (f := 200000) rfl (fun _ h => absurd h List.not_mem_nil) True.intro (by decide +kernel)
noncomputable def dT441 : List ckI := [(20, 20), (0, 0), (50, 50), (60, 60), (10, 10), (24, 24), (200, 200), (9, 9), (8, 8)]
-- FarMachine$Machine.heatAfter
noncomputable def k726 : ckCtr := (143, ([(0, (1, 0)), (1, (0, 0))], [], dC425, dT441, [([(8, (0, 0))], [], [])], [], [], [], 0, 0), [([], [(0, 9)], [], [], [], [(18, 18)], [], [], [], [], 0, 0)], 3, 126, 0, 0)
noncomputable def k726_a : ckAs := []
noncomputable def k726_c : List (Nat × ckCtr) := [(6, k694), (14, k725)]
theorem k726_ok (l : Launch) : ckCtrOk l ckMT ckTW ckCL k726 := mt_143 (as := k726_a) (cs := k726_c) (gx := []) (f := 200000) rfl (ckHc (k694_ok l) (ckHc (k725_ok l) (fun _ h => absurd h List.not_mem_nil))) True.intro (by decide +kernel)
-- FarMachine.held
noncomputable def k727 : ckCtr := (41, ([(0, (0, 0)), (1, (0, 1)), (2, (0, 2))], [], [], [(0, 0), (16, 16), (99, 99)], [], [], [], [], 0, 0), [([], [(0, 1)], [], [], [], [], [], [], [], [], 0, 0)], 1, 80, 0, 0)
noncomputable def k727_a : ckAs := []
noncomputable def k727_c : List (Nat × ckCtr) := []
theorem k727_ok (l : Launch) : ckCtrOk l ckMT ckTW ckCL k727 := mt_41 (as := k727_a) (cs := k727_c) (gx := []) (f := 200000) rfl (fun _ h => absurd h List.not_mem_nil) True.intro (by decide +kernel)
noncomputable def dT442 : List ckI := [(18, 18), (0, 0), (50, 50), (60, 60), (10, 10), (24, 24), (200, 200), (9, 9), (8, 8)]
-- FarMachine$Machine.heatAfter
noncomputable def k728 : ckCtr := (143, ([(0, (1, 0)), (1, (0, 0))], [], dC425, dT442, [([(8, (0, 0))], [], [])], [], [], [], 0, 0), [([], [(0, 9)], [], [], [], [(16, 16)], [], [], [], [], 0, 0)], 3, 126, 0, 0)
noncomputable def k728_a : ckAs := []
noncomputable def k728_c : List (Nat × ckCtr) := [(6, k694), (14, k727)]
theorem k728_ok (l : Launch) : ckCtrOk l ckMT ckTW ckCL k728 := mt_143 (as := k728_a) (cs := k728_c) (gx := []) (f := 200000) rfl (ckHc (k694_ok l) (ckHc (k727_ok l) (fun _ h => absurd h List.not_mem_nil))) True.intro (by decide +kernel)
-- FarMachine.held
noncomputable def k729 : ckCtr := (41, ([(0, (0, 0)), (1, (0, 1)), (2, (0, 2))], [], [], [(0, 0), (14, 14), (99, 99)], [], [], [], [], 0, 0), [([], [(0, 1)], [], [], [], [], [], [], [], [], 0, 0)], 1, 80, 0, 0)
noncomputable def k729_a : ckAs := []
noncomputable def k729_c : List (Nat × ckCtr) := []
theorem k729_ok (l : Launch) : ckCtrOk l ckMT ckTW ckCL k729 := mt_41 (as := k729_a) (cs := k729_c) (gx := []) (f := 200000) rfl (fun _ h => absurd h List.not_mem_nil) True.intro (by decide +kernel)
noncomputable def dT443 : List ckI := [(16, 16), (0, 0), (50, 50), (60, 60), (10, 10), (24, 24), (200, 200), (9, 9), (8, 8)]
-- FarMachine$Machine.heatAfter
noncomputable def k730 : ckCtr := (143, ([(0, (1, 0)), (1, (0, 0))], [], dC425, dT443, [([(8, (0, 0))], [], [])], [], [], [], 0, 0), [([], [(0, 9)], [], [], [], [(14, 14)], [], [], [], [], 0, 0)], 3, 126, 0, 0)
noncomputable def k730_a : ckAs := []
noncomputable def k730_c : List (Nat × ckCtr) := [(6, k694), (14, k729)]
theorem k730_ok (l : Launch) : ckCtrOk l ckMT ckTW ckCL k730 := mt_143 (as := k730_a) (cs := k730_c) (gx := []) (f := 200000) rfl (ckHc (k694_ok l) (ckHc (k729_ok l) (fun _ h => absurd h List.not_mem_nil))) True.intro (by decide +kernel)
-- FarMachine.held
noncomputable def k731 : ckCtr := (41, ([(0, (0, 0)), (1, (0, 1)), (2, (0, 2))], [], [], [(0, 0), (12, 12), (99, 99)], [], [], [], [], 0, 0), [([], [(0, 1)], [], [], [], [], [], [], [], [], 0, 0)], 1, 80, 0, 0)
noncomputable def k731_a : ckAs := []
noncomputable def k731_c : List (Nat × ckCtr) := []
theorem k731_ok (l : Launch) : ckCtrOk l ckMT ckTW ckCL k731 := mt_41 (as := k731_a) (cs := k731_c) (gx := []) (f := 200000) rfl (fun _ h => absurd h List.not_mem_nil) True.intro (by decide +kernel)
noncomputable def dT444 : List ckI := [(14, 14), (0, 0), (50, 50), (60, 60), (10, 10), (24, 24), (200, 200), (9, 9), (8, 8)]
-- FarMachine$Machine.heatAfter
noncomputable def k732 : ckCtr := (143, ([(0, (1, 0)), (1, (0, 0))], [], dC425, dT444, [([(8, (0, 0))], [], [])], [], [], [], 0, 0), [([], [(0, 9)], [], [], [], [(12, 12)], [], [], [], [], 0, 0)], 3, 126, 0, 0)
noncomputable def k732_a : ckAs := []
noncomputable def k732_c : List (Nat × ckCtr) := [(6, k694), (14, k731)]
theorem k732_ok (l : Launch) : ckCtrOk l ckMT ckTW ckCL k732 := mt_143 (as := k732_a) (cs := k732_c) (gx := []) (f := 200000) rfl (ckHc (k694_ok l) (ckHc (k731_ok l) (fun _ h => absurd h List.not_mem_nil))) True.intro (by decide +kernel)
-- FarMachine.held
noncomputable def k733 : ckCtr := (41, ([(0, (0, 0)), (1, (0, 1)), (2, (0, 2))], [], [], [(0, 0), (10, 10), (99, 99)], [], [], [], [], 0, 0), [([], [(0, 1)], [], [], [], [], [], [], [], [], 0, 0)], 1, 80, 0, 0)
noncomputable def k733_a : ckAs := []
noncomputable def k733_c : List (Nat × ckCtr) := []
theorem k733_ok (l : Launch) : ckCtrOk l ckMT ckTW ckCL k733 := mt_41 (as := k733_a) (cs := k733_c) (gx := []) (f := 200000) rfl (fun _ h => absurd h List.not_mem_nil) True.intro (by decide +kernel)
noncomputable def dT445 : List ckI := [(12, 12), (0, 0), (50, 50), (60, 60), (10, 10), (24, 24), (200, 200), (9, 9), (8, 8)]
-- FarMachine$Machine.heatAfter
noncomputable def k734 : ckCtr := (143, ([(0, (1, 0)), (1, (0, 0))], [], dC425, dT445, [([(8, (0, 0))], [], [])], [], [], [], 0, 0), [([], [(0, 4)], [], [], [], [], [], [], [], [], 0, 0)], 3, 126, 0, 0)
noncomputable def k734_a : ckAs := []
noncomputable def k734_c : List (Nat × ckCtr) := [(6, k694), (14, k733)]
theorem k734_ok (l : Launch) : ckCtrOk l ckMT ckTW ckCL k734 := mt_143 (as := k734_a) (cs := k734_c) (gx := []) (f := 200000) rfl (ckHc (k694_ok l) (ckHc (k733_ok l) (fun _ h => absurd h List.not_mem_nil))) True.intro (by decide +kernel)
-- FarMachine.held
noncomputable def k735 : ckCtr := (41, ([(0, (0, 0)), (1, (0, 1)), (2, (0, 2))], [], [], [(0, 0), (8, 8), (99, 99)], [], [], [], [], 0, 0), [([], [(0, 1)], [], [], [], [], [], [], [], [], 0, 0)], 1, 80, 0, 0)
noncomputable def k735_a : ckAs := []
noncomputable def k735_c : List (Nat × ckCtr) := []
theorem k735_ok (l : Launch) : ckCtrOk l ckMT ckTW ckCL k735 := mt_41 (as := k735_a) (cs := k735_c) (gx := []) (f := 200000) rfl (fun _ h => absurd h List.not_mem_nil) True.intro (by decide +kernel)
noncomputable def dC446 : List ckC := [.inl (2, [(4, 10), (1, 1), (4, 11), (0, 1), (0, 1), (0, 1), (0, 2), (0, 3), (0, 1), (0, 1), (0, 0), (0, 4), (0, 5), (0, 6), (0, 1), (0, 1)]), .inr (0, 7, 0)]
noncomputable def dT447 : List ckI := [(10, 10), (0, 0), (50, 50), (60, 60), (24, 24), (200, 200), (9, 9), (8, 8)]
-- FarMachine$Machine.heatAfter
noncomputable def k736 : ckCtr := (143, ([(0, (1, 0)), (1, (0, 0))], [], dC446, dT447, [([(8, (0, 0))], [], [])], [], [], [], 0, 0), [([], [(0, 7)], [], [], [], [], [], [], [], [], 0, 0)], 3, 126, 0, 0)
noncomputable def k736_a : ckAs := []
noncomputable def k736_c : List (Nat × ckCtr) := [(6, k694), (14, k735)]
theorem k736_ok (l : Launch) : ckCtrOk l ckMT ckTW ckCL k736 := mt_143 (as := k736_a) (cs := k736_c) (gx := []) (f := 200000) rfl (ckHc (k694_ok l) (ckHc (k735_ok l) (fun _ h => absurd h List.not_mem_nil))) True.intro (by decide +kernel)
-- FarMachine.held
noncomputable def k737 : ckCtr := (41, ([(0, (0, 0)), (1, (0, 1)), (2, (0, 2))], [], [], [(0, 0), (6, 6), (99, 99)], [], [], [], [], 0, 0), [([], [(0, 1)], [], [], [], [], [], [], [], [], 0, 0)], 1, 80, 0, 0)
noncomputable def k737_a : ckAs := []
noncomputable def k737_c : List (Nat × ckCtr) := []
theorem k737_ok (l : Launch) : ckCtrOk l ckMT ckTW ckCL k737 := mt_41 (as := k737_a) (cs := k737_c) (gx := []) (f := 200000) rfl (fun _ h => absurd h List.not_mem_nil) True.intro (by decide +kernel)
noncomputable def dC448 : List ckC := [.inl (2, [(4, 10), (1, 1), (4, 11), (0, 1), (0, 1), (0, 1), (0, 2), (0, 3), (0, 1), (0, 1), (0, 4), (0, 5), (0, 6), (0, 7), (0, 1), (0, 1)]), .inr (0, 0, 0)]
noncomputable def dT449 : List ckI := [(8, 8), (0, 0), (50, 50), (60, 60), (10, 10), (24, 24), (200, 200), (9, 9)]
-- FarMachine$Machine.heatAfter
noncomputable def k738 : ckCtr := (143, ([(0, (1, 0)), (1, (0, 0))], [], dC448, dT449, [([(8, (0, 0))], [], [])], [], [], [], 0, 0), [([], [(0, 8)], [], [], [], [(6, 6)], [], [], [], [], 0, 0)], 3, 126, 0, 0)
noncomputable def k738_a : ckAs := []
noncomputable def k738_c : List (Nat × ckCtr) := [(6, k694), (14, k737)]
theorem k738_ok (l : Launch) : ckCtrOk l ckMT ckTW ckCL k738 := mt_143 (as := k738_a) (cs := k738_c) (gx := []) (f := 200000) rfl (ckHc (k694_ok l) (ckHc (k737_ok l) (fun _ h => absurd h List.not_mem_nil))) True.intro (by decide +kernel)
-- FarMachine.held
noncomputable def k739 : ckCtr := (41, ([(0, (0, 0)), (1, (0, 1)), (2, (0, 2))], [], [], [(0, 0), (4, 4), (99, 99)], [], [], [], [], 0, 0), [([], [(0, 1)], [], [], [], [], [], [], [], [], 0, 0)], 1, 80, 0, 0)
noncomputable def k739_a : ckAs := []
noncomputable def k739_c : List (Nat × ckCtr) := []
theorem k739_ok (l : Launch) : ckCtrOk l ckMT ckTW ckCL k739 := mt_41 (as := k739_a) (cs := k739_c) (gx := []) (f := 200000) rfl (fun _ h => absurd h List.not_mem_nil) True.intro (by decide +kernel)
noncomputable def dT450 : List ckI := [(6, 6), (0, 0), (50, 50), (60, 60), (10, 10), (24, 24), (200, 200), (9, 9), (8, 8)]
-- FarMachine$Machine.heatAfter
noncomputable def k740 : ckCtr := (143, ([(0, (1, 0)), (1, (0, 0))], [], dC425, dT450, [([(8, (0, 0))], [], [])], [], [], [], 0, 0), [([], [(0, 9)], [], [], [], [(4, 4)], [], [], [], [], 0, 0)], 3, 126, 0, 0)
noncomputable def k740_a : ckAs := []
noncomputable def k740_c : List (Nat × ckCtr) := [(6, k694), (14, k739)]
theorem k740_ok (l : Launch) : ckCtrOk l ckMT ckTW ckCL k740 := mt_143 (as := k740_a) (cs := k740_c) (gx := []) (f := 200000) rfl (ckHc (k694_ok l) (ckHc (k739_ok l) (fun _ h => absurd h List.not_mem_nil))) True.intro (by decide +kernel)
-- FarMachine.held
noncomputable def k741 : ckCtr := (41, ([(0, (0, 0)), (1, (0, 1)), (2, (0, 2))], [], [], [(0, 0), (2, 2), (99, 99)], [], [], [], [], 0, 0), [([], [(0, 1)], [], [], [], [], [], [], [], [], 0, 0)], 1, 80, 0, 0)
noncomputable def k741_a : ckAs := []
noncomputable def k741_c : List (Nat × ckCtr) := []
theorem k741_ok (l : Launch) : ckCtrOk l ckMT ckTW ckCL k741 := mt_41 (as := k741_a) (cs := k741_c) (gx := []) (f := 200000) rfl (fun _ h => absurd h List.not_mem_nil) True.intro (by decide +kernel)
noncomputable def dT451 : List ckI := [(4, 4), (0, 0), (50, 50), (60, 60), (10, 10), (24, 24), (200, 200), (9, 9), (8, 8)]
-- FarMachine$Machine.heatAfter
noncomputable def k742 : ckCtr := (143, ([(0, (1, 0)), (1, (0, 0))], [], dC425, dT451, [([(8, (0, 0))], [], [])], [], [], [], 0, 0), [([], [(0, 9)], [], [], [], [(2, 2)], [], [], [], [], 0, 0)], 3, 126, 0, 0)
noncomputable def k742_a : ckAs := []
noncomputable def k742_c : List (Nat × ckCtr) := [(6, k694), (14, k741)]
theorem k742_ok (l : Launch) : ckCtrOk l ckMT ckTW ckCL k742 := mt_143 (as := k742_a) (cs := k742_c) (gx := []) (f := 200000) rfl (ckHc (k694_ok l) (ckHc (k741_ok l) (fun _ h => absurd h List.not_mem_nil))) True.intro (by decide +kernel)
-- FarMachine.held
noncomputable def k743 : ckCtr := (41, ([(0, (0, 0)), (1, (0, 0)), (2, (0, 1))], [], [], [(0, 0), (99, 99)], [], [], [], [], 0, 0), [([], [(0, 0)], [], [], [], [], [], [], [], [], 0, 0)], 1, 80, 0, 0)
noncomputable def k743_a : ckAs := []
noncomputable def k743_c : List (Nat × ckCtr) := []
theorem k743_ok (l : Launch) : ckCtrOk l ckMT ckTW ckCL k743 := mt_41 (as := k743_a) (cs := k743_c) (gx := []) (f := 200000) rfl (fun _ h => absurd h List.not_mem_nil) True.intro (by decide +kernel)
noncomputable def dT452 : List ckI := [(2, 2), (0, 0), (50, 50), (60, 60), (10, 10), (24, 24), (200, 200), (9, 9), (8, 8)]
-- FarMachine$Machine.heatAfter
noncomputable def k744 : ckCtr := (143, ([(0, (1, 0)), (1, (0, 0))], [], dC425, dT452, [([(8, (0, 0))], [], [])], [], [], [], 0, 0), [([], [(0, 1)], [], [], [], [], [], [], [], [], 0, 0)], 3, 126, 0, 0)
noncomputable def k744_a : ckAs := []
noncomputable def k744_c : List (Nat × ckCtr) := [(6, k694), (14, k743)]
theorem k744_ok (l : Launch) : ckCtrOk l ckMT ckTW ckCL k744 := mt_143 (as := k744_a) (cs := k744_c) (gx := []) (f := 200000) rfl (ckHc (k694_ok l) (ckHc (k743_ok l) (fun _ h => absurd h List.not_mem_nil))) True.intro (by decide +kernel)
noncomputable def dT453 : List ckI := [(0, 50), (0, 0), (50, 50), (60, 60), (10, 10), (24, 24), (200, 200), (9, 9), (8, 8)]
-- FarMachine$Machine.heatAfter
noncomputable def k745 : ckCtr := (143, ([(0, (1, 0)), (1, (0, 0))], [], dC425, dT453, [([(8, (0, 0))], [], [])], [], [], [], 0, 0), [([], [(0, 9)], [], [], [], [(0, 48)], [], [], [(0, 9, 2)], [], 0, 0)], 3, 126, 0, 0)
noncomputable def k745_a : ckAs := []
noncomputable def k745_c : List (Nat × ckCtr) := [(6, k694), (14, k210)]
theorem k745_ok (l : Launch) : ckCtrOk l ckMT ckTW ckCL k745 := mt_143 (as := k745_a) (cs := k745_c) (gx := []) (f := 200000) rfl (ckHc (k694_ok l) (ckHc (k210_ok l) (fun _ h => absurd h List.not_mem_nil))) True.intro (by decide +kernel)
noncomputable def dT454 : List ckI := [(0, 99), (0, 0), (50, 50), (60, 60), (10, 10), (24, 24), (200, 200), (9, 9), (8, 8)]
-- FarMachine$Machine.hoursTillBelow
noncomputable def k746 : ckCtr := (149, ([(0, (1, 0)), (1, (0, 0))], [], dC425, dT454, [([(8, (0, 0))], [], [])], [], [], [], 0, 0), [([], [(0, 9)], [], [], [(0, (0, 0))], [(-9, -9)], [], [], [], [], 0, 0), ([], [(0, 9)], [], [], [(0, (1, 2))], [(25, 25)], [], [], [], [], 0, 0), ([], [(0, 5)], [], [], [(0, (3, 4))], [], [], [], [], [], 0, 0), ([], [(0, 9)], [], [], [(0, (5, 6))], [(23, 23)], [], [], [], [], 0, 0), ([], [(0, 9)], [], [], [(0, (7, 8))], [(22, 22)], [], [], [], [], 0, 0), ([], [(0, 9)], [], [], [(0, (9, 10))], [(21, 21)], [], [], [], [], 0, 0), ([], [(0, 9)], [], [], [(0, (11, 12))], [(20, 20)], [], [], [], [], 0, 0), ([], [(0, 9)], [], [], [(0, (13, 14))], [(19, 19)], [], [], [], [], 0, 0), ([], [(0, 9)], [], [], [(0, (15, 16))], [(18, 18)], [], [], [], [], 0, 0), ([], [(0, 9)], [], [], [(0, (17, 18))], [(17, 17)], [], [], [], [], 0, 0), ([], [(0, 9)], [], [], [(0, (19, 20))], [(16, 16)], [], [], [], [], 0, 0), ([], [(0, 9)], [], [], [(0, (21, 22))], [(15, 15)], [], [], [], [], 0, 0), ([], [(0, 9)], [], [], [(0, (23, 24))], [(14, 14)], [], [], [], [], 0, 0), ([], [(0, 9)], [], [], [(0, (25, 26))], [(13, 13)], [], [], [], [], 0, 0), ([], [(0, 9)], [], [], [(0, (27, 28))], [(12, 12)], [], [], [], [], 0, 0), ([], [(0, 9)], [], [], [(0, (29, 30))], [(11, 11)], [], [], [], [], 0, 0), ([], [(0, 4)], [], [], [(0, (31, 32))], [], [], [], [], [], 0, 0), ([], [(0, 7)], [], [], [(0, (33, 34))], [], [], [], [], [], 0, 0), ([], [(0, 8)], [], [], [(0, (35, 36))], [], [], [], [], [], 0, 0), ([], [(0, 9)], [], [], [(0, (37, 38))], [(7, 7)], [], [], [], [], 0, 0), ([], [(0, 9)], [], [], [(0, (39, 40))], [(6, 6)], [], [], [], [], 0, 0), ([], [(0, 9)], [], [], [(0, (41, 42))], [(5, 5)], [], [], [], [], 0, 0), ([], [(0, 9)], [], [], [(0, (43, 44))], [(4, 4)], [], [], [], [], 0, 0), ([], [(0, 9)], [], [], [(0, (45, 46))], [(3, 3)], [], [], [], [], 0, 0), ([], [(0, 9)], [], [], [(0, (47, 48))], [(2, 2)], [], [], [], [], 0, 0), ([], [(0, 9)], [], [], [(0, (49, 50))], [(1, 1)], [], [], [], [], 0, 0), ([], [(0, 1)], [], [], [(0, (51, 99))], [], [], [], [], [], 0, 0)], 4, 147, 0, 0)
noncomputable def k746_a : ckAs := [(0, [(497280, [(3, 1, 0, ([], [], [], [], [], [(26, 26)], [], [], [], [], 0, 0))]), (546664, [(3, 0, 0, ([], [], [], [], [], [], [], [], [], [], 0, 0)), (3, 1, 0, ([], [], [], [], [], [(12, 12)], [], [], [], [], 0, 0))]), (843807, [(3, 0, 0, ([], [], [], [], [], [], [], [], [], [], 0, 0)), (3, 0, 0, ([], [], [], [], [], [], [], [], [], [], 0, 0)), (3, 1, 0, ([], [], [], [], [], [(6, 6)], [], [], [], [], 0, 0))]), (971154, [(3, 0, 0, ([], [], [], [], [], [], [], [], [], [], 0, 0)), (3, 0, 0, ([], [], [], [], [], [], [], [], [], [], 0, 0)), (3, 0, 0, ([], [], [], [], [], [], [], [], [], [], 0, 0)), (3, 1, 0, ([], [], [], [], [], [(2, 2)], [], [], [], [], 0, 0))]), (56049, [(3, 0, 0, ([], [], [], [], [], [], [], [], [], [], 0, 0)), (3, 0, 0, ([], [], [], [], [], [], [], [], [], [], 0, 0)), (3, 0, 0, ([], [], [], [], [], [], [], [], [], [], 0, 0)), (3, 0, 0, ([], [], [], [], [], [], [], [], [], [], 0, 0)), (3, 1, 0, ([], [], [], [], [], [(0, 0)], [], [], [], [], 0, 0))]), (25438, [(3, 0, 0, ([], [], [], [], [], [], [], [], [], [], 0, 0)), (3, 0, 0, ([], [], [], [], [], [], [], [], [], [], 0, 0)), (3, 0, 0, ([], [], [], [], [], [], [], [], [], [], 0, 0)), (3, 0, 0, ([], [], [], [], [], [], [], [], [], [], 0, 0)), (3, 1, 0, ([], [], [], [], [], [(4, 4)], [], [], [], [], 0, 0))]), (303808, [(3, 0, 0, ([], [], [], [], [], [], [], [], [], [], 0, 0)), (3, 0, 0, ([], [], [], [], [], [], [], [], [], [], 0, 0)), (3, 0, 0, ([], [], [], [], [], [], [], [], [], [], 0, 0)), (3, 1, 0, ([], [], [], [], [], [(10, 10)], [], [], [], [], 0, 0))]), (346257, [(3, 0, 0, ([], [], [], [], [], [], [], [], [], [], 0, 0)), (3, 0, 0, ([], [], [], [], [], [], [], [], [], [], 0, 0)), (3, 0, 0, ([], [], [], [], [], [], [], [], [], [], 0, 0)), (3, 0, 0, ([], [], [], [], [], [], [], [], [], [], 0, 0)), (3, 1, 0, ([], [], [], [], [], [(8, 8)], [], [], [], [], 0, 0))]), (115239, [(3, 0, 0, ([], [], [], [], [], [], [], [], [], [], 0, 0)), (3, 0, 0, ([], [], [], [], [], [], [], [], [], [], 0, 0)), (3, 1, 0, ([], [], [], [], [], [(20, 20)], [], [], [], [], 0, 0))]), (242586, [(3, 0, 0, ([], [], [], [], [], [], [], [], [], [], 0, 0)), (3, 0, 0, ([], [], [], [], [], [], [], [], [], [], 0, 0)), (3, 0, 0, ([], [], [], [], [], [], [], [], [], [], 0, 0)), (3, 1, 0, ([], [], [], [], [], [(16, 16)], [], [], [], [], 0, 0))]), (327484, [(3, 0, 0, ([], [], [], [], [], [], [], [], [], [], 0, 0)), (3, 0, 0, ([], [], [], [], [], [], [], [], [], [], 0, 0)), (3, 0, 0, ([], [], [], [], [], [], [], [], [], [], 0, 0)), (3, 0, 0, ([], [], [], [], [], [], [], [], [], [], 0, 0)), (3, 1, 0, ([], [], [], [], [], [(14, 14)], [], [], [], [], 0, 0))]), (648303, [(3, 0, 0, ([], [], [], [], [], [], [], [], [], [], 0, 0)), (3, 0, 0, ([], [], [], [], [], [], [], [], [], [], 0, 0)), (3, 0, 0, ([], [], [], [], [], [], [], [], [], [], 0, 0)), (3, 0, 0, ([], [], [], [], [], [], [], [], [], [], 0, 0)), (3, 1, 0, ([], [], [], [], [], [(18, 18)], [], [], [], [], 0, 0))]), (926673, [(3, 0, 0, ([], [], [], [], [], [], [], [], [], [], 0, 0)), (3, 0, 0, ([], [], [], [], [], [], [], [], [], [], 0, 0)), (3, 0, 0, ([], [], [], [], [], [], [], [], [], [], 0, 0)), (3, 1, 0, ([], [], [], [], [], [(24, 24)], [], [], [], [], 0, 0))]), (969122, [(3, 0, 0, ([], [], [], [], [], [], [], [], [], [], 0, 0)), (3, 0, 0, ([], [], [], [], [], [], [], [], [], [], 0, 0)), (3, 0, 0, ([], [], [], [], [], [], [], [], [], [], 0, 0)), (3, 0, 0, ([], [], [], [], [], [], [], [], [], [], 0, 0)), (3, 1, 0, ([], [], [], [], [], [(22, 22)], [], [], [], [], 0, 0))]), (985863, [(3, 0, 0, ([], [], [], [], [], [], [], [], [], [], 0, 0)), (3, 1, 0, ([], [], [], [], [], [(40, 40)], [], [], [], [], 0, 0))]), (738104, [(3, 0, 0, ([], [], [], [], [], [], [], [], [], [], 0, 0)), (3, 0, 0, ([], [], [], [], [], [], [], [], [], [], 0, 0)), (3, 1, 0, ([], [], [], [], [], [(34, 34)], [], [], [], [], 0, 0))]), (865451, [(3, 0, 0, ([], [], [], [], [], [], [], [], [], [], 0, 0)), (3, 0, 0, ([], [], [], [], [], [], [], [], [], [], 0, 0)), (3, 0, 0, ([], [], [], [], [], [], [], [], [], [], 0, 0)), (3, 1, 0, ([], [], [], [], [], [(30, 30)], [], [], [], [], 0, 0))]), (950349, [(3, 0, 0, ([], [], [], [], [], [], [], [], [], [], 0, 0)), (3, 0, 0, ([], [], [], [], [], [], [], [], [], [], 0, 0)), (3, 0, 0, ([], [], [], [], [], [], [], [], [], [], 0, 0)), (3, 0, 0, ([], [], [], [], [], [], [], [], [], [], 0, 0)), (3, 1, 0, ([], [], [], [], [], [(28, 28)], [], [], [], [], 0, 0))]), (271165, [(3, 0, 0, ([], [], [], [], [], [], [], [], [], [], 0, 0)), (3, 0, 0, ([], [], [], [], [], [], [], [], [], [], 0, 0)), (3, 0, 0, ([], [], [], [], [], [], [], [], [], [], 0, 0)), (3, 0, 0, ([], [], [], [], [], [], [], [], [], [], 0, 0)), (3, 1, 0, ([], [], [], [], [], [(32, 32)], [], [], [], [], 0, 0))]), (549535, [(3, 0, 0, ([], [], [], [], [], [], [], [], [], [], 0, 0)), (3, 0, 0, ([], [], [], [], [], [], [], [], [], [], 0, 0)), (3, 0, 0, ([], [], [], [], [], [], [], [], [], [], 0, 0)), (3, 1, 0, ([], [], [], [], [], [(38, 38)], [], [], [], [], 0, 0))]), (591984, [(3, 0, 0, ([], [], [], [], [], [], [], [], [], [], 0, 0)), (3, 0, 0, ([], [], [], [], [], [], [], [], [], [], 0, 0)), (3, 0, 0, ([], [], [], [], [], [], [], [], [], [], 0, 0)), (3, 0, 0, ([], [], [], [], [], [], [], [], [], [], 0, 0)), (3, 1, 0, ([], [], [], [], [], [(36, 36)], [], [], [], [], 0, 0))]), (905868, [(3, 0, 0, ([], [], [], [], [], [], [], [], [], [], 0, 0)), (3, 0, 0, ([], [], [], [], [], [], [], [], [], [], 0, 0)), (3, 1, 0, ([], [], [], [], [], [(46, 46)], [], [], [], [], 0, 0))]), (530762, [(3, 0, 0, ([], [], [], [], [], [], [], [], [], [], 0, 0)), (3, 0, 0, ([], [], [], [], [], [], [], [], [], [], 0, 0)), (3, 0, 0, ([], [], [], [], [], [], [], [], [], [], 0, 0)), (3, 1, 0, ([], [], [], [], [], [(44, 44)], [], [], [], [], 0, 0))]), (573211, [(3, 0, 0, ([], [], [], [], [], [], [], [], [], [], 0, 0)), (3, 0, 0, ([], [], [], [], [], [], [], [], [], [], 0, 0)), (3, 0, 0, ([], [], [], [], [], [], [], [], [], [], 0, 0)), (3, 0, 0, ([], [], [], [], [], [], [], [], [], [], 0, 0)), (3, 1, 0, ([], [], [], [], [], [(42, 42)], [], [], [], [], 0, 0))]), (14439, [(3, 0, 0, ([], [], [], [], [], [], [], [], [], [], 0, 0)), (3, 0, 0, ([], [], [], [], [], [], [], [], [], [], 0, 0)), (3, 0, 0, ([], [], [], [], [], [], [], [], [], [], 0, 0)), (3, 1, 0, ([], [], [], [], [], [(50, 50)], [], [], [], [], 0, 0))]), (554438, [(3, 0, 0, ([], [], [], [], [], [], [], [], [], [], 0, 0)), (3, 0, 0, ([], [], [], [], [], [], [], [], [], [], 0, 0)), (3, 0, 0, ([], [], [], [], [], [], [], [], [], [], 0, 0)), (3, 0, 0, ([], [], [], [], [], [], [], [], [], [], 0, 0)), (3, 1, 0, ([], [], [], [], [], [(48, 48)], [], [], [], [], 0, 0))])]), (7, [(871076, [(1, 0, 1, ([(0, (1, 0)), (1, (0, 0)), (2, (0, 10)), (3, (0, 11))], [], [], [], [], [(0, 50), (0, 201)], [], [], [], [], 0, 0))])])]
noncomputable def k746_c : List (Nat × ckCtr) := [(23, k696), (23, k698), (23, k700), (23, k702), (23, k704), (23, k706), (23, k708), (23, k710), (23, k712), (23, k714), (23, k716), (23, k718), (23, k720), (23, k722), (23, k724), (23, k726), (23, k728), (23, k730), (23, k732), (23, k734), (23, k736), (23, k738), (23, k740), (23, k742), (23, k744), (23, k745)]
noncomputable def dT455 : List ckI := [(0, 0), (0, 0), (50, 50), (60, 60), (10, 10), (24, 24), (200, 200), (9, 9), (8, 8)]
noncomputable def k746_u0 : ckCut := (5, ([(0, (1, 0)), (1, (0, 0)), (2, (0, 2))], [], dC425, dT455, [([(8, (0, 0))], [], [])], [], [], [], 0, 0), 9, 1, 0, 0)
noncomputable def dT456 : List ckI := [(1, 2), (0, 0), (50, 50), (60, 60), (10, 10), (24, 24), (200, 200), (9, 9), (8, 8)]
noncomputable def k746_u1 : ckCut := (5, ([(0, (1, 0)), (1, (0, 0)), (2, (0, 2))], [], dC425, dT456, [([(8, (0, 0))], [], [])], [], [], [], 0, 0), 9, 1, 0, 0)
noncomputable def dT457 : List ckI := [(3, 4), (0, 0), (50, 50), (60, 60), (10, 10), (24, 24), (200, 200), (9, 9), (8, 8)]
noncomputable def k746_u2 : ckCut := (5, ([(0, (1, 0)), (1, (0, 0)), (2, (0, 2))], [], dC425, dT457, [([(8, (0, 0))], [], [])], [], [], [], 0, 0), 9, 1, 0, 0)
noncomputable def dT458 : List ckI := [(5, 6), (0, 0), (50, 50), (60, 60), (10, 10), (24, 24), (200, 200), (9, 9), (8, 8)]
noncomputable def k746_u3 : ckCut := (5, ([(0, (1, 0)), (1, (0, 0)), (2, (0, 2))], [], dC425, dT458, [([(8, (0, 0))], [], [])], [], [], [], 0, 0), 9, 1, 0, 0)
noncomputable def dT459 : List ckI := [(7, 8), (0, 0), (50, 50), (60, 60), (10, 10), (24, 24), (200, 200), (9, 9), (8, 8)]
noncomputable def k746_u4 : ckCut := (5, ([(0, (1, 0)), (1, (0, 0)), (2, (0, 2))], [], dC425, dT459, [([(8, (0, 0))], [], [])], [], [], [], 0, 0), 9, 1, 0, 0)
noncomputable def dT460 : List ckI := [(9, 10), (0, 0), (50, 50), (60, 60), (10, 10), (24, 24), (200, 200), (9, 9), (8, 8)]
noncomputable def k746_u5 : ckCut := (5, ([(0, (1, 0)), (1, (0, 0)), (2, (0, 2))], [], dC425, dT460, [([(8, (0, 0))], [], [])], [], [], [], 0, 0), 9, 1, 0, 0)
noncomputable def dT461 : List ckI := [(11, 12), (0, 0), (50, 50), (60, 60), (10, 10), (24, 24), (200, 200), (9, 9), (8, 8)]
noncomputable def k746_u6 : ckCut := (5, ([(0, (1, 0)), (1, (0, 0)), (2, (0, 2))], [], dC425, dT461, [([(8, (0, 0))], [], [])], [], [], [], 0, 0), 9, 1, 0, 0)
noncomputable def dT462 : List ckI := [(13, 14), (0, 0), (50, 50), (60, 60), (10, 10), (24, 24), (200, 200), (9, 9), (8, 8)]
noncomputable def k746_u7 : ckCut := (5, ([(0, (1, 0)), (1, (0, 0)), (2, (0, 2))], [], dC425, dT462, [([(8, (0, 0))], [], [])], [], [], [], 0, 0), 9, 1, 0, 0)
noncomputable def dT463 : List ckI := [(15, 16), (0, 0), (50, 50), (60, 60), (10, 10), (24, 24), (200, 200), (9, 9), (8, 8)]
noncomputable def k746_u8 : ckCut := (5, ([(0, (1, 0)), (1, (0, 0)), (2, (0, 2))], [], dC425, dT463, [([(8, (0, 0))], [], [])], [], [], [], 0, 0), 9, 1, 0, 0)
noncomputable def dT464 : List ckI := [(17, 18), (0, 0), (50, 50), (60, 60), (10, 10), (24, 24), (200, 200), (9, 9), (8, 8)]
noncomputable def k746_u9 : ckCut := (5, ([(0, (1, 0)), (1, (0, 0)), (2, (0, 2))], [], dC425, dT464, [([(8, (0, 0))], [], [])], [], [], [], 0, 0), 9, 1, 0, 0)
noncomputable def dT465 : List ckI := [(19, 20), (0, 0), (50, 50), (60, 60), (10, 10), (24, 24), (200, 200), (9, 9), (8, 8)]
noncomputable def k746_u10 : ckCut := (5, ([(0, (1, 0)), (1, (0, 0)), (2, (0, 2))], [], dC425, dT465, [([(8, (0, 0))], [], [])], [], [], [], 0, 0), 9, 1, 0, 0)
noncomputable def dT466 : List ckI := [(21, 22), (0, 0), (50, 50), (60, 60), (10, 10), (24, 24), (200, 200), (9, 9), (8, 8)]
noncomputable def k746_u11 : ckCut := (5, ([(0, (1, 0)), (1, (0, 0)), (2, (0, 2))], [], dC425, dT466, [([(8, (0, 0))], [], [])], [], [], [], 0, 0), 9, 1, 0, 0)
noncomputable def dT467 : List ckI := [(23, 24), (0, 0), (50, 50), (60, 60), (10, 10), (24, 24), (200, 200), (9, 9), (8, 8)]
noncomputable def k746_u12 : ckCut := (5, ([(0, (1, 0)), (1, (0, 0)), (2, (0, 2))], [], dC425, dT467, [([(8, (0, 0))], [], [])], [], [], [], 0, 0), 9, 1, 0, 0)
noncomputable def dT468 : List ckI := [(25, 26), (0, 0), (50, 50), (60, 60), (10, 10), (24, 24), (200, 200), (9, 9), (8, 8)]
noncomputable def k746_u13 : ckCut := (5, ([(0, (1, 0)), (1, (0, 0)), (2, (0, 2))], [], dC425, dT468, [([(8, (0, 0))], [], [])], [], [], [], 0, 0), 9, 1, 0, 0)
noncomputable def dT469 : List ckI := [(27, 28), (0, 0), (50, 50), (60, 60), (10, 10), (24, 24), (200, 200), (9, 9), (8, 8)]
noncomputable def k746_u14 : ckCut := (5, ([(0, (1, 0)), (1, (0, 0)), (2, (0, 2))], [], dC425, dT469, [([(8, (0, 0))], [], [])], [], [], [], 0, 0), 9, 1, 0, 0)
noncomputable def dT470 : List ckI := [(29, 30), (0, 0), (50, 50), (60, 60), (10, 10), (24, 24), (200, 200), (9, 9), (8, 8)]
noncomputable def k746_u15 : ckCut := (5, ([(0, (1, 0)), (1, (0, 0)), (2, (0, 2))], [], dC425, dT470, [([(8, (0, 0))], [], [])], [], [], [], 0, 0), 9, 1, 0, 0)
noncomputable def dT471 : List ckI := [(31, 32), (0, 0), (50, 50), (60, 60), (10, 10), (24, 24), (200, 200), (9, 9), (8, 8)]
noncomputable def k746_u16 : ckCut := (5, ([(0, (1, 0)), (1, (0, 0)), (2, (0, 2))], [], dC425, dT471, [([(8, (0, 0))], [], [])], [], [], [], 0, 0), 9, 1, 0, 0)
noncomputable def dT472 : List ckI := [(33, 34), (0, 0), (50, 50), (60, 60), (10, 10), (24, 24), (200, 200), (9, 9), (8, 8)]
noncomputable def k746_u17 : ckCut := (5, ([(0, (1, 0)), (1, (0, 0)), (2, (0, 2))], [], dC425, dT472, [([(8, (0, 0))], [], [])], [], [], [], 0, 0), 9, 1, 0, 0)
noncomputable def dT473 : List ckI := [(35, 36), (0, 0), (50, 50), (60, 60), (10, 10), (24, 24), (200, 200), (9, 9), (8, 8)]
noncomputable def k746_u18 : ckCut := (5, ([(0, (1, 0)), (1, (0, 0)), (2, (0, 2))], [], dC425, dT473, [([(8, (0, 0))], [], [])], [], [], [], 0, 0), 9, 1, 0, 0)
noncomputable def dT474 : List ckI := [(37, 38), (0, 0), (50, 50), (60, 60), (10, 10), (24, 24), (200, 200), (9, 9), (8, 8)]
noncomputable def k746_u19 : ckCut := (5, ([(0, (1, 0)), (1, (0, 0)), (2, (0, 2))], [], dC425, dT474, [([(8, (0, 0))], [], [])], [], [], [], 0, 0), 9, 1, 0, 0)
noncomputable def dT475 : List ckI := [(39, 40), (0, 0), (50, 50), (60, 60), (10, 10), (24, 24), (200, 200), (9, 9), (8, 8)]
noncomputable def k746_u20 : ckCut := (5, ([(0, (1, 0)), (1, (0, 0)), (2, (0, 2))], [], dC425, dT475, [([(8, (0, 0))], [], [])], [], [], [], 0, 0), 9, 1, 0, 0)
noncomputable def dT476 : List ckI := [(41, 42), (0, 0), (50, 50), (60, 60), (10, 10), (24, 24), (200, 200), (9, 9), (8, 8)]
noncomputable def k746_u21 : ckCut := (5, ([(0, (1, 0)), (1, (0, 0)), (2, (0, 2))], [], dC425, dT476, [([(8, (0, 0))], [], [])], [], [], [], 0, 0), 9, 1, 0, 0)
noncomputable def dT477 : List ckI := [(43, 44), (0, 0), (50, 50), (60, 60), (10, 10), (24, 24), (200, 200), (9, 9), (8, 8)]
noncomputable def k746_u22 : ckCut := (5, ([(0, (1, 0)), (1, (0, 0)), (2, (0, 2))], [], dC425, dT477, [([(8, (0, 0))], [], [])], [], [], [], 0, 0), 9, 1, 0, 0)
noncomputable def dT478 : List ckI := [(45, 46), (0, 0), (50, 50), (60, 60), (10, 10), (24, 24), (200, 200), (9, 9), (8, 8)]
noncomputable def k746_u23 : ckCut := (5, ([(0, (1, 0)), (1, (0, 0)), (2, (0, 2))], [], dC425, dT478, [([(8, (0, 0))], [], [])], [], [], [], 0, 0), 9, 1, 0, 0)
noncomputable def dT479 : List ckI := [(47, 48), (0, 0), (50, 50), (60, 60), (10, 10), (24, 24), (200, 200), (9, 9), (8, 8)]
noncomputable def k746_u24 : ckCut := (5, ([(0, (1, 0)), (1, (0, 0)), (2, (0, 2))], [], dC425, dT479, [([(8, (0, 0))], [], [])], [], [], [], 0, 0), 9, 1, 0, 0)
noncomputable def dT480 : List ckI := [(49, 50), (0, 0), (50, 50), (60, 60), (10, 10), (24, 24), (200, 200), (9, 9), (8, 8)]
noncomputable def k746_u25 : ckCut := (5, ([(0, (1, 0)), (1, (0, 0)), (2, (0, 2))], [], dC425, dT480, [([(8, (0, 0))], [], [])], [], [], [], 0, 0), 9, 1, 0, 0)
noncomputable def dT481 : List ckI := [(51, 99), (0, 0), (50, 50), (60, 60), (10, 10), (24, 24), (200, 200), (9, 9), (8, 8)]
noncomputable def k746_u26 : ckCut := (5, ([(0, (1, 0)), (1, (0, 0)), (2, (0, 2))], [], dC425, dT481, [([(8, (0, 0))], [], [])], [], [], [], 0, 0), 9, 1, 0, 0)
noncomputable def k746_g26 : List ckCut := [k746_u26]
noncomputable def k746_g25 : List ckCut := k746_u25 :: k746_g26
noncomputable def k746_g24 : List ckCut := k746_u24 :: k746_g25
noncomputable def k746_g23 : List ckCut := k746_u23 :: k746_g24
noncomputable def k746_g22 : List ckCut := k746_u22 :: k746_g23
noncomputable def k746_g21 : List ckCut := k746_u21 :: k746_g22
noncomputable def k746_g20 : List ckCut := k746_u20 :: k746_g21
noncomputable def k746_g19 : List ckCut := k746_u19 :: k746_g20
noncomputable def k746_g18 : List ckCut := k746_u18 :: k746_g19
noncomputable def k746_g17 : List ckCut := k746_u17 :: k746_g18
noncomputable def k746_g16 : List ckCut := k746_u16 :: k746_g17
noncomputable def k746_g15 : List ckCut := k746_u15 :: k746_g16
noncomputable def k746_g14 : List ckCut := k746_u14 :: k746_g15
noncomputable def k746_g13 : List ckCut := k746_u13 :: k746_g14
noncomputable def k746_g12 : List ckCut := k746_u12 :: k746_g13
noncomputable def k746_g11 : List ckCut := k746_u11 :: k746_g12
noncomputable def k746_g10 : List ckCut := k746_u10 :: k746_g11
noncomputable def k746_g9 : List ckCut := k746_u9 :: k746_g10
noncomputable def k746_g8 : List ckCut := k746_u8 :: k746_g9
noncomputable def k746_g7 : List ckCut := k746_u7 :: k746_g8
noncomputable def k746_g6 : List ckCut := k746_u6 :: k746_g7
noncomputable def k746_g5 : List ckCut := k746_u5 :: k746_g6
noncomputable def k746_g4 : List ckCut := k746_u4 :: k746_g5
noncomputable def k746_g3 : List ckCut := k746_u3 :: k746_g4
noncomputable def k746_g2 : List ckCut := k746_u2 :: k746_g3
noncomputable def k746_g1 : List ckCut := k746_u1 :: k746_g2
noncomputable def k746_g0 : List ckCut := k746_u0 :: k746_g1
theorem k746_t0 : ckRun es_149 k746_a k746_c k746_g1 4 4 147 0 0 (ckEndF 1 0 0 k746.2.1 k746.2.2.1) ckKs ckKc 200000 0 5 k746_u0.2.1 [] = true := by decide +kernel
