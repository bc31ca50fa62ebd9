/-! THE CHECKER: contracts with their certificates (printed by wip/gen/p1gen.py) -/
-- FarMachine.warm
noncomputable def k747 : ckCtr := (28, ([(0, (1, 0)), (1, (0, 0))], [], dC109, dT110, [([(7, (0, 0))], [], []), ([(8, (0, 0))], [], [])], [], [], [], 0, 0), [([], [(0, 10)], [(2, .inr (0, 2, 2))], [], [(0, (-2147483648, -1))], [(-4, -4), (1, 1)], [([(4, (0, 0)), (5, (1, 1)), (7, (0, 0))], [(4, 11)], [])], [], [], [], 0, 0), ([], [(0, 10)], [(2, .inr (0, 2, 2))], [], [(0, (100, 2147483647))], [(-6, -6), (1, 1)], [([(6, (0, 0)), (7, (1, 1))], [(6, 11)], [])], [], [], [], 0, 0), ([], [(0, 10)], [], [], [(0, (1, 2))], [(25, 25)], [], [], [], [], 0, 0), ([], [(0, 6)], [], [], [(0, (3, 4))], [], [], [], [], [], 0, 0), ([], [(0, 10)], [], [], [(0, (5, 6))], [(23, 23)], [], [], [], [], 0, 0), ([], [(0, 10)], [], [], [(0, (7, 8))], [(22, 22)], [], [], [], [], 0, 0), ([], [(0, 10)], [], [], [(0, (9, 10))], [(21, 21)], [], [], [], [], 0, 0), ([], [(0, 10)], [], [], [(0, (11, 12))], [(20, 20)], [], [], [], [], 0, 0), ([], [(0, 10)], [], [], [(0, (13, 14))], [(19, 19)], [], [], [], [], 0, 0), ([], [(0, 10)], [], [], [(0, (15, 16))], [(18, 18)], [], [], [], [], 0, 0), ([], [(0, 10)], [], [], [(0, (17, 18))], [(17, 17)], [], [], [], [], 0, 0), ([], [(0, 10)], [], [], [(0, (19, 20))], [(16, 16)], [], [], [], [], 0, 0), ([], [(0, 10)], [], [], [(0, (21, 22))], [(15, 15)], [], [], [], [], 0, 0), ([], [(0, 10)], [], [], [(0, (23, 24))], [(14, 14)], [], [], [], [], 0, 0), ([], [(0, 10)], [], [], [(0, (25, 26))], [(13, 13)], [], [], [], [], 0, 0), ([], [(0, 10)], [], [], [(0, (27, 28))], [(12, 12)], [], [], [], [], 0, 0), ([], [(0, 10)], [], [], [(0, (29, 30))], [(11, 11)], [], [], [], [], 0, 0), ([], [(0, 5)], [], [], [(0, (31, 32))], [], [], [], [], [], 0, 0), ([], [(0, 8)], [], [], [(0, (33, 34))], [], [], [], [], [], 0, 0), ([], [(0, 9)], [], [], [(0, (35, 36))], [], [], [], [], [], 0, 0), ([], [(0, 2)], [], [], [(0, (37, 38))], [], [], [], [], [], 0, 0), ([], [(0, 10)], [], [], [(0, (39, 40))], [(6, 6)], [], [], [], [], 0, 0), ([], [(0, 10)], [], [], [(0, (41, 42))], [(5, 5)], [], [], [], [], 0, 0), ([], [(0, 10)], [], [], [(0, (43, 44))], [(4, 4)], [], [], [], [], 0, 0), ([], [(0, 10)], [], [], [(0, (45, 46))], [(3, 3)], [], [], [], [], 0, 0), ([], [(0, 10)], [], [], [(0, (47, 48))], [(2, 2)], [], [], [], [], 0, 0), ([], [(0, 10)], [], [], [(0, (49, 50))], [(1, 1)], [], [], [], [], 0, 0), ([], [(0, 1)], [], [], [(0, (51, 99))], [], [], [], [], [], 0, 0), ([], [(0, 10)], [], [], [(0, (0, 0))], [(-9, -9)], [], [], [], [], 0, 0)], 5, 170, 0, 0)
noncomputable def k747_a : ckAs := []
noncomputable def k747_c : List (Nat × ckCtr) := [(7, k15), (20, k16), (34, k746)]
theorem k747_ok (l : Launch) : ckCtrOk l ckMT ckTW ckCL k747 := mt_28 (as := k747_a) (cs := k747_c) (gx := []) (f := 200000) rfl (ckHc (k15_ok l) (ckHc (k16_ok l) (ckHc (k746_ok l) (fun _ h => absurd h List.not_mem_nil)))) True.intro (by decide +kernel)
-- FarMachineModel.within
noncomputable def k748 : ckCtr := (46, ([(0, (0, 0)), (1, (0, 0)), (2, (0, 1))], [], [], [(0, 0), (99, 99)], [], [], [], [], 0, 0), [([], [(0, 0)], [], [], [], [], [], [], [], [], 0, 0)], 1, 80, 0, 0)
noncomputable def k748_a : ckAs := []
noncomputable def k748_c : List (Nat × ckCtr) := []
theorem k748_ok (l : Launch) : ckCtrOk l ckMT ckTW ckCL k748 := mt_46 (as := k748_a) (cs := k748_c) (gx := []) (f := 200000) rfl (fun _ h => absurd h List.not_mem_nil) True.intro (by decide +kernel)
-- FarMachineModel.warms
noncomputable def k749 : ckCtr := (51, ([(0, (1, 0))], [], [.inr (0, 0, 0)], [(318, 318)], dG40, [], [], [], 0, 0), [([], [(0, 1)], [], [], [], [(0, 0)], [], [], [], [], 0, 0)], 1, 80, 0, 0)
noncomputable def k749_a : ckAs := []
noncomputable def k749_c : List (Nat × ckCtr) := []
theorem k749_ok (l : Launch) : ckCtrOk l ckMT ckTW ckCL k749 := mt_51 (as := k749_a) (cs := k749_c) (gx := []) (f := 200000) rfl (fun _ h => absurd h List.not_mem_nil) True.intro (by decide +kernel)
-- FarMachineModel.warm
noncomputable def k750 : ckCtr := (106, ([(0, (1, 0)), (1, (0, 0))], [], dC111, [(0, 0), (318, 318)], dG40, [], [], [], 0, 0), [([], [(0, 2)], [], [], [], [(-9, -9)], [], [], [], [], 0, 0)], 2, 102, 0, 0)
noncomputable def k750_a : ckAs := [(29, [(659003, [(1, 0, 1, ([(0, (1, 0)), (1, (0, 0)), (2, (0, 0)), (3, (0, 7)), (4, (0, 8))], [], [], [], [], [(0, 50), (0, 201)], [], [], [], [], 0, 0))])])]
noncomputable def k750_c : List (Nat × ckCtr) := [(4, k748), (50, k749), (59, k235)]
theorem k750_ok (l : Launch) : ckCtrOk l ckMT ckTW ckCL k750 := mt_106 (as := k750_a) (cs := k750_c) (gx := []) (f := 200000) rfl (ckHc (k748_ok l) (ckHc (k749_ok l) (ckHc (k235_ok l) (fun _ h => absurd h List.not_mem_nil)))) True.intro (by decide +kernel)
-- FarMachineModel.within
noncomputable def k751 : ckCtr := (46, ([(0, (0, 0)), (1, (0, 1)), (2, (0, 2))], [], [], [(1, 2), (0, 0), (99, 99)], [], [], [], [], 0, 0), [([], [(0, 1)], [], [], [], [], [], [], [], [], 0, 0)], 1, 80, 0, 0)
noncomputable def k751_a : ckAs := []
noncomputable def k751_c : List (Nat × ckCtr) := []
theorem k751_ok (l : Launch) : ckCtrOk l ckMT ckTW ckCL k751 := mt_46 (as := k751_a) (cs := k751_c) (gx := []) (f := 200000) rfl (fun _ h => absurd h List.not_mem_nil) True.intro (by decide +kernel)
-- FarMachineModel.held
noncomputable def k752 : ckCtr := (47, ([(0, (0, 0)), (1, (0, 1)), (2, (0, 2))], [], [], [(48, 48), (0, 0), (99, 99)], [], [], [], [], 0, 0), [([], [(0, 0)], [], [], [], [], [], [], [], [], 0, 0)], 1, 80, 0, 0)
noncomputable def k752_a : ckAs := []
noncomputable def k752_c : List (Nat × ckCtr) := []
theorem k752_ok (l : Launch) : ckCtrOk l ckMT ckTW ckCL k752 := mt_47 (as := k752_a) (cs := k752_c) (gx := []) (f := 200000) rfl (fun _ h => absurd h List.not_mem_nil) True.intro (by decide +kernel)
-- FarMachineModel.held
noncomputable def k753 : ckCtr := (47, ([(0, (0, 0)), (1, (0, 1)), (2, (0, 2))], [], [], [(46, 46), (0, 0), (99, 99)], [], [], [], [], 0, 0), [([], [(0, 0)], [], [], [], [], [], [], [], [], 0, 0)], 1, 80, 0, 0)
noncomputable def k753_a : ckAs := []
noncomputable def k753_c : List (Nat × ckCtr) := []
theorem k753_ok (l : Launch) : ckCtrOk l ckMT ckTW ckCL k753 := mt_47 (as := k753_a) (cs := k753_c) (gx := []) (f := 200000) rfl (fun _ h => absurd h List.not_mem_nil) True.intro (by decide +kernel)
-- FarMachineModel.held
noncomputable def k754 : ckCtr := (47, ([(0, (0, 0)), (1, (0, 1)), (2, (0, 2))], [], [], [(44, 44), (0, 0), (99, 99)], [], [], [], [], 0, 0), [([], [(0, 0)], [], [], [], [], [], [], [], [], 0, 0)], 1, 80, 0, 0)
noncomputable def k754_a : ckAs := []
noncomputable def k754_c : List (Nat × ckCtr) := []
theorem k754_ok (l : Launch) : ckCtrOk l ckMT ckTW ckCL k754 := mt_47 (as := k754_a) (cs := k754_c) (gx := []) (f := 200000) rfl (fun _ h => absurd h List.not_mem_nil) True.intro (by decide +kernel)
-- FarMachineModel.held
noncomputable def k755 : ckCtr := (47, ([(0, (0, 0)), (1, (0, 1)), (2, (0, 2))], [], [], [(42, 42), (0, 0), (99, 99)], [], [], [], [], 0, 0), [([], [(0, 0)], [], [], [], [], [], [], [], [], 0, 0)], 1, 80, 0, 0)
noncomputable def k755_a : ckAs := []
noncomputable def k755_c : List (Nat × ckCtr) := []
theorem k755_ok (l : Launch) : ckCtrOk l ckMT ckTW ckCL k755 := mt_47 (as := k755_a) (cs := k755_c) (gx := []) (f := 200000) rfl (fun _ h => absurd h List.not_mem_nil) True.intro (by decide +kernel)
-- FarMachineModel.held
noncomputable def k756 : ckCtr := (47, ([(0, (0, 0)), (1, (0, 1)), (2, (0, 2))], [], [], [(40, 40), (0, 0), (99, 99)], [], [], [], [], 0, 0), [([], [(0, 0)], [], [], [], [], [], [], [], [], 0, 0)], 1, 80, 0, 0)
noncomputable def k756_a : ckAs := []
noncomputable def k756_c : List (Nat × ckCtr) := []
theorem k756_ok (l : Launch) : ckCtrOk l ckMT ckTW ckCL k756 := mt_47 (as := k756_a) (cs := k756_c) (gx := []) (f := 200000) rfl (fun _ h => absurd h List.not_mem_nil) True.intro (by decide +kernel)
-- FarMachineModel.held
noncomputable def k757 : ckCtr := (47, ([(0, (0, 0)), (1, (0, 1)), (2, (0, 2))], [], [], [(38, 38), (0, 0), (99, 99)], [], [], [], [], 0, 0), [([], [(0, 0)], [], [], [], [], [], [], [], [], 0, 0)], 1, 80, 0, 0)
noncomputable def k757_a : ckAs := []
noncomputable def k757_c : List (Nat × ckCtr) := []
theorem k757_ok (l : Launch) : ckCtrOk l ckMT ckTW ckCL k757 := mt_47 (as := k757_a) (cs := k757_c) (gx := []) (f := 200000) rfl (fun _ h => absurd h List.not_mem_nil) True.intro (by decide +kernel)
-- FarMachineModel.held
noncomputable def k758 : ckCtr := (47, ([(0, (0, 0)), (1, (0, 1)), (2, (0, 2))], [], [], [(36, 36), (0, 0), (99, 99)], [], [], [], [], 0, 0), [([], [(0, 0)], [], [], [], [], [], [], [], [], 0, 0)], 1, 80, 0, 0)
noncomputable def k758_a : ckAs := []
noncomputable def k758_c : List (Nat × ckCtr) := []
theorem k758_ok (l : Launch) : ckCtrOk l ckMT ckTW ckCL k758 := mt_47 (as := k758_a) (cs := k758_c) (gx := []) (f := 200000) rfl (fun _ h => absurd h List.not_mem_nil) True.intro (by decide +kernel)
-- FarMachineModel.held
noncomputable def k759 : ckCtr := (47, ([(0, (0, 0)), (1, (0, 1)), (2, (0, 2))], [], [], [(34, 34), (0, 0), (99, 99)], [], [], [], [], 0, 0), [([], [(0, 0)], [], [], [], [], [], [], [], [], 0, 0)], 1, 80, 0, 0)
noncomputable def k759_a : ckAs := []
noncomputable def k759_c : List (Nat × ckCtr) := []
theorem k759_ok (l : Launch) : ckCtrOk l ckMT ckTW ckCL k759 := mt_47 (as := k759_a) (cs := k759_c) (gx := []) (f := 200000) rfl (fun _ h => absurd h List.not_mem_nil) True.intro (by decide +kernel)
-- FarMachineModel.held
noncomputable def k760 : ckCtr := (47, ([(0, (0, 0)), (1, (0, 1)), (2, (0, 2))], [], [], [(32, 32), (0, 0), (99, 99)], [], [], [], [], 0, 0), [([], [(0, 0)], [], [], [], [], [], [], [], [], 0, 0)], 1, 80, 0, 0)
noncomputable def k760_a : ckAs := []
noncomputable def k760_c : List (Nat × ckCtr) := []
theorem k760_ok (l : Launch) : ckCtrOk l ckMT ckTW ckCL k760 := mt_47 (as := k760_a) (cs := k760_c) (gx := []) (f := 200000) rfl (fun _ h => absurd h List.not_mem_nil) True.intro (by decide +kernel)
-- FarMachineModel.held
noncomputable def k761 : ckCtr := (47, ([(0, (0, 0)), (1, (0, 1)), (2, (0, 2))], [], [], [(30, 30), (0, 0), (99, 99)], [], [], [], [], 0, 0), [([], [(0, 0)], [], [], [], [], [], [], [], [], 0, 0)], 1, 80, 0, 0)
noncomputable def k761_a : ckAs := []
noncomputable def k761_c : List (Nat × ckCtr) := []
theorem k761_ok (l : Launch) : ckCtrOk l ckMT ckTW ckCL k761 := mt_47 (as := k761_a) (cs := k761_c) (gx := []) (f := 200000) rfl (fun _ h => absurd h List.not_mem_nil) True.intro (by decide +kernel)
-- FarMachineModel.held
noncomputable def k762 : ckCtr := (47, ([(0, (0, 0)), (1, (0, 1)), (2, (0, 2))], [], [], [(28, 28), (0, 0), (99, 99)], [], [], [], [], 0, 0), [([], [(0, 0)], [], [], [], [], [], [], [], [], 0, 0)], 1, 80, 0, 0)
noncomputable def k762_a : ckAs := []
noncomputable def k762_c : List (Nat × ckCtr) := []
theorem k762_ok (l : Launch) : ckCtrOk l ckMT ckTW ckCL k762 := mt_47 (as := k762_a) (cs := k762_c) (gx := []) (f := 200000) rfl (fun _ h => absurd h List.not_mem_nil) True.intro (by decide +kernel)
-- FarMachineModel.held
noncomputable def k763 : ckCtr := (47, ([(0, (0, 0)), (1, (0, 1)), (2, (0, 2))], [], [], [(26, 26), (0, 0), (99, 99)], [], [], [], [], 0, 0), [([], [(0, 0)], [], [], [], [], [], [], [], [], 0, 0)], 1, 80, 0, 0)
noncomputable def k763_a : ckAs := []
noncomputable def k763_c : List (Nat × ckCtr) := []
theorem k763_ok (l : Launch) : ckCtrOk l ckMT ckTW ckCL k763 := mt_47 (as := k763_a) (cs := k763_c) (gx := []) (f := 200000) rfl (fun _ h => absurd h List.not_mem_nil) True.intro (by decide +kernel)
-- FarMachineModel.held
noncomputable def k764 : ckCtr := (47, ([(0, (0, 0)), (1, (0, 1)), (2, (0, 2))], [], [], [(24, 24), (0, 0), (99, 99)], [], [], [], [], 0, 0), [([], [(0, 0)], [], [], [], [], [], [], [], [], 0, 0)], 1, 80, 0, 0)
noncomputable def k764_a : ckAs := []
noncomputable def k764_c : List (Nat × ckCtr) := []
theorem k764_ok (l : Launch) : ckCtrOk l ckMT ckTW ckCL k764 := mt_47 (as := k764_a) (cs := k764_c) (gx := []) (f := 200000) rfl (fun _ h => absurd h List.not_mem_nil) True.intro (by decide +kernel)
-- FarMachineModel.held
noncomputable def k765 : ckCtr := (47, ([(0, (0, 0)), (1, (0, 1)), (2, (0, 2))], [], [], [(22, 22), (0, 0), (99, 99)], [], [], [], [], 0, 0), [([], [(0, 0)], [], [], [], [], [], [], [], [], 0, 0)], 1, 80, 0, 0)
noncomputable def k765_a : ckAs := []
noncomputable def k765_c : List (Nat × ckCtr) := []
theorem k765_ok (l : Launch) : ckCtrOk l ckMT ckTW ckCL k765 := mt_47 (as := k765_a) (cs := k765_c) (gx := []) (f := 200000) rfl (fun _ h => absurd h List.not_mem_nil) True.intro (by decide +kernel)
-- FarMachineModel.held
noncomputable def k766 : ckCtr := (47, ([(0, (0, 0)), (1, (0, 1)), (2, (0, 2))], [], [], [(20, 20), (0, 0), (99, 99)], [], [], [], [], 0, 0), [([], [(0, 0)], [], [], [], [], [], [], [], [], 0, 0)], 1, 80, 0, 0)
noncomputable def k766_a : ckAs := []
noncomputable def k766_c : List (Nat × ckCtr) := []
theorem k766_ok (l : Launch) : ckCtrOk l ckMT ckTW ckCL k766 := mt_47 (as := k766_a) (cs := k766_c) (gx := []) (f := 200000) rfl (fun _ h => absurd h List.not_mem_nil) True.intro (by decide +kernel)
-- FarMachineModel.held
noncomputable def k767 : ckCtr := (47, ([(0, (0, 0)), (1, (0, 1)), (2, (0, 2))], [], [], [(18, 18), (0, 0), (99, 99)], [], [], [], [], 0, 0), [([], [(0, 0)], [], [], [], [], [], [], [], [], 0, 0)], 1, 80, 0, 0)
noncomputable def k767_a : ckAs := []
noncomputable def k767_c : List (Nat × ckCtr) := []
theorem k767_ok (l : Launch) : ckCtrOk l ckMT ckTW ckCL k767 := mt_47 (as := k767_a) (cs := k767_c) (gx := []) (f := 200000) rfl (fun _ h => absurd h List.not_mem_nil) True.intro (by decide +kernel)
-- FarMachineModel.held
noncomputable def k768 : ckCtr := (47, ([(0, (0, 0)), (1, (0, 1)), (2, (0, 2))], [], [], [(16, 16), (0, 0), (99, 99)], [], [], [], [], 0, 0), [([], [(0, 0)], [], [], [], [], [], [], [], [], 0, 0)], 1, 80, 0, 0)
noncomputable def k768_a : ckAs := []
noncomputable def k768_c : List (Nat × ckCtr) := []
theorem k768_ok (l : Launch) : ckCtrOk l ckMT ckTW ckCL k768 := mt_47 (as := k768_a) (cs := k768_c) (gx := []) (f := 200000) rfl (fun _ h => absurd h List.not_mem_nil) True.intro (by decide +kernel)
-- FarMachineModel.held
noncomputable def k769 : ckCtr := (47, ([(0, (0, 0)), (1, (0, 1)), (2, (0, 2))], [], [], [(14, 14), (0, 0), (99, 99)], [], [], [], [], 0, 0), [([], [(0, 0)], [], [], [], [], [], [], [], [], 0, 0)], 1, 80, 0, 0)
noncomputable def k769_a : ckAs := []
noncomputable def k769_c : List (Nat × ckCtr) := []
theorem k769_ok (l : Launch) : ckCtrOk l ckMT ckTW ckCL k769 := mt_47 (as := k769_a) (cs := k769_c) (gx := []) (f := 200000) rfl (fun _ h => absurd h List.not_mem_nil) True.intro (by decide +kernel)
-- FarMachineModel.held
noncomputable def k770 : ckCtr := (47, ([(0, (0, 0)), (1, (0, 1)), (2, (0, 2))], [], [], [(12, 12), (0, 0), (99, 99)], [], [], [], [], 0, 0), [([], [(0, 0)], [], [], [], [], [], [], [], [], 0, 0)], 1, 80, 0, 0)
noncomputable def k770_a : ckAs := []
noncomputable def k770_c : List (Nat × ckCtr) := []
theorem k770_ok (l : Launch) : ckCtrOk l ckMT ckTW ckCL k770 := mt_47 (as := k770_a) (cs := k770_c) (gx := []) (f := 200000) rfl (fun _ h => absurd h List.not_mem_nil) True.intro (by decide +kernel)
-- FarMachineModel.held
noncomputable def k771 : ckCtr := (47, ([(0, (0, 0)), (1, (0, 1)), (2, (0, 2))], [], [], [(10, 10), (0, 0), (99, 99)], [], [], [], [], 0, 0), [([], [(0, 0)], [], [], [], [], [], [], [], [], 0, 0)], 1, 80, 0, 0)
noncomputable def k771_a : ckAs := []
noncomputable def k771_c : List (Nat × ckCtr) := []
theorem k771_ok (l : Launch) : ckCtrOk l ckMT ckTW ckCL k771 := mt_47 (as := k771_a) (cs := k771_c) (gx := []) (f := 200000) rfl (fun _ h => absurd h List.not_mem_nil) True.intro (by decide +kernel)
-- FarMachineModel.held
noncomputable def k772 : ckCtr := (47, ([(0, (0, 0)), (1, (0, 1)), (2, (0, 2))], [], [], [(8, 8), (0, 0), (99, 99)], [], [], [], [], 0, 0), [([], [(0, 0)], [], [], [], [], [], [], [], [], 0, 0)], 1, 80, 0, 0)
noncomputable def k772_a : ckAs := []
noncomputable def k772_c : List (Nat × ckCtr) := []
theorem k772_ok (l : Launch) : ckCtrOk l ckMT ckTW ckCL k772 := mt_47 (as := k772_a) (cs := k772_c) (gx := []) (f := 200000) rfl (fun _ h => absurd h List.not_mem_nil) True.intro (by decide +kernel)
-- FarMachineModel.held
noncomputable def k773 : ckCtr := (47, ([(0, (0, 0)), (1, (0, 1)), (2, (0, 2))], [], [], [(6, 6), (0, 0), (99, 99)], [], [], [], [], 0, 0), [([], [(0, 0)], [], [], [], [], [], [], [], [], 0, 0)], 1, 80, 0, 0)
noncomputable def k773_a : ckAs := []
noncomputable def k773_c : List (Nat × ckCtr) := []
theorem k773_ok (l : Launch) : ckCtrOk l ckMT ckTW ckCL k773 := mt_47 (as := k773_a) (cs := k773_c) (gx := []) (f := 200000) rfl (fun _ h => absurd h List.not_mem_nil) True.intro (by decide +kernel)
-- FarMachineModel.held
noncomputable def k774 : ckCtr := (47, ([(0, (0, 0)), (1, (0, 1)), (2, (0, 2))], [], [], [(4, 4), (0, 0), (99, 99)], [], [], [], [], 0, 0), [([], [(0, 0)], [], [], [], [], [], [], [], [], 0, 0)], 1, 80, 0, 0)
noncomputable def k774_a : ckAs := []
noncomputable def k774_c : List (Nat × ckCtr) := []
theorem k774_ok (l : Launch) : ckCtrOk l ckMT ckTW ckCL k774 := mt_47 (as := k774_a) (cs := k774_c) (gx := []) (f := 200000) rfl (fun _ h => absurd h List.not_mem_nil) True.intro (by decide +kernel)
-- FarMachineModel.held
noncomputable def k775 : ckCtr := (47, ([(0, (0, 0)), (1, (0, 1)), (2, (0, 2))], [], [], [(2, 2), (0, 0), (99, 99)], [], [], [], [], 0, 0), [([], [(0, 0)], [], [], [], [], [], [], [], [], 0, 0)], 1, 80, 0, 0)
noncomputable def k775_a : ckAs := []
noncomputable def k775_c : List (Nat × ckCtr) := []
theorem k775_ok (l : Launch) : ckCtrOk l ckMT ckTW ckCL k775 := mt_47 (as := k775_a) (cs := k775_c) (gx := []) (f := 200000) rfl (fun _ h => absurd h List.not_mem_nil) True.intro (by decide +kernel)
-- FarMachineModel.held
noncomputable def k776 : ckCtr := (47, ([(0, (0, 0)), (1, (0, 0)), (2, (0, 1))], [], [], [(0, 0), (99, 99)], [], [], [], [], 0, 0), [([], [(0, 0)], [], [], [], [], [], [], [], [], 0, 0)], 1, 80, 0, 0)
noncomputable def k776_a : ckAs := []
noncomputable def k776_c : List (Nat × ckCtr) := []
theorem k776_ok (l : Launch) : ckCtrOk l ckMT ckTW ckCL k776 := mt_47 (as := k776_a) (cs := k776_c) (gx := []) (f := 200000) rfl (fun _ h => absurd h List.not_mem_nil) True.intro (by decide +kernel)
-- FarMachineModel.warm
noncomputable def k777 : ckCtr := (106, ([(0, (1, 0)), (1, (0, 0))], [], dC46, [(1, 2), (0, 0), (318, 318)], dG40, [], [], [], 0, 0), [([], [(0, 3)], [], [], [], [(25, 25)], [], [], [], [], 0, 0)], 2, 102, 0, 0)
noncomputable def k777_a : ckAs := []
noncomputable def k777_c : List (Nat × ckCtr) := [(4, k751), (50, k749), (59, k752), (59, k753), (59, k754), (59, k755), (59, k756), (59, k757), (59, k758), (59, k759), (59, k760), (59, k761), (59, k762), (59, k763), (59, k764), (59, k765), (59, k766), (59, k767), (59, k768), (59, k769), (59, k770), (59, k771), (59, k772), (59, k773), (59, k774), (59, k775), (59, k776)]
theorem k777_ok (l : Launch) : ckCtrOk l ckMT ckTW ckCL k777 := mt_106 (as := k777_a) (cs := k777_c) (gx := []) (f := 200000) rfl (ckHc (k751_ok l) (ckHc (k749_ok l) (ckHc (k752_ok l) (ckHc (k753_ok l) (ckHc (k754_ok l) (ckHc (k755_ok l) (ckHc (k756_ok l) (ckHc (k757_ok l) (ckHc (k758_ok l) (ckHc (k759_ok l) (ckHc (k760_ok l) (ckHc (k761_ok l) (ckHc (k762_ok l) (ckHc (k763_ok l) (ckHc (k764_ok l) (ckHc (k765_ok l) (ckHc (k766_ok l) (ckHc (k767_ok l) (ckHc (k768_ok l) (ckHc (k769_ok l) (ckHc (k770_ok l) (ckHc (k771_ok l) (ckHc (k772_ok l) (ckHc (k773_ok l) (ckHc (k774_ok l) (ckHc (k775_ok l) (ckHc (k776_ok l) (fun _ h => absurd h List.not_mem_nil)))))))))))))))))))))))))))) True.intro (by decide +kernel)
-- FarMachineModel.within
noncomputable def k778 : ckCtr := (46, ([(0, (0, 0)), (1, (0, 1)), (2, (0, 2))], [], [], [(3, 4), (0, 0), (99, 99)], [], [], [], [], 0, 0), [([], [(0, 1)], [], [], [], [], [], [], [], [], 0, 0)], 1, 80, 0, 0)
noncomputable def k778_a : ckAs := []
noncomputable def k778_c : List (Nat × ckCtr) := []
theorem k778_ok (l : Launch) : ckCtrOk l ckMT ckTW ckCL k778 := mt_46 (as := k778_a) (cs := k778_c) (gx := []) (f := 200000) rfl (fun _ h => absurd h List.not_mem_nil) True.intro (by decide +kernel)
-- FarMachineModel.warm
noncomputable def k779 : ckCtr := (106, ([(0, (1, 0)), (1, (0, 0))], [], dC46, [(3, 4), (0, 0), (318, 318)], dG40, [], [], [], 0, 0), [([], [(0, 3)], [], [], [], [(24, 24)], [], [], [], [], 0, 0)], 2, 102, 0, 0)
noncomputable def k779_a : ckAs := []
noncomputable def k779_c : List (Nat × ckCtr) := [(4, k778), (50, k749), (59, k752), (59, k753), (59, k754), (59, k755), (59, k756), (59, k757), (59, k758), (59, k759), (59, k760), (59, k761), (59, k762), (59, k763), (59, k764), (59, k765), (59, k766), (59, k767), (59, k768), (59, k769), (59, k770), (59, k771), (59, k772), (59, k773), (59, k774), (59, k775)]
theorem k779_ok (l : Launch) : ckCtrOk l ckMT ckTW ckCL k779 := mt_106 (as := k779_a) (cs := k779_c) (gx := []) (f := 200000) rfl (ckHc (k778_ok l) (ckHc (k749_ok l) (ckHc (k752_ok l) (ckHc (k753_ok l) (ckHc (k754_ok l) (ckHc (k755_ok l) (ckHc (k756_ok l) (ckHc (k757_ok l) (ckHc (k758_ok l) (ckHc (k759_ok l) (ckHc (k760_ok l) (ckHc (k761_ok l) (ckHc (k762_ok l) (ckHc (k763_ok l) (ckHc (k764_ok l) (ckHc (k765_ok l) (ckHc (k766_ok l) (ckHc (k767_ok l) (ckHc (k768_ok l) (ckHc (k769_ok l) (ckHc (k770_ok l) (ckHc (k771_ok l) (ckHc (k772_ok l) (ckHc (k773_ok l) (ckHc (k774_ok l) (ckHc (k775_ok l) (fun _ h => absurd h List.not_mem_nil))))))))))))))))))))))))))) True.intro (by decide +kernel)
-- FarMachineModel.within
noncomputable def k780 : ckCtr := (46, ([(0, (0, 0)), (1, (0, 1)), (2, (0, 2))], [], [], [(5, 6), (0, 0), (99, 99)], [], [], [], [], 0, 0), [([], [(0, 1)], [], [], [], [], [], [], [], [], 0, 0)], 1, 80, 0, 0)
noncomputable def k780_a : ckAs := []
noncomputable def k780_c : List (Nat × ckCtr) := []
theorem k780_ok (l : Launch) : ckCtrOk l ckMT ckTW ckCL k780 := mt_46 (as := k780_a) (cs := k780_c) (gx := []) (f := 200000) rfl (fun _ h => absurd h List.not_mem_nil) True.intro (by decide +kernel)
-- FarMachineModel.warm
noncomputable def k781 : ckCtr := (106, ([(0, (1, 0)), (1, (0, 0))], [], dC46, [(5, 6), (0, 0), (318, 318)], dG40, [], [], [], 0, 0), [([], [(0, 3)], [], [], [], [(23, 23)], [], [], [], [], 0, 0)], 2, 102, 0, 0)
noncomputable def k781_a : ckAs := []
noncomputable def k781_c : List (Nat × ckCtr) := [(4, k780), (50, k749), (59, k752), (59, k753), (59, k754), (59, k755), (59, k756), (59, k757), (59, k758), (59, k759), (59, k760), (59, k761), (59, k762), (59, k763), (59, k764), (59, k765), (59, k766), (59, k767), (59, k768), (59, k769), (59, k770), (59, k771), (59, k772), (59, k773), (59, k774)]
theorem k781_ok (l : Launch) : ckCtrOk l ckMT ckTW ckCL k781 := mt_106 (as := k781_a) (cs := k781_c) (gx := []) (f := 200000) rfl (ckHc (k780_ok l) (ckHc (k749_ok l) (ckHc (k752_ok l) (ckHc (k753_ok l) (ckHc (k754_ok l) (ckHc (k755_ok l) (ckHc (k756_ok l) (ckHc (k757_ok l) (ckHc (k758_ok l) (ckHc (k759_ok l) (ckHc (k760_ok l) (ckHc (k761_ok l) (ckHc (k762_ok l) (ckHc (k763_ok l) (ckHc (k764_ok l) (ckHc (k765_ok l) (ckHc (k766_ok l) (ckHc (k767_ok l) (ckHc (k768_ok l) (ckHc (k769_ok l) (ckHc (k770_ok l) (ckHc (k771_ok l) (ckHc (k772_ok l) (ckHc (k773_ok l) (ckHc (k774_ok l) (fun _ h => absurd h List.not_mem_nil)))))))))))))))))))))))))) True.intro (by decide +kernel)
-- FarMachineModel.within
noncomputable def k782 : ckCtr := (46, ([(0, (0, 0)), (1, (0, 1)), (2, (0, 2))], [], [], [(7, 8), (0, 0), (99, 99)], [], [], [], [], 0, 0), [([], [(0, 1)], [], [], [], [], [], [], [], [], 0, 0)], 1, 80, 0, 0)
noncomputable def k782_a : ckAs := []
noncomputable def k782_c : List (Nat × ckCtr) := []
theorem k782_ok (l : Launch) : ckCtrOk l ckMT ckTW ckCL k782 := mt_46 (as := k782_a) (cs := k782_c) (gx := []) (f := 200000) rfl (fun _ h => absurd h List.not_mem_nil) True.intro (by decide +kernel)
-- FarMachineModel.warm
noncomputable def k783 : ckCtr := (106, ([(0, (1, 0)), (1, (0, 0))], [], dC46, [(7, 8), (0, 0), (318, 318)], dG40, [], [], [], 0, 0), [([], [(0, 3)], [], [], [], [(22, 22)], [], [], [], [], 0, 0)], 2, 102, 0, 0)
noncomputable def k783_a : ckAs := []
noncomputable def k783_c : List (Nat × ckCtr) := [(4, k782), (50, k749), (59, k752), (59, k753), (59, k754), (59, k755), (59, k756), (59, k757), (59, k758), (59, k759), (59, k760), (59, k761), (59, k762), (59, k763), (59, k764), (59, k765), (59, k766), (59, k767), (59, k768), (59, k769), (59, k770), (59, k771), (59, k772), (59, k773)]
theorem k783_ok (l : Launch) : ckCtrOk l ckMT ckTW ckCL k783 := mt_106 (as := k783_a) (cs := k783_c) (gx := []) (f := 200000) rfl (ckHc (k782_ok l) (ckHc (k749_ok l) (ckHc (k752_ok l) (ckHc (k753_ok l) (ckHc (k754_ok l) (ckHc (k755_ok l) (ckHc (k756_ok l) (ckHc (k757_ok l) (ckHc (k758_ok l) (ckHc (k759_ok l) (ckHc (k760_ok l) (ckHc (k761_ok l) (ckHc (k762_ok l) (ckHc (k763_ok l) (ckHc (k764_ok l) (ckHc (k765_ok l) (ckHc (k766_ok l) (ckHc (k767_ok l) (ckHc (k768_ok l) (ckHc (k769_ok l) (ckHc (k770_ok l) (ckHc (k771_ok l) (ckHc (k772_ok l) (ckHc (k773_ok l) (fun _ h => absurd h List.not_mem_nil))))))))))))))))))))))))) True.intro (by decide +kernel)
-- FarMachineModel.within
noncomputable def k784 : ckCtr := (46, ([(0, (0, 0)), (1, (0, 1)), (2, (0, 2))], [], [], [(9, 10), (0, 0), (99, 99)], [], [], [], [], 0, 0), [([], [(0, 1)], [], [], [], [], [], [], [], [], 0, 0)], 1, 80, 0, 0)
noncomputable def k784_a : ckAs := []
noncomputable def k784_c : List (Nat × ckCtr) := []
theorem k784_ok (l : Launch) : ckCtrOk l ckMT ckTW ckCL k784 := mt_46 (as := k784_a) (cs := k784_c) (gx := []) (f := 200000) rfl (fun _ h => absurd h List.not_mem_nil) True.intro (by decide +kernel)
-- FarMachineModel.warm
noncomputable def k785 : ckCtr := (106, ([(0, (1, 0)), (1, (0, 0))], [], dC46, [(9, 10), (0, 0), (318, 318)], dG40, [], [], [], 0, 0), [([], [(0, 3)], [], [], [], [(21, 21)], [], [], [], [], 0, 0)], 2, 102, 0, 0)
noncomputable def k785_a : ckAs := []
noncomputable def k785_c : List (Nat × ckCtr) := [(4, k784), (50, k749), (59, k752), (59, k753), (59, k754), (59, k755), (59, k756), (59, k757), (59, k758), (59, k759), (59, k760), (59, k761), (59, k762), (59, k763), (59, k764), (59, k765), (59, k766), (59, k767), (59, k768), (59, k769), (59, k770), (59, k771), (59, k772)]
theorem k785_ok (l : Launch) : ckCtrOk l ckMT ckTW ckCL k785 := mt_106 (as := k785_a) (cs := k785_c) (gx := []) (f := 200000) rfl (ckHc (k784_ok l) (ckHc (k749_ok l) (ckHc (k752_ok l) (ckHc (k753_ok l) (ckHc (k754_ok l) (ckHc (k755_ok l) (ckHc (k756_ok l) (ckHc (k757_ok l) (ckHc (k758_ok l) (ckHc (k759_ok l) (ckHc (k760_ok l) (ckHc (k761_ok l) (ckHc (k762_ok l) (ckHc (k763_ok l) (ckHc (k764_ok l) (ckHc (k765_ok l) (ckHc (k766_ok l) (ckHc (k767_ok l) (ckHc (k768_ok l) (ckHc (k769_ok l) (ckHc (k770_ok l) (ckHc (k771_ok l) (ckHc (k772_ok l) (fun _ h => absurd h List.not_mem_nil)))))))))))))))))))))))) True.intro (by decide +kernel)
-- FarMachineModel.within
noncomputable def k786 : ckCtr := (46, ([(0, (0, 0)), (1, (0, 1)), (2, (0, 2))], [], [], [(11, 12), (0, 0), (99, 99)], [], [], [], [], 0, 0), [([], [(0, 1)], [], [], [], [], [], [], [], [], 0, 0)], 1, 80, 0, 0)
noncomputable def k786_a : ckAs := []
noncomputable def k786_c : List (Nat × ckCtr) := []
theorem k786_ok (l : Launch) : ckCtrOk l ckMT ckTW ckCL k786 := mt_46 (as := k786_a) (cs := k786_c) (gx := []) (f := 200000) rfl (fun _ h => absurd h List.not_mem_nil) True.intro (by decide +kernel)
-- FarMachineModel.warm
noncomputable def k787 : ckCtr := (106, ([(0, (1, 0)), (1, (0, 0))], [], dC46, [(11, 12), (0, 0), (318, 318)], dG40, [], [], [], 0, 0), [([], [(0, 3)], [], [], [], [(20, 20)], [], [], [], [], 0, 0)], 2, 102, 0, 0)
noncomputable def k787_a : ckAs := []
noncomputable def k787_c : List (Nat × ckCtr) := [(4, k786), (50, k749), (59, k752), (59, k753), (59, k754), (59, k755), (59, k756), (59, k757), (59, k758), (59, k759), (59, k760), (59, k761), (59, k762), (59, k763), (59, k764), (59, k765), (59, k766), (59, k767), (59, k768), (59, k769), (59, k770), (59, k771)]
theorem k787_ok (l : Launch) : ckCtrOk l ckMT ckTW ckCL k787 := mt_106 (as := k787_a) (cs := k787_c) (gx := []) (f := 200000) rfl (ckHc (k786_ok l) (ckHc (k749_ok l) (ckHc (k752_ok l) (ckHc (k753_ok l) (ckHc (k754_ok l) (ckHc (k755_ok l) (ckHc (k756_ok l) (ckHc (k757_ok l) (ckHc (k758_ok l) (ckHc (k759_ok l) (ckHc (k760_ok l) (ckHc (k761_ok l) (ckHc (k762_ok l) (ckHc (k763_ok l) (ckHc (k764_ok l) (ckHc (k765_ok l) (ckHc (k766_ok l) (ckHc (k767_ok l) (ckHc (k768_ok l) (ckHc (k769_ok l) (ckHc (k770_ok l) (ckHc (k771_ok l) (fun _ h => absurd h List.not_mem_nil))))))))))))))))))))))) True.intro (by decide +kernel)
-- FarMachineModel.within
noncomputable def k788 : ckCtr := (46, ([(0, (0, 0)), (1, (0, 1)), (2, (0, 2))], [], [], [(13, 14), (0, 0), (99, 99)], [], [], [], [], 0, 0), [([], [(0, 1)], [], [], [], [], [], [], [], [], 0, 0)], 1, 80, 0, 0)
noncomputable def k788_a : ckAs := []
noncomputable def k788_c : List (Nat × ckCtr) := []
theorem k788_ok (l : Launch) : ckCtrOk l ckMT ckTW ckCL k788 := mt_46 (as := k788_a) (cs := k788_c) (gx := []) (f := 200000) rfl (fun _ h => absurd h List.not_mem_nil) True.intro (by decide +kernel)
-- FarMachineModel.warm
noncomputable def k789 : ckCtr := (106, ([(0, (1, 0)), (1, (0, 0))], [], dC46, [(13, 14), (0, 0), (318, 318)], dG40, [], [], [], 0, 0), [([], [(0, 3)], [], [], [], [(19, 19)], [], [], [], [], 0, 0)], 2, 102, 0, 0)
noncomputable def k789_a : ckAs := []
noncomputable def k789_c : List (Nat × ckCtr) := [(4, k788), (50, k749), (59, k752), (59, k753), (59, k754), (59, k755), (59, k756), (59, k757), (59, k758), (59, k759), (59, k760), (59, k761), (59, k762), (59, k763), (59, k764), (59, k765), (59, k766), (59, k767), (59, k768), (59, k769), (59, k770)]
theorem k789_ok (l : Launch) : ckCtrOk l ckMT ckTW ckCL k789 := mt_106 (as := k789_a) (cs := k789_c) (gx := []) (f := 200000) rfl (ckHc (k788_ok l) (ckHc (k749_ok l) (ckHc (k752_ok l) (ckHc (k753_ok l) (ckHc (k754_ok l) (ckHc (k755_ok l) (ckHc (k756_ok l) (ckHc (k757_ok l) (ckHc (k758_ok l) (ckHc (k759_ok l) (ckHc (k760_ok l) (ckHc (k761_ok l) (ckHc (k762_ok l) (ckHc (k763_ok l) (ckHc (k764_ok l) (ckHc (k765_ok l) (ckHc (k766_ok l) (ckHc (k767_ok l) (ckHc (k768_ok l) (ckHc (k769_ok l) (ckHc (k770_ok l) (fun _ h => absurd h List.not_mem_nil)))))))))))))))))))))) True.intro (by decide +kernel)
-- FarMachineModel.within
noncomputable def k790 : ckCtr := (46, ([(0, (0, 0)), (1, (0, 1)), (2, (0, 2))], [], [], [(15, 16), (0, 0), (99, 99)], [], [], [], [], 0, 0), [([], [(0, 1)], [], [], [], [], [], [], [], [], 0, 0)], 1, 80, 0, 0)
noncomputable def k790_a : ckAs := []
noncomputable def k790_c : List (Nat × ckCtr) := []
theorem k790_ok (l : Launch) : ckCtrOk l ckMT ckTW ckCL k790 := mt_46 (as := k790_a) (cs := k790_c) (gx := []) (f := 200000) rfl (fun _ h => absurd h List.not_mem_nil) True.intro (by decide +kernel)
-- FarMachineModel.warm
noncomputable def k791 : ckCtr := (106, ([(0, (1, 0)), (1, (0, 0))], [], dC46, [(15, 16), (0, 0), (318, 318)], dG40, [], [], [], 0, 0), [([], [(0, 3)], [], [], [], [(18, 18)], [], [], [], [], 0, 0)], 2, 102, 0, 0)
noncomputable def k791_a : ckAs := []
noncomputable def k791_c : List (Nat × ckCtr) := [(4, k790), (50, k749), (59, k752), (59, k753), (59, k754), (59, k755), (59, k756), (59, k757), (59, k758), (59, k759), (59, k760), (59, k761), (59, k762), (59, k763), (59, k764), (59, k765), (59, k766), (59, k767), (59, k768), (59, k769)]
theorem k791_ok (l : Launch) : ckCtrOk l ckMT ckTW ckCL k791 := mt_106 (as := k791_a) (cs := k791_c) (gx := []) (f := 200000) rfl (ckHc (k790_ok l) (ckHc (k749_ok l) (ckHc (k752_ok l) (ckHc (k753_ok l) (ckHc (k754_ok l) (ckHc (k755_ok l) (ckHc (k756_ok l) (ckHc (k757_ok l) (ckHc (k758_ok l) (ckHc (k759_ok l) (ckHc (k760_ok l) (ckHc (k761_ok l) (ckHc (k762_ok l) (ckHc (k763_ok l) (ckHc (k764_ok l) (ckHc (k765_ok l) (ckHc (k766_ok l) (ckHc (k767_ok l) (ckHc (k768_ok l) (ckHc (k769_ok l) (fun _ h => absurd h List.not_mem_nil))))))))))))))))))))) True.intro (by decide +kernel)
-- FarMachineModel.within
noncomputable def k792 : ckCtr := (46, ([(0, (0, 0)), (1, (0, 1)), (2, (0, 2))], [], [], [(17, 18), (0, 0), (99, 99)], [], [], [], [], 0, 0), [([], [(0, 1)], [], [], [], [], [], [], [], [], 0, 0)], 1, 80, 0, 0)
noncomputable def k792_a : ckAs := []
noncomputable def k792_c : List (Nat × ckCtr) := []
theorem k792_ok (l : Launch) : ckCtrOk l ckMT ckTW ckCL k792 := mt_46 (as := k792_a) (cs := k792_c) (gx := []) (f := 200000) rfl (fun _ h => absurd h List.not_mem_nil) True.intro (by decide +kernel)
-- FarMachineModel.warm
noncomputable def k793 : ckCtr := (106, ([(0, (1, 0)), (1, (0, 0))], [], dC46, [(17, 18), (0, 0), (318, 318)], dG40, [], [], [], 0, 0), [([], [(0, 3)], [], [], [], [(17, 17)], [], [], [], [], 0, 0)], 2, 102, 0, 0)
noncomputable def k793_a : ckAs := []
noncomputable def k793_c : List (Nat × ckCtr) := [(4, k792), (50, k749), (59, k752), (59, k753), (59, k754), (59, k755), (59, k756), (59, k757), (59, k758), (59, k759), (59, k760), (59, k761), (59, k762), (59, k763), (59, k764), (59, k765), (59, k766), (59, k767), (59, k768)]
theorem k793_ok (l : Launch) : ckCtrOk l ckMT ckTW ckCL k793 := mt_106 (as := k793_a) (cs := k793_c) (gx := []) (f := 200000) rfl (ckHc (k792_ok l) (ckHc (k749_ok l) (ckHc (k752_ok l) (ckHc (k753_ok l) (ckHc (k754_ok l) (ckHc (k755_ok l) (ckHc (k756_ok l) (ckHc (k757_ok l) (ckHc (k758_ok l) (ckHc (k759_ok l) (ckHc (k760_ok l) (ckHc (k761_ok l) (ckHc (k762_ok l) (ckHc (k763_ok l) (ckHc (k764_ok l) (ckHc (k765_ok l) (ckHc (k766_ok l) (ckHc (k767_ok l) (ckHc (k768_ok l) (fun _ h => absurd h List.not_mem_nil)))))))))))))))))))) True.intro (by decide +kernel)
-- FarMachineModel.within
noncomputable def k794 : ckCtr := (46, ([(0, (0, 0)), (1, (0, 1)), (2, (0, 2))], [], [], [(19, 20), (0, 0), (99, 99)], [], [], [], [], 0, 0), [([], [(0, 1)], [], [], [], [], [], [], [], [], 0, 0)], 1, 80, 0, 0)
noncomputable def k794_a : ckAs := []
noncomputable def k794_c : List (Nat × ckCtr) := []
theorem k794_ok (l : Launch) : ckCtrOk l ckMT ckTW ckCL k794 := mt_46 (as := k794_a) (cs := k794_c) (gx := []) (f := 200000) rfl (fun _ h => absurd h List.not_mem_nil) True.intro (by decide +kernel)
-- FarMachineModel.warm
noncomputable def k795 : ckCtr := (106, ([(0, (1, 0)), (1, (0, 0))], [], dC46, [(19, 20), (0, 0), (318, 318)], dG40, [], [], [], 0, 0), [([], [(0, 3)], [], [], [], [(16, 16)], [], [], [], [], 0, 0)], 2, 102, 0, 0)
noncomputable def k795_a : ckAs := []
noncomputable def k795_c : List (Nat × ckCtr) := [(4, k794), (50, k749), (59, k752), (59, k753), (59, k754), (59, k755), (59, k756), (59, k757), (59, k758), (59, k759), (59, k760), (59, k761), (59, k762), (59, k763), (59, k764), (59, k765), (59, k766), (59, k767)]
theorem k795_ok (l : Launch) : ckCtrOk l ckMT ckTW ckCL k795 := mt_106 (as := k795_a) (cs := k795_c) (gx := []) (f := 200000) rfl (ckHc (k794_ok l) (ckHc (k749_ok l) (ckHc (k752_ok l) (ckHc (k753_ok l) (ckHc (k754_ok l) (ckHc (k755_ok l) (ckHc (k756_ok l) (ckHc (k757_ok l) (ckHc (k758_ok l) (ckHc (k759_ok l) (ckHc (k760_ok l) (ckHc (k761_ok l) (ckHc (k762_ok l) (ckHc (k763_ok l) (ckHc (k764_ok l) (ckHc (k765_ok l) (ckHc (k766_ok l) (ckHc (k767_ok l) (fun _ h => absurd h List.not_mem_nil))))))))))))))))))) True.intro (by decide +kernel)
-- FarMachineModel.within
noncomputable def k796 : ckCtr := (46, ([(0, (0, 0)), (1, (0, 1)), (2, (0, 2))], [], [], [(21, 22), (0, 0), (99, 99)], [], [], [], [], 0, 0), [([], [(0, 1)], [], [], [], [], [], [], [], [], 0, 0)], 1, 80, 0, 0)
noncomputable def k796_a : ckAs := []
noncomputable def k796_c : List (Nat × ckCtr) := []
theorem k796_ok (l : Launch) : ckCtrOk l ckMT ckTW ckCL k796 := mt_46 (as := k796_a) (cs := k796_c) (gx := []) (f := 200000) rfl (fun _ h => absurd h List.not_mem_nil) True.intro (by decide +kernel)
-- FarMachineModel.warm
noncomputable def k797 : ckCtr := (106, ([(0, (1, 0)), (1, (0, 0))], [], dC46, [(21, 22), (0, 0), (318, 318)], dG40, [], [], [], 0, 0), [([], [(0, 3)], [], [], [], [(15, 15)], [], [], [], [], 0, 0)], 2, 102, 0, 0)
noncomputable def k797_a : ckAs := []
noncomputable def k797_c : List (Nat × ckCtr) := [(4, k796), (50, k749), (59, k752), (59, k753), (59, k754), (59, k755), (59, k756), (59, k757), (59, k758), (59, k759), (59, k760), (59, k761), (59, k762), (59, k763), (59, k764), (59, k765), (59, k766)]
theorem k797_ok (l : Launch) : ckCtrOk l ckMT ckTW ckCL k797 := mt_106 (as := k797_a) (cs := k797_c) (gx := []) (f := 200000) rfl (ckHc (k796_ok l) (ckHc (k749_ok l) (ckHc (k752_ok l) (ckHc (k753_ok l) (ckHc (k754_ok l) (ckHc (k755_ok l) (ckHc (k756_ok l) (ckHc (k757_ok l) (ckHc (k758_ok l) (ckHc (k759_ok l) (ckHc (k760_ok l) (ckHc (k761_ok l) (ckHc (k762_ok l) (ckHc (k763_ok l) (ckHc (k764_ok l) (ckHc (k765_ok l) (ckHc (k766_ok l) (fun _ h => absurd h List.not_mem_nil)))))))))))))))))) True.intro (by decide +kernel)
-- FarMachineModel.within
noncomputable def k798 : ckCtr := (46, ([(0, (0, 0)), (1, (0, 1)), (2, (0, 2))], [], [], [(23, 24), (0, 0), (99, 99)], [], [], [], [], 0, 0), [([], [(0, 1)], [], [], [], [], [], [], [], [], 0, 0)], 1, 80, 0, 0)
noncomputable def k798_a : ckAs := []
noncomputable def k798_c : List (Nat × ckCtr) := []
theorem k798_ok (l : Launch) : ckCtrOk l ckMT ckTW ckCL k798 := mt_46 (as := k798_a) (cs := k798_c) (gx := []) (f := 200000) rfl (fun _ h => absurd h List.not_mem_nil) True.intro (by decide +kernel)
-- FarMachineModel.warm
noncomputable def k799 : ckCtr := (106, ([(0, (1, 0)), (1, (0, 0))], [], dC46, [(23, 24), (0, 0), (318, 318)], dG40, [], [], [], 0, 0), [([], [(0, 3)], [], [], [], [(14, 14)], [], [], [], [], 0, 0)], 2, 102, 0, 0)
noncomputable def k799_a : ckAs := []
noncomputable def k799_c : List (Nat × ckCtr) := [(4, k798), (50, k749), (59, k752), (59, k753), (59, k754), (59, k755), (59, k756), (59, k757), (59, k758), (59, k759), (59, k760), (59, k761), (59, k762), (59, k763), (59, k764), (59, k765)]
theorem k799_ok (l : Launch) : ckCtrOk l ckMT ckTW ckCL k799 := mt_106 (as := k799_a) (cs := k799_c) (gx := []) (f := 200000) rfl (ckHc (k798_ok l) (ckHc (k749_ok l) (ckHc (k752_ok l) (ckHc (k753_ok l) (ckHc (k754_ok l) (ckHc (k755_ok l) (ckHc (k756_ok l) (ckHc (k757_ok l) (ckHc (k758_ok l) (ckHc (k759_ok l) (ckHc (k760_ok l) (ckHc (k761_ok l) (ckHc (k762_ok l) (ckHc (k763_ok l) (ckHc (k764_ok l) (ckHc (k765_ok l) (fun _ h => absurd h List.not_mem_nil))))))))))))))))) True.intro (by decide +kernel)
-- FarMachineModel.within
noncomputable def k800 : ckCtr := (46, ([(0, (0, 0)), (1, (0, 1)), (2, (0, 2))], [], [], [(25, 26), (0, 0), (99, 99)], [], [], [], [], 0, 0), [([], [(0, 1)], [], [], [], [], [], [], [], [], 0, 0)], 1, 80, 0, 0)
noncomputable def k800_a : ckAs := []
noncomputable def k800_c : List (Nat × ckCtr) := []
theorem k800_ok (l : Launch) : ckCtrOk l ckMT ckTW ckCL k800 := mt_46 (as := k800_a) (cs := k800_c) (gx := []) (f := 200000) rfl (fun _ h => absurd h List.not_mem_nil) True.intro (by decide +kernel)
-- FarMachineModel.warm
noncomputable def k801 : ckCtr := (106, ([(0, (1, 0)), (1, (0, 0))], [], dC46, [(25, 26), (0, 0), (318, 318)], dG40, [], [], [], 0, 0), [([], [(0, 3)], [], [], [], [(13, 13)], [], [], [], [], 0, 0)], 2, 102, 0, 0)
noncomputable def k801_a : ckAs := []
noncomputable def k801_c : List (Nat × ckCtr) := [(4, k800), (50, k749), (59, k752), (59, k753), (59, k754), (59, k755), (59, k756), (59, k757), (59, k758), (59, k759), (59, k760), (59, k761), (59, k762), (59, k763), (59, k764)]
theorem k801_ok (l : Launch) : ckCtrOk l ckMT ckTW ckCL k801 := mt_106 (as := k801_a) (cs := k801_c) (gx := []) (f := 200000) rfl (ckHc (k800_ok l) (ckHc (k749_ok l) (ckHc (k752_ok l) (ckHc (k753_ok l) (ckHc (k754_ok l) (ckHc (k755_ok l) (ckHc (k756_ok l) (ckHc (k757_ok l) (ckHc (k758_ok l) (ckHc (k759_ok l) (ckHc (k760_ok l) (ckHc (k761_ok l) (ckHc (k762_ok l) (ckHc (k763_ok l) (ckHc (k764_ok l) (fun _ h => absurd h List.not_mem_nil)))))))))))))))) True.intro (by decide +kernel)
-- FarMachineModel.within
noncomputable def k802 : ckCtr := (46, ([(0, (0, 0)), (1, (0, 1)), (2, (0, 2))], [], [], [(27, 28), (0, 0), (99, 99)], [], [], [], [], 0, 0), [([], [(0, 1)], [], [], [], [], [], [], [], [], 0, 0)], 1, 80, 0, 0)
noncomputable def k802_a : ckAs := []
noncomputable def k802_c : List (Nat × ckCtr) := []
theorem k802_ok (l : Launch) : ckCtrOk l ckMT ckTW ckCL k802 := mt_46 (as := k802_a) (cs := k802_c) (gx := []) (f := 200000) rfl (fun _ h => absurd h List.not_mem_nil) True.intro (by decide +kernel)
-- FarMachineModel.warm
noncomputable def k803 : ckCtr := (106, ([(0, (1, 0)), (1, (0, 0))], [], dC46, [(27, 28), (0, 0), (318, 318)], dG40, [], [], [], 0, 0), [([], [(0, 3)], [], [], [], [(12, 12)], [], [], [], [], 0, 0)], 2, 102, 0, 0)
noncomputable def k803_a : ckAs := []
noncomputable def k803_c : List (Nat × ckCtr) := [(4, k802), (50, k749), (59, k752), (59, k753), (59, k754), (59, k755), (59, k756), (59, k757), (59, k758), (59, k759), (59, k760), (59, k761), (59, k762), (59, k763)]
theorem k803_ok (l : Launch) : ckCtrOk l ckMT ckTW ckCL k803 := mt_106 (as := k803_a) (cs := k803_c) (gx := []) (f := 200000) rfl (ckHc (k802_ok l) (ckHc (k749_ok l) (ckHc (k752_ok l) (ckHc (k753_ok l) (ckHc (k754_ok l) (ckHc (k755_ok l) (ckHc (k756_ok l) (ckHc (k757_ok l) (ckHc (k758_ok l) (ckHc (k759_ok l) (ckHc (k760_ok l) (ckHc (k761_ok l) (ckHc (k762_ok l) (ckHc (k763_ok l) (fun _ h => absurd h List.not_mem_nil))))))))))))))) True.intro (by decide +kernel)
-- FarMachineModel.within
noncomputable def k804 : ckCtr := (46, ([(0, (0, 0)), (1, (0, 1)), (2, (0, 2))], [], [], [(29, 30), (0, 0), (99, 99)], [], [], [], [], 0, 0), [([], [(0, 1)], [], [], [], [], [], [], [], [], 0, 0)], 1, 80, 0, 0)
noncomputable def k804_a : ckAs := []
noncomputable def k804_c : List (Nat × ckCtr) := []
theorem k804_ok (l : Launch) : ckCtrOk l ckMT ckTW ckCL k804 := mt_46 (as := k804_a) (cs := k804_c) (gx := []) (f := 200000) rfl (fun _ h => absurd h List.not_mem_nil) True.intro (by decide +kernel)
-- FarMachineModel.warm
noncomputable def k805 : ckCtr := (106, ([(0, (1, 0)), (1, (0, 0))], [], dC46, [(29, 30), (0, 0), (318, 318)], dG40, [], [], [], 0, 0), [([], [(0, 3)], [], [], [], [(11, 11)], [], [], [], [], 0, 0)], 2, 102, 0, 0)
noncomputable def k805_a : ckAs := []
noncomputable def k805_c : List (Nat × ckCtr) := [(4, k804), (50, k749), (59, k752), (59, k753), (59, k754), (59, k755), (59, k756), (59, k757), (59, k758), (59, k759), (59, k760), (59, k761), (59, k762)]
theorem k805_ok (l : Launch) : ckCtrOk l ckMT ckTW ckCL k805 := mt_106 (as := k805_a) (cs := k805_c) (gx := []) (f := 200000) rfl (ckHc (k804_ok l) (ckHc (k749_ok l) (ckHc (k752_ok l) (ckHc (k753_ok l) (ckHc (k754_ok l) (ckHc (k755_ok l) (ckHc (k756_ok l) (ckHc (k757_ok l) (ckHc (k758_ok l) (ckHc (k759_ok l) (ckHc (k760_ok l) (ckHc (k761_ok l) (ckHc (k762_ok l) (fun _ h => absurd h List.not_mem_nil)))))))))))))) True.intro (by decide +kernel)
-- FarMachineModel.within
noncomputable def k806 : ckCtr := (46, ([(0, (0, 0)), (1, (0, 1)), (2, (0, 2))], [], [], [(31, 32), (0, 0), (99, 99)], [], [], [], [], 0, 0), [([], [(0, 1)], [], [], [], [], [], [], [], [], 0, 0)], 1, 80, 0, 0)
noncomputable def k806_a : ckAs := []
noncomputable def k806_c : List (Nat × ckCtr) := []
theorem k806_ok (l : Launch) : ckCtrOk l ckMT ckTW ckCL k806 := mt_46 (as := k806_a) (cs := k806_c) (gx := []) (f := 200000) rfl (fun _ h => absurd h List.not_mem_nil) True.intro (by decide +kernel)
-- FarMachineModel.warm
noncomputable def k807 : ckCtr := (106, ([(0, (1, 0)), (1, (0, 0))], [], dC46, [(31, 32), (0, 0), (318, 318)], dG40, [], [], [], 0, 0), [([], [(0, 3)], [], [], [], [(10, 10)], [], [], [], [], 0, 0)], 2, 102, 0, 0)
noncomputable def k807_a : ckAs := []
noncomputable def k807_c : List (Nat × ckCtr) := [(4, k806), (50, k749), (59, k752), (59, k753), (59, k754), (59, k755), (59, k756), (59, k757), (59, k758), (59, k759), (59, k760), (59, k761)]
theorem k807_ok (l : Launch) : ckCtrOk l ckMT ckTW ckCL k807 := mt_106 (as := k807_a) (cs := k807_c) (gx := []) (f := 200000) rfl (ckHc (k806_ok l) (ckHc (k749_ok l) (ckHc (k752_ok l) (ckHc (k753_ok l) (ckHc (k754_ok l) (ckHc (k755_ok l) (ckHc (k756_ok l) (ckHc (k757_ok l) (ckHc (k758_ok l) (ckHc (k759_ok l) (ckHc (k760_ok l) (ckHc (k761_ok l) (fun _ h => absurd h List.not_mem_nil))))))))))))) True.intro (by decide +kernel)
-- FarMachineModel.within
noncomputable def k808 : ckCtr := (46, ([(0, (0, 0)), (1, (0, 1)), (2, (0, 2))], [], [], [(33, 34), (0, 0), (99, 99)], [], [], [], [], 0, 0), [([], [(0, 1)], [], [], [], [], [], [], [], [], 0, 0)], 1, 80, 0, 0)
noncomputable def k808_a : ckAs := []
noncomputable def k808_c : List (Nat × ckCtr) := []
theorem k808_ok (l : Launch) : ckCtrOk l ckMT ckTW ckCL k808 := mt_46 (as := k808_a) (cs := k808_c) (gx := []) (f := 200000) rfl (fun _ h => absurd h List.not_mem_nil) True.intro (by decide +kernel)
-- FarMachineModel.warm
noncomputable def k809 : ckCtr := (106, ([(0, (1, 0)), (1, (0, 0))], [], dC46, [(33, 34), (0, 0), (318, 318)], dG40, [], [], [], 0, 0), [([], [(0, 3)], [], [], [], [(9, 9)], [], [], [], [], 0, 0)], 2, 102, 0, 0)
noncomputable def k809_a : ckAs := []
noncomputable def k809_c : List (Nat × ckCtr) := [(4, k808), (50, k749), (59, k752), (59, k753), (59, k754), (59, k755), (59, k756), (59, k757), (59, k758), (59, k759), (59, k760)]
theorem k809_ok (l : Launch) : ckCtrOk l ckMT ckTW ckCL k809 := mt_106 (as := k809_a) (cs := k809_c) (gx := []) (f := 200000) rfl (ckHc (k808_ok l) (ckHc (k749_ok l) (ckHc (k752_ok l) (ckHc (k753_ok l) (ckHc (k754_ok l) (ckHc (k755_ok l) (ckHc (k756_ok l) (ckHc (k757_ok l) (ckHc (k758_ok l) (ckHc (k759_ok l) (ckHc (k760_ok l) (fun _ h => absurd h List.not_mem_nil)))))))))))) True.intro (by decide +kernel)
-- FarMachineModel.within
noncomputable def k810 : ckCtr := (46, ([(0, (0, 0)), (1, (0, 1)), (2, (0, 2))], [], [], [(35, 36), (0, 0), (99, 99)], [], [], [], [], 0, 0), [([], [(0, 1)], [], [], [], [], [], [], [], [], 0, 0)], 1, 80, 0, 0)
noncomputable def k810_a : ckAs := []
noncomputable def k810_c : List (Nat × ckCtr) := []
theorem k810_ok (l : Launch) : ckCtrOk l ckMT ckTW ckCL k810 := mt_46 (as := k810_a) (cs := k810_c) (gx := []) (f := 200000) rfl (fun _ h => absurd h List.not_mem_nil) True.intro (by decide +kernel)
-- FarMachineModel.warm
noncomputable def k811 : ckCtr := (106, ([(0, (1, 0)), (1, (0, 0))], [], dC46, [(35, 36), (0, 0), (318, 318)], dG40, [], [], [], 0, 0), [([], [(0, 3)], [], [], [], [(8, 8)], [], [], [], [], 0, 0)], 2, 102, 0, 0)
noncomputable def k811_a : ckAs := []
noncomputable def k811_c : List (Nat × ckCtr) := [(4, k810), (50, k749), (59, k752), (59, k753), (59, k754), (59, k755), (59, k756), (59, k757), (59, k758), (59, k759)]
theorem k811_ok (l : Launch) : ckCtrOk l ckMT ckTW ckCL k811 := mt_106 (as := k811_a) (cs := k811_c) (gx := []) (f := 200000) rfl (ckHc (k810_ok l) (ckHc (k749_ok l) (ckHc (k752_ok l) (ckHc (k753_ok l) (ckHc (k754_ok l) (ckHc (k755_ok l) (ckHc (k756_ok l) (ckHc (k757_ok l) (ckHc (k758_ok l) (ckHc (k759_ok l) (fun _ h => absurd h List.not_mem_nil))))))))))) True.intro (by decide +kernel)
-- FarMachineModel.within
noncomputable def k812 : ckCtr := (46, ([(0, (0, 0)), (1, (0, 1)), (2, (0, 2))], [], [], [(37, 38), (0, 0), (99, 99)], [], [], [], [], 0, 0), [([], [(0, 1)], [], [], [], [], [], [], [], [], 0, 0)], 1, 80, 0, 0)
noncomputable def k812_a : ckAs := []
noncomputable def k812_c : List (Nat × ckCtr) := []
theorem k812_ok (l : Launch) : ckCtrOk l ckMT ckTW ckCL k812 := mt_46 (as := k812_a) (cs := k812_c) (gx := []) (f := 200000) rfl (fun _ h => absurd h List.not_mem_nil) True.intro (by decide +kernel)
-- FarMachineModel.warm
noncomputable def k813 : ckCtr := (106, ([(0, (1, 0)), (1, (0, 0))], [], dC46, [(37, 38), (0, 0), (318, 318)], dG40, [], [], [], 0, 0), [([], [(0, 3)], [], [], [], [(7, 7)], [], [], [], [], 0, 0)], 2, 102, 0, 0)
noncomputable def k813_a : ckAs := []
noncomputable def k813_c : List (Nat × ckCtr) := [(4, k812), (50, k749), (59, k752), (59, k753), (59, k754), (59, k755), (59, k756), (59, k757), (59, k758)]
theorem k813_ok (l : Launch) : ckCtrOk l ckMT ckTW ckCL k813 := mt_106 (as := k813_a) (cs := k813_c) (gx := []) (f := 200000) rfl (ckHc (k812_ok l) (ckHc (k749_ok l) (ckHc (k752_ok l) (ckHc (k753_ok l) (ckHc (k754_ok l) (ckHc (k755_ok l) (ckHc (k756_ok l) (ckHc (k757_ok l) (ckHc (k758_ok l) (fun _ h => absurd h List.not_mem_nil)))))))))) True.intro (by decide +kernel)
-- FarMachineModel.within
noncomputable def k814 : ckCtr := (46, ([(0, (0, 0)), (1, (0, 1)), (2, (0, 2))], [], [], [(39, 40), (0, 0), (99, 99)], [], [], [], [], 0, 0), [([], [(0, 1)], [], [], [], [], [], [], [], [], 0, 0)], 1, 80, 0, 0)
noncomputable def k814_a : ckAs := []
noncomputable def k814_c : List (Nat × ckCtr) := []
theorem k814_ok (l : Launch) : ckCtrOk l ckMT ckTW ckCL k814 := mt_46 (as := k814_a) (cs := k814_c) (gx := []) (f := 200000) rfl (fun _ h => absurd h List.not_mem_nil) True.intro (by decide +kernel)
-- FarMachineModel.warm
noncomputable def k815 : ckCtr := (106, ([(0, (1, 0)), (1, (0, 0))], [], dC46, [(39, 40), (0, 0), (318, 318)], dG40, [], [], [], 0, 0), [([], [(0, 3)], [], [], [], [(6, 6)], [], [], [], [], 0, 0)], 2, 102, 0, 0)
noncomputable def k815_a : ckAs := []
noncomputable def k815_c : List (Nat × ckCtr) := [(4, k814), (50, k749), (59, k752), (59, k753), (59, k754), (59, k755), (59, k756), (59, k757)]
theorem k815_ok (l : Launch) : ckCtrOk l ckMT ckTW ckCL k815 := mt_106 (as := k815_a) (cs := k815_c) (gx := []) (f := 200000) rfl (ckHc (k814_ok l) (ckHc (k749_ok l) (ckHc (k752_ok l) (ckHc (k753_ok l) (ckHc (k754_ok l) (ckHc (k755_ok l) (ckHc (k756_ok l) (ckHc (k757_ok l) (fun _ h => absurd h List.not_mem_nil))))))))) True.intro (by decide +kernel)
-- FarMachineModel.within
noncomputable def k816 : ckCtr := (46, ([(0, (0, 0)), (1, (0, 1)), (2, (0, 2))], [], [], [(41, 42), (0, 0), (99, 99)], [], [], [], [], 0, 0), [([], [(0, 1)], [], [], [], [], [], [], [], [], 0, 0)], 1, 80, 0, 0)
noncomputable def k816_a : ckAs := []
noncomputable def k816_c : List (Nat × ckCtr) := []
theorem k816_ok (l : Launch) : ckCtrOk l ckMT ckTW ckCL k816 := mt_46 (as := k816_a) (cs := k816_c) (gx := []) (f := 200000) rfl (fun _ h => absurd h List.not_mem_nil) True.intro (by decide +kernel)
-- FarMachineModel.warm
noncomputable def k817 : ckCtr := (106, ([(0, (1, 0)), (1, (0, 0))], [], dC46, [(41, 42), (0, 0), (318, 318)], dG40, [], [], [], 0, 0), [([], [(0, 3)], [], [], [], [(5, 5)], [], [], [], [], 0, 0)], 2, 102, 0, 0)
noncomputable def k817_a : ckAs := []
noncomputable def k817_c : List (Nat × ckCtr) := [(4, k816), (50, k749), (59, k752), (59, k753), (59, k754), (59, k755), (59, k756)]
theorem k817_ok (l : Launch) : ckCtrOk l ckMT ckTW ckCL k817 := mt_106 (as := k817_a) (cs := k817_c) (gx := []) (f := 200000) rfl (ckHc (k816_ok l) (ckHc (k749_ok l) (ckHc (k752_ok l) (ckHc (k753_ok l) (ckHc (k754_ok l) (ckHc (k755_ok l) (ckHc (k756_ok l) (fun _ h => absurd h List.not_mem_nil)))))))) True.intro (by decide +kernel)
-- FarMachineModel.within
noncomputable def k818 : ckCtr := (46, ([(0, (0, 0)), (1, (0, 1)), (2, (0, 2))], [], [], [(43, 44), (0, 0), (99, 99)], [], [], [], [], 0, 0), [([], [(0, 1)], [], [], [], [], [], [], [], [], 0, 0)], 1, 80, 0, 0)
noncomputable def k818_a : ckAs := []
noncomputable def k818_c : List (Nat × ckCtr) := []
theorem k818_ok (l : Launch) : ckCtrOk l ckMT ckTW ckCL k818 := mt_46 (as := k818_a) (cs := k818_c) (gx := []) (f := 200000) rfl (fun _ h => absurd h List.not_mem_nil) True.intro (by decide +kernel)
-- FarMachineModel.warm
noncomputable def k819 : ckCtr := (106, ([(0, (1, 0)), (1, (0, 0))], [], dC46, [(43, 44), (0, 0), (318, 318)], dG40, [], [], [], 0, 0), [([], [(0, 3)], [], [], [], [(4, 4)], [], [], [], [], 0, 0)], 2, 102, 0, 0)
noncomputable def k819_a : ckAs := []
noncomputable def k819_c : List (Nat × ckCtr) := [(4, k818), (50, k749), (59, k752), (59, k753), (59, k754), (59, k755)]
theorem k819_ok (l : Launch) : ckCtrOk l ckMT ckTW ckCL k819 := mt_106 (as := k819_a) (cs := k819_c) (gx := []) (f := 200000) rfl (ckHc (k818_ok l) (ckHc (k749_ok l) (ckHc (k752_ok l) (ckHc (k753_ok l) (ckHc (k754_ok l) (ckHc (k755_ok l) (fun _ h => absurd h List.not_mem_nil))))))) True.intro (by decide +kernel)
-- FarMachineModel.within
noncomputable def k820 : ckCtr := (46, ([(0, (0, 0)), (1, (0, 1)), (2, (0, 2))], [], [], [(45, 46), (0, 0), (99, 99)], [], [], [], [], 0, 0), [([], [(0, 1)], [], [], [], [], [], [], [], [], 0, 0)], 1, 80, 0, 0)
noncomputable def k820_a : ckAs := []
noncomputable def k820_c : List (Nat × ckCtr) := []
theorem k820_ok (l : Launch) : ckCtrOk l ckMT ckTW ckCL k820 := mt_46 (as := k820_a) (cs := k820_c) (gx := []) (f := 200000) rfl (fun _ h => absurd h List.not_mem_nil) True.intro (by decide +kernel)
-- FarMachineModel.warm
noncomputable def k821 : ckCtr := (106, ([(0, (1, 0)), (1, (0, 0))], [], dC46, [(45, 46), (0, 0), (318, 318)], dG40, [], [], [], 0, 0), [([], [(0, 3)], [], [], [], [(3, 3)], [], [], [], [], 0, 0)], 2, 102, 0, 0)
noncomputable def k821_a : ckAs := []
noncomputable def k821_c : List (Nat × ckCtr) := [(4, k820), (50, k749), (59, k752), (59, k753), (59, k754)]
theorem k821_ok (l : Launch) : ckCtrOk l ckMT ckTW ckCL k821 := mt_106 (as := k821_a) (cs := k821_c) (gx := []) (f := 200000) rfl (ckHc (k820_ok l) (ckHc (k749_ok l) (ckHc (k752_ok l) (ckHc (k753_ok l) (ckHc (k754_ok l) (fun _ h => absurd h List.not_mem_nil)))))) True.intro (by decide +kernel)
-- FarMachineModel.within
noncomputable def k822 : ckCtr := (46, ([(0, (0, 0)), (1, (0, 1)), (2, (0, 2))], [], [], [(47, 48), (0, 0), (99, 99)], [], [], [], [], 0, 0), [([], [(0, 1)], [], [], [], [], [], [], [], [], 0, 0)], 1, 80, 0, 0)
noncomputable def k822_a : ckAs := []
noncomputable def k822_c : List (Nat × ckCtr) := []
theorem k822_ok (l : Launch) : ckCtrOk l ckMT ckTW ckCL k822 := mt_46 (as := k822_a) (cs := k822_c) (gx := []) (f := 200000) rfl (fun _ h => absurd h List.not_mem_nil) True.intro (by decide +kernel)
-- FarMachineModel.warm
noncomputable def k823 : ckCtr := (106, ([(0, (1, 0)), (1, (0, 0))], [], dC46, [(47, 48), (0, 0), (318, 318)], dG40, [], [], [], 0, 0), [([], [(0, 3)], [], [], [], [(2, 2)], [], [], [], [], 0, 0)], 2, 102, 0, 0)
noncomputable def k823_a : ckAs := []
noncomputable def k823_c : List (Nat × ckCtr) := [(4, k822), (50, k749), (59, k752), (59, k753)]
theorem k823_ok (l : Launch) : ckCtrOk l ckMT ckTW ckCL k823 := mt_106 (as := k823_a) (cs := k823_c) (gx := []) (f := 200000) rfl (ckHc (k822_ok l) (ckHc (k749_ok l) (ckHc (k752_ok l) (ckHc (k753_ok l) (fun _ h => absurd h List.not_mem_nil))))) True.intro (by decide +kernel)
-- FarMachineModel.within
noncomputable def k824 : ckCtr := (46, ([(0, (0, 0)), (1, (0, 1)), (2, (0, 2))], [], [], [(49, 50), (0, 0), (99, 99)], [], [], [], [], 0, 0), [([], [(0, 1)], [], [], [], [], [], [], [], [], 0, 0)], 1, 80, 0, 0)
noncomputable def k824_a : ckAs := []
noncomputable def k824_c : List (Nat × ckCtr) := []
theorem k824_ok (l : Launch) : ckCtrOk l ckMT ckTW ckCL k824 := mt_46 (as := k824_a) (cs := k824_c) (gx := []) (f := 200000) rfl (fun _ h => absurd h List.not_mem_nil) True.intro (by decide +kernel)
-- FarMachineModel.warm
noncomputable def k825 : ckCtr := (106, ([(0, (1, 0)), (1, (0, 0))], [], dC46, [(49, 50), (0, 0), (318, 318)], dG40, [], [], [], 0, 0), [([], [(0, 3)], [], [], [], [(1, 1)], [], [], [], [], 0, 0)], 2, 102, 0, 0)
noncomputable def k825_a : ckAs := []
noncomputable def k825_c : List (Nat × ckCtr) := [(4, k824), (50, k749), (59, k752)]
theorem k825_ok (l : Launch) : ckCtrOk l ckMT ckTW ckCL k825 := mt_106 (as := k825_a) (cs := k825_c) (gx := []) (f := 200000) rfl (ckHc (k824_ok l) (ckHc (k749_ok l) (ckHc (k752_ok l) (fun _ h => absurd h List.not_mem_nil)))) True.intro (by decide +kernel)
-- FarMachineModel.within
noncomputable def k826 : ckCtr := (46, ([(0, (0, 0)), (1, (0, 1)), (2, (0, 2))], [], [], [(51, 99), (0, 0), (99, 99)], [], [], [], [], 0, 0), [([], [(0, 1)], [], [], [], [], [], [], [], [], 0, 0)], 1, 80, 0, 0)
noncomputable def k826_a : ckAs := []
noncomputable def k826_c : List (Nat × ckCtr) := []
theorem k826_ok (l : Launch) : ckCtrOk l ckMT ckTW ckCL k826 := mt_46 (as := k826_a) (cs := k826_c) (gx := []) (f := 200000) rfl (fun _ h => absurd h List.not_mem_nil) True.intro (by decide +kernel)
-- FarMachineModel.warm
noncomputable def k827 : ckCtr := (106, ([(0, (1, 0)), (1, (0, 0))], [], dC46, [(51, 99), (0, 0), (318, 318)], dG40, [], [], [], 0, 0), [([], [(0, 1)], [], [], [], [], [], [], [], [], 0, 0)], 2, 102, 0, 0)
noncomputable def k827_a : ckAs := []
noncomputable def k827_c : List (Nat × ckCtr) := [(4, k826)]
theorem k827_ok (l : Launch) : ckCtrOk l ckMT ckTW ckCL k827 := mt_106 (as := k827_a) (cs := k827_c) (gx := []) (f := 200000) rfl (ckHc (k826_ok l) (fun _ h => absurd h List.not_mem_nil)) True.intro (by decide +kernel)
-- FarMachineModel.warm
noncomputable def k828 : ckCtr := (106, ([(0, (1, 0)), (1, (0, 0))], [], dC42, [(100, 2147483647), (0, 0), (7, 7)], [([(7, (0, 0))], [], [])], [], [], [], 0, 0), [([], [(0, 3)], [(1, .inr (0, 2, 1))], [], [], [(-6, -6), (1, 1)], [([(6, (0, 0)), (7, (1, 1))], [(6, 4)], [])], [], [], [], 0, 0)], 2, 102, 0, 0)
noncomputable def k828_a : ckAs := []
noncomputable def k828_c : List (Nat × ckCtr) := [(4, k93), (14, k25)]
theorem k828_ok (l : Launch) : ckCtrOk l ckMT ckTW ckCL k828 := mt_106 (as := k828_a) (cs := k828_c) (gx := []) (f := 200000) rfl (ckHc (k93_ok l) (ckHc (k25_ok l) (fun _ h => absurd h List.not_mem_nil))) True.intro (by decide +kernel)
-- FarMachineModel.warm
noncomputable def k829 : ckCtr := (106, ([(0, (1, 0)), (1, (0, 0))], [], dC42, [(-2147483648, -1), (0, 0), (7, 7)], [([(7, (0, 0))], [], [])], [], [], [], 0, 0), [([], [(0, 3)], [(1, .inr (0, 2, 1))], [], [], [(-4, -4), (1, 1)], [([(4, (0, 0)), (5, (1, 1)), (7, (0, 0))], [(4, 4)], [])], [], [], [], 0, 0)], 2, 102, 0, 0)
noncomputable def k829_a : ckAs := []
noncomputable def k829_c : List (Nat × ckCtr) := [(4, k111), (14, k28)]
theorem k829_ok (l : Launch) : ckCtrOk l ckMT ckTW ckCL k829 := mt_106 (as := k829_a) (cs := k829_c) (gx := []) (f := 200000) rfl (ckHc (k111_ok l) (ckHc (k28_ok l) (fun _ h => absurd h List.not_mem_nil))) True.intro (by decide +kernel)
-- FarMachine.held
noncomputable def k830 : ckCtr := (41, ([(0, (0, 0)), (1, (0, 1)), (2, (0, 2))], [], [], [(-20, -20), (-16, -16), (20, 20)], [], [], [], [], 0, 0), [([], [(0, 1)], [], [], [], [], [], [], [], [], 0, 0)], 1, 80, 0, 0)
noncomputable def k830_a : ckAs := []
noncomputable def k830_c : List (Nat × ckCtr) := []
theorem k830_ok (l : Launch) : ckCtrOk l ckMT ckTW ckCL k830 := mt_41 (as := k830_a) (cs := k830_c) (gx := []) (f := 200000) rfl (fun _ h => absurd h List.not_mem_nil) True.intro (by decide +kernel)
-- FarMachine.held
noncomputable def k831 : ckCtr := (41, ([(0, (0, 0)), (1, (0, 1)), (2, (0, 2))], [], [], [(-20, -20), (-15, -15), (20, 20)], [], [], [], [], 0, 0), [([], [(0, 1)], [], [], [], [], [], [], [], [], 0, 0)], 1, 80, 0, 0)
noncomputable def k831_a : ckAs := []
noncomputable def k831_c : List (Nat × ckCtr) := []
theorem k831_ok (l : Launch) : ckCtrOk l ckMT ckTW ckCL k831 := mt_41 (as := k831_a) (cs := k831_c) (gx := []) (f := 200000) rfl (fun _ h => absurd h List.not_mem_nil) True.intro (by decide +kernel)
-- FarMachine.held
noncomputable def k832 : ckCtr := (41, ([(0, (0, 0)), (1, (0, 1)), (2, (0, 2))], [], [], [(-20, -20), (-14, -14), (20, 20)], [], [], [], [], 0, 0), [([], [(0, 1)], [], [], [], [], [], [], [], [], 0, 0)], 1, 80, 0, 0)
noncomputable def k832_a : ckAs := []
noncomputable def k832_c : List (Nat × ckCtr) := []
theorem k832_ok (l : Launch) : ckCtrOk l ckMT ckTW ckCL k832 := mt_41 (as := k832_a) (cs := k832_c) (gx := []) (f := 200000) rfl (fun _ h => absurd h List.not_mem_nil) True.intro (by decide +kernel)
-- FarMachine.held
noncomputable def k833 : ckCtr := (41, ([(0, (0, 0)), (1, (0, 1)), (2, (0, 2))], [], [], [(-20, -20), (-13, -13), (20, 20)], [], [], [], [], 0, 0), [([], [(0, 1)], [], [], [], [], [], [], [], [], 0, 0)], 1, 80, 0, 0)
noncomputable def k833_a : ckAs := []
noncomputable def k833_c : List (Nat × ckCtr) := []
theorem k833_ok (l : Launch) : ckCtrOk l ckMT ckTW ckCL k833 := mt_41 (as := k833_a) (cs := k833_c) (gx := []) (f := 200000) rfl (fun _ h => absurd h List.not_mem_nil) True.intro (by decide +kernel)
-- FarMachine.held
noncomputable def k834 : ckCtr := (41, ([(0, (0, 0)), (1, (0, 1)), (2, (0, 2))], [], [], [(-20, -20), (-12, -12), (20, 20)], [], [], [], [], 0, 0), [([], [(0, 1)], [], [], [], [], [], [], [], [], 0, 0)], 1, 80, 0, 0)
noncomputable def k834_a : ckAs := []
noncomputable def k834_c : List (Nat × ckCtr) := []
theorem k834_ok (l : Launch) : ckCtrOk l ckMT ckTW ckCL k834 := mt_41 (as := k834_a) (cs := k834_c) (gx := []) (f := 200000) rfl (fun _ h => absurd h List.not_mem_nil) True.intro (by decide +kernel)
