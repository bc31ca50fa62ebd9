/-! THE CHECKER: contracts with their certificates (printed by wip/gen/p1gen.py) -/
-- FarMachineModel.held
noncomputable def k883 : ckCtr := (47, ([(0, (0, 0)), (1, (0, 1)), (2, (0, 2))], [], [], [(-14, -14), (-20, -20), (20, 20)], [], [], [], [], 0, 0), [([], [(0, 0)], [], [], [], [], [], [], [], [], 0, 0)], 1, 80, 0, 0)
noncomputable def k883_a : ckAs := []
noncomputable def k883_c : List (Nat × ckCtr) := []
theorem k883_ok (l : Launch) : ckCtrOk l ckMT ckTW ckCL k883 := mt_47 (as := k883_a) (cs := k883_c) (gx := []) (f := 200000) rfl (fun _ h => absurd h List.not_mem_nil) True.intro (by decide +kernel)
-- FarMachineModel.held
noncomputable def k884 : ckCtr := (47, ([(0, (0, 0)), (1, (0, 1)), (2, (0, 2))], [], [], [(-13, -13), (-20, -20), (20, 20)], [], [], [], [], 0, 0), [([], [(0, 0)], [], [], [], [], [], [], [], [], 0, 0)], 1, 80, 0, 0)
noncomputable def k884_a : ckAs := []
noncomputable def k884_c : List (Nat × ckCtr) := []
theorem k884_ok (l : Launch) : ckCtrOk l ckMT ckTW ckCL k884 := mt_47 (as := k884_a) (cs := k884_c) (gx := []) (f := 200000) rfl (fun _ h => absurd h List.not_mem_nil) True.intro (by decide +kernel)
-- FarMachineModel.held
noncomputable def k885 : ckCtr := (47, ([(0, (0, 0)), (1, (0, 1)), (2, (0, 2))], [], [], [(-12, -12), (-20, -20), (20, 20)], [], [], [], [], 0, 0), [([], [(0, 0)], [], [], [], [], [], [], [], [], 0, 0)], 1, 80, 0, 0)
noncomputable def k885_a : ckAs := []
noncomputable def k885_c : List (Nat × ckCtr) := []
theorem k885_ok (l : Launch) : ckCtrOk l ckMT ckTW ckCL k885 := mt_47 (as := k885_a) (cs := k885_c) (gx := []) (f := 200000) rfl (fun _ h => absurd h List.not_mem_nil) True.intro (by decide +kernel)
-- FarMachineModel.held
noncomputable def k886 : ckCtr := (47, ([(0, (0, 0)), (1, (0, 1)), (2, (0, 2))], [], [], [(-11, -11), (-20, -20), (20, 20)], [], [], [], [], 0, 0), [([], [(0, 0)], [], [], [], [], [], [], [], [], 0, 0)], 1, 80, 0, 0)
noncomputable def k886_a : ckAs := []
noncomputable def k886_c : List (Nat × ckCtr) := []
theorem k886_ok (l : Launch) : ckCtrOk l ckMT ckTW ckCL k886 := mt_47 (as := k886_a) (cs := k886_c) (gx := []) (f := 200000) rfl (fun _ h => absurd h List.not_mem_nil) True.intro (by decide +kernel)
-- FarMachineModel.held
noncomputable def k887 : ckCtr := (47, ([(0, (0, 0)), (1, (0, 1)), (2, (0, 2))], [], [], [(-10, -10), (-20, -20), (20, 20)], [], [], [], [], 0, 0), [([], [(0, 0)], [], [], [], [], [], [], [], [], 0, 0)], 1, 80, 0, 0)
noncomputable def k887_a : ckAs := []
noncomputable def k887_c : List (Nat × ckCtr) := []
theorem k887_ok (l : Launch) : ckCtrOk l ckMT ckTW ckCL k887 := mt_47 (as := k887_a) (cs := k887_c) (gx := []) (f := 200000) rfl (fun _ h => absurd h List.not_mem_nil) True.intro (by decide +kernel)
-- FarMachineModel.held
noncomputable def k888 : ckCtr := (47, ([(0, (0, 0)), (1, (0, 1)), (2, (0, 2))], [], [], [(-9, -9), (-20, -20), (20, 20)], [], [], [], [], 0, 0), [([], [(0, 0)], [], [], [], [], [], [], [], [], 0, 0)], 1, 80, 0, 0)
noncomputable def k888_a : ckAs := []
noncomputable def k888_c : List (Nat × ckCtr) := []
theorem k888_ok (l : Launch) : ckCtrOk l ckMT ckTW ckCL k888 := mt_47 (as := k888_a) (cs := k888_c) (gx := []) (f := 200000) rfl (fun _ h => absurd h List.not_mem_nil) True.intro (by decide +kernel)
-- FarMachineModel.held
noncomputable def k889 : ckCtr := (47, ([(0, (0, 0)), (1, (0, 1)), (2, (0, 2))], [], [], [(-8, -8), (-20, -20), (20, 20)], [], [], [], [], 0, 0), [([], [(0, 0)], [], [], [], [], [], [], [], [], 0, 0)], 1, 80, 0, 0)
noncomputable def k889_a : ckAs := []
noncomputable def k889_c : List (Nat × ckCtr) := []
theorem k889_ok (l : Launch) : ckCtrOk l ckMT ckTW ckCL k889 := mt_47 (as := k889_a) (cs := k889_c) (gx := []) (f := 200000) rfl (fun _ h => absurd h List.not_mem_nil) True.intro (by decide +kernel)
-- FarMachineModel.held
noncomputable def k890 : ckCtr := (47, ([(0, (0, 0)), (1, (0, 1)), (2, (0, 2))], [], [], [(-7, -7), (-20, -20), (20, 20)], [], [], [], [], 0, 0), [([], [(0, 0)], [], [], [], [], [], [], [], [], 0, 0)], 1, 80, 0, 0)
noncomputable def k890_a : ckAs := []
noncomputable def k890_c : List (Nat × ckCtr) := []
theorem k890_ok (l : Launch) : ckCtrOk l ckMT ckTW ckCL k890 := mt_47 (as := k890_a) (cs := k890_c) (gx := []) (f := 200000) rfl (fun _ h => absurd h List.not_mem_nil) True.intro (by decide +kernel)
-- FarMachineModel.held
noncomputable def k891 : ckCtr := (47, ([(0, (0, 0)), (1, (0, 1)), (2, (0, 2))], [], [], [(-6, -6), (-20, -20), (20, 20)], [], [], [], [], 0, 0), [([], [(0, 0)], [], [], [], [], [], [], [], [], 0, 0)], 1, 80, 0, 0)
noncomputable def k891_a : ckAs := []
noncomputable def k891_c : List (Nat × ckCtr) := []
theorem k891_ok (l : Launch) : ckCtrOk l ckMT ckTW ckCL k891 := mt_47 (as := k891_a) (cs := k891_c) (gx := []) (f := 200000) rfl (fun _ h => absurd h List.not_mem_nil) True.intro (by decide +kernel)
-- FarMachineModel.held
noncomputable def k892 : ckCtr := (47, ([(0, (0, 0)), (1, (0, 1)), (2, (0, 2))], [], [], [(-5, -5), (-20, -20), (20, 20)], [], [], [], [], 0, 0), [([], [(0, 0)], [], [], [], [], [], [], [], [], 0, 0)], 1, 80, 0, 0)
noncomputable def k892_a : ckAs := []
noncomputable def k892_c : List (Nat × ckCtr) := []
theorem k892_ok (l : Launch) : ckCtrOk l ckMT ckTW ckCL k892 := mt_47 (as := k892_a) (cs := k892_c) (gx := []) (f := 200000) rfl (fun _ h => absurd h List.not_mem_nil) True.intro (by decide +kernel)
-- FarMachineModel.held
noncomputable def k893 : ckCtr := (47, ([(0, (0, 0)), (1, (0, 1)), (2, (0, 2))], [], [], [(-4, -4), (-20, -20), (20, 20)], [], [], [], [], 0, 0), [([], [(0, 0)], [], [], [], [], [], [], [], [], 0, 0)], 1, 80, 0, 0)
noncomputable def k893_a : ckAs := []
noncomputable def k893_c : List (Nat × ckCtr) := []
theorem k893_ok (l : Launch) : ckCtrOk l ckMT ckTW ckCL k893 := mt_47 (as := k893_a) (cs := k893_c) (gx := []) (f := 200000) rfl (fun _ h => absurd h List.not_mem_nil) True.intro (by decide +kernel)
-- FarMachineModel.held
noncomputable def k894 : ckCtr := (47, ([(0, (0, 0)), (1, (0, 1)), (2, (0, 2))], [], [], [(-3, -3), (-20, -20), (20, 20)], [], [], [], [], 0, 0), [([], [(0, 0)], [], [], [], [], [], [], [], [], 0, 0)], 1, 80, 0, 0)
noncomputable def k894_a : ckAs := []
noncomputable def k894_c : List (Nat × ckCtr) := []
theorem k894_ok (l : Launch) : ckCtrOk l ckMT ckTW ckCL k894 := mt_47 (as := k894_a) (cs := k894_c) (gx := []) (f := 200000) rfl (fun _ h => absurd h List.not_mem_nil) True.intro (by decide +kernel)
-- FarMachineModel.held
noncomputable def k895 : ckCtr := (47, ([(0, (0, 0)), (1, (0, 1)), (2, (0, 2))], [], [], [(-2, -2), (-20, -20), (20, 20)], [], [], [], [], 0, 0), [([], [(0, 0)], [], [], [], [], [], [], [], [], 0, 0)], 1, 80, 0, 0)
noncomputable def k895_a : ckAs := []
noncomputable def k895_c : List (Nat × ckCtr) := []
theorem k895_ok (l : Launch) : ckCtrOk l ckMT ckTW ckCL k895 := mt_47 (as := k895_a) (cs := k895_c) (gx := []) (f := 200000) rfl (fun _ h => absurd h List.not_mem_nil) True.intro (by decide +kernel)
-- FarMachineModel.held
noncomputable def k896 : ckCtr := (47, ([(0, (0, 0)), (1, (0, 1)), (2, (0, 2))], [], [], [(-1, -1), (-20, -20), (20, 20)], [], [], [], [], 0, 0), [([], [(0, 0)], [], [], [], [], [], [], [], [], 0, 0)], 1, 80, 0, 0)
noncomputable def k896_a : ckAs := []
noncomputable def k896_c : List (Nat × ckCtr) := []
theorem k896_ok (l : Launch) : ckCtrOk l ckMT ckTW ckCL k896 := mt_47 (as := k896_a) (cs := k896_c) (gx := []) (f := 200000) rfl (fun _ h => absurd h List.not_mem_nil) True.intro (by decide +kernel)
-- FarMachineModel.held
noncomputable def k897 : ckCtr := (47, ([(0, (0, 0)), (1, (0, 1)), (2, (0, 2))], [], [], [(0, 0), (-20, -20), (20, 20)], [], [], [], [], 0, 0), [([], [(0, 0)], [], [], [], [], [], [], [], [], 0, 0)], 1, 80, 0, 0)
noncomputable def k897_a : ckAs := []
noncomputable def k897_c : List (Nat × ckCtr) := []
theorem k897_ok (l : Launch) : ckCtrOk l ckMT ckTW ckCL k897 := mt_47 (as := k897_a) (cs := k897_c) (gx := []) (f := 200000) rfl (fun _ h => absurd h List.not_mem_nil) True.intro (by decide +kernel)
-- FarMachineModel.held
noncomputable def k898 : ckCtr := (47, ([(0, (0, 0)), (1, (0, 1)), (2, (0, 2))], [], [], [(1, 1), (-20, -20), (20, 20)], [], [], [], [], 0, 0), [([], [(0, 0)], [], [], [], [], [], [], [], [], 0, 0)], 1, 80, 0, 0)
noncomputable def k898_a : ckAs := []
noncomputable def k898_c : List (Nat × ckCtr) := []
theorem k898_ok (l : Launch) : ckCtrOk l ckMT ckTW ckCL k898 := mt_47 (as := k898_a) (cs := k898_c) (gx := []) (f := 200000) rfl (fun _ h => absurd h List.not_mem_nil) True.intro (by decide +kernel)
-- FarMachineModel.held
noncomputable def k899 : ckCtr := (47, ([(0, (0, 0)), (1, (0, 1)), (2, (0, 2))], [], [], [(2, 2), (-20, -20), (20, 20)], [], [], [], [], 0, 0), [([], [(0, 0)], [], [], [], [], [], [], [], [], 0, 0)], 1, 80, 0, 0)
noncomputable def k899_a : ckAs := []
noncomputable def k899_c : List (Nat × ckCtr) := []
theorem k899_ok (l : Launch) : ckCtrOk l ckMT ckTW ckCL k899 := mt_47 (as := k899_a) (cs := k899_c) (gx := []) (f := 200000) rfl (fun _ h => absurd h List.not_mem_nil) True.intro (by decide +kernel)
-- FarMachineModel.held
noncomputable def k900 : ckCtr := (47, ([(0, (0, 0)), (1, (0, 1)), (2, (0, 2))], [], [], [(3, 3), (-20, -20), (20, 20)], [], [], [], [], 0, 0), [([], [(0, 0)], [], [], [], [], [], [], [], [], 0, 0)], 1, 80, 0, 0)
noncomputable def k900_a : ckAs := []
noncomputable def k900_c : List (Nat × ckCtr) := []
theorem k900_ok (l : Launch) : ckCtrOk l ckMT ckTW ckCL k900 := mt_47 (as := k900_a) (cs := k900_c) (gx := []) (f := 200000) rfl (fun _ h => absurd h List.not_mem_nil) True.intro (by decide +kernel)
-- FarMachineModel.held
noncomputable def k901 : ckCtr := (47, ([(0, (0, 0)), (1, (0, 1)), (2, (0, 2))], [], [], [(4, 4), (-20, -20), (20, 20)], [], [], [], [], 0, 0), [([], [(0, 0)], [], [], [], [], [], [], [], [], 0, 0)], 1, 80, 0, 0)
noncomputable def k901_a : ckAs := []
noncomputable def k901_c : List (Nat × ckCtr) := []
theorem k901_ok (l : Launch) : ckCtrOk l ckMT ckTW ckCL k901 := mt_47 (as := k901_a) (cs := k901_c) (gx := []) (f := 200000) rfl (fun _ h => absurd h List.not_mem_nil) True.intro (by decide +kernel)
-- FarMachineModel.held
noncomputable def k902 : ckCtr := (47, ([(0, (0, 0)), (1, (0, 1)), (2, (0, 2))], [], [], [(5, 5), (-20, -20), (20, 20)], [], [], [], [], 0, 0), [([], [(0, 0)], [], [], [], [], [], [], [], [], 0, 0)], 1, 80, 0, 0)
noncomputable def k902_a : ckAs := []
noncomputable def k902_c : List (Nat × ckCtr) := []
theorem k902_ok (l : Launch) : ckCtrOk l ckMT ckTW ckCL k902 := mt_47 (as := k902_a) (cs := k902_c) (gx := []) (f := 200000) rfl (fun _ h => absurd h List.not_mem_nil) True.intro (by decide +kernel)
-- FarMachineModel.held
noncomputable def k903 : ckCtr := (47, ([(0, (0, 0)), (1, (0, 1)), (2, (0, 2))], [], [], [(6, 6), (-20, -20), (20, 20)], [], [], [], [], 0, 0), [([], [(0, 0)], [], [], [], [], [], [], [], [], 0, 0)], 1, 80, 0, 0)
noncomputable def k903_a : ckAs := []
noncomputable def k903_c : List (Nat × ckCtr) := []
theorem k903_ok (l : Launch) : ckCtrOk l ckMT ckTW ckCL k903 := mt_47 (as := k903_a) (cs := k903_c) (gx := []) (f := 200000) rfl (fun _ h => absurd h List.not_mem_nil) True.intro (by decide +kernel)
-- FarMachineModel.held
noncomputable def k904 : ckCtr := (47, ([(0, (0, 0)), (1, (0, 1)), (2, (0, 2))], [], [], [(7, 7), (-20, -20), (20, 20)], [], [], [], [], 0, 0), [([], [(0, 0)], [], [], [], [], [], [], [], [], 0, 0)], 1, 80, 0, 0)
noncomputable def k904_a : ckAs := []
noncomputable def k904_c : List (Nat × ckCtr) := []
theorem k904_ok (l : Launch) : ckCtrOk l ckMT ckTW ckCL k904 := mt_47 (as := k904_a) (cs := k904_c) (gx := []) (f := 200000) rfl (fun _ h => absurd h List.not_mem_nil) True.intro (by decide +kernel)
-- FarMachineModel.held
noncomputable def k905 : ckCtr := (47, ([(0, (0, 0)), (1, (0, 1)), (2, (0, 2))], [], [], [(8, 8), (-20, -20), (20, 20)], [], [], [], [], 0, 0), [([], [(0, 0)], [], [], [], [], [], [], [], [], 0, 0)], 1, 80, 0, 0)
noncomputable def k905_a : ckAs := []
noncomputable def k905_c : List (Nat × ckCtr) := []
theorem k905_ok (l : Launch) : ckCtrOk l ckMT ckTW ckCL k905 := mt_47 (as := k905_a) (cs := k905_c) (gx := []) (f := 200000) rfl (fun _ h => absurd h List.not_mem_nil) True.intro (by decide +kernel)
-- FarMachineModel.held
noncomputable def k906 : ckCtr := (47, ([(0, (0, 0)), (1, (0, 1)), (2, (0, 2))], [], [], [(9, 9), (-20, -20), (20, 20)], [], [], [], [], 0, 0), [([], [(0, 0)], [], [], [], [], [], [], [], [], 0, 0)], 1, 80, 0, 0)
noncomputable def k906_a : ckAs := []
noncomputable def k906_c : List (Nat × ckCtr) := []
theorem k906_ok (l : Launch) : ckCtrOk l ckMT ckTW ckCL k906 := mt_47 (as := k906_a) (cs := k906_c) (gx := []) (f := 200000) rfl (fun _ h => absurd h List.not_mem_nil) True.intro (by decide +kernel)
-- FarMachineModel.held
noncomputable def k907 : ckCtr := (47, ([(0, (0, 0)), (1, (0, 1)), (2, (0, 2))], [], [], [(10, 10), (-20, -20), (20, 20)], [], [], [], [], 0, 0), [([], [(0, 0)], [], [], [], [], [], [], [], [], 0, 0)], 1, 80, 0, 0)
noncomputable def k907_a : ckAs := []
noncomputable def k907_c : List (Nat × ckCtr) := []
theorem k907_ok (l : Launch) : ckCtrOk l ckMT ckTW ckCL k907 := mt_47 (as := k907_a) (cs := k907_c) (gx := []) (f := 200000) rfl (fun _ h => absurd h List.not_mem_nil) True.intro (by decide +kernel)
-- FarMachineModel.held
noncomputable def k908 : ckCtr := (47, ([(0, (0, 0)), (1, (0, 1)), (2, (0, 2))], [], [], [(11, 11), (-20, -20), (20, 20)], [], [], [], [], 0, 0), [([], [(0, 0)], [], [], [], [], [], [], [], [], 0, 0)], 1, 80, 0, 0)
noncomputable def k908_a : ckAs := []
noncomputable def k908_c : List (Nat × ckCtr) := []
theorem k908_ok (l : Launch) : ckCtrOk l ckMT ckTW ckCL k908 := mt_47 (as := k908_a) (cs := k908_c) (gx := []) (f := 200000) rfl (fun _ h => absurd h List.not_mem_nil) True.intro (by decide +kernel)
-- FarMachineModel.held
noncomputable def k909 : ckCtr := (47, ([(0, (0, 0)), (1, (0, 1)), (2, (0, 2))], [], [], [(12, 12), (-20, -20), (20, 20)], [], [], [], [], 0, 0), [([], [(0, 0)], [], [], [], [], [], [], [], [], 0, 0)], 1, 80, 0, 0)
noncomputable def k909_a : ckAs := []
noncomputable def k909_c : List (Nat × ckCtr) := []
theorem k909_ok (l : Launch) : ckCtrOk l ckMT ckTW ckCL k909 := mt_47 (as := k909_a) (cs := k909_c) (gx := []) (f := 200000) rfl (fun _ h => absurd h List.not_mem_nil) True.intro (by decide +kernel)
-- FarMachineModel.held
noncomputable def k910 : ckCtr := (47, ([(0, (0, 0)), (1, (0, 1)), (2, (0, 2))], [], [], [(13, 13), (-20, -20), (20, 20)], [], [], [], [], 0, 0), [([], [(0, 0)], [], [], [], [], [], [], [], [], 0, 0)], 1, 80, 0, 0)
noncomputable def k910_a : ckAs := []
noncomputable def k910_c : List (Nat × ckCtr) := []
theorem k910_ok (l : Launch) : ckCtrOk l ckMT ckTW ckCL k910 := mt_47 (as := k910_a) (cs := k910_c) (gx := []) (f := 200000) rfl (fun _ h => absurd h List.not_mem_nil) True.intro (by decide +kernel)
-- FarMachineModel.held
noncomputable def k911 : ckCtr := (47, ([(0, (0, 0)), (1, (0, 1)), (2, (0, 2))], [], [], [(14, 14), (-20, -20), (20, 20)], [], [], [], [], 0, 0), [([], [(0, 0)], [], [], [], [], [], [], [], [], 0, 0)], 1, 80, 0, 0)
noncomputable def k911_a : ckAs := []
noncomputable def k911_c : List (Nat × ckCtr) := []
theorem k911_ok (l : Launch) : ckCtrOk l ckMT ckTW ckCL k911 := mt_47 (as := k911_a) (cs := k911_c) (gx := []) (f := 200000) rfl (fun _ h => absurd h List.not_mem_nil) True.intro (by decide +kernel)
-- FarMachineModel.held
noncomputable def k912 : ckCtr := (47, ([(0, (0, 0)), (1, (0, 1)), (2, (0, 2))], [], [], [(15, 15), (-20, -20), (20, 20)], [], [], [], [], 0, 0), [([], [(0, 0)], [], [], [], [], [], [], [], [], 0, 0)], 1, 80, 0, 0)
noncomputable def k912_a : ckAs := []
noncomputable def k912_c : List (Nat × ckCtr) := []
theorem k912_ok (l : Launch) : ckCtrOk l ckMT ckTW ckCL k912 := mt_47 (as := k912_a) (cs := k912_c) (gx := []) (f := 200000) rfl (fun _ h => absurd h List.not_mem_nil) True.intro (by decide +kernel)
-- FarMachineModel.aim
noncomputable def k913 : ckCtr := (107, ([(0, (1, 0))], [], dC112, [(0, 0), (318, 318)], dG40, [], [], [], 0, 0), [([], [(0, 2)], [], [], [], [(16, 16)], [], [], [], [], 0, 0)], 2, 102, 0, 0)
noncomputable def k913_a : ckAs := []
noncomputable def k913_c : List (Nat × ckCtr) := [(48, k881), (48, k882), (48, k883), (48, k884), (48, k885), (48, k886), (48, k887), (48, k888), (48, k889), (48, k890), (48, k891), (48, k892), (48, k893), (48, k894), (48, k895), (48, k896), (48, k897), (48, k898), (48, k899), (48, k900), (48, k901), (48, k902), (48, k903), (48, k904), (48, k905), (48, k906), (48, k907), (48, k908), (48, k909), (48, k910), (48, k911), (48, k912)]
noncomputable def dT491 : List ckI := [(0, 0), (318, 318), (-9, -9), (4, 4), (13, 13), (-13, -13)]
noncomputable def k913_u0 : ckCut := (7, ([(0, (1, 0)), (1, (0, 2)), (2, (0, 0)), (3, (0, 3)), (4, (0, 4)), (5, (0, 5))], [], dC112, dT491, dG40, [], [], [], 0, 0), 2, 1, 0, 0)
noncomputable def dT492 : List ckI := [(0, 0), (318, 318), (-9, -9), (7, 7), (10, 10), (-10, -10)]
noncomputable def k913_u1 : ckCut := (7, ([(0, (1, 0)), (1, (0, 2)), (2, (0, 0)), (3, (0, 3)), (4, (0, 4)), (5, (0, 5))], [], dC112, dT492, dG40, [], [], [], 0, 0), 2, 1, 0, 0)
noncomputable def k913_u2 : ckCut := (7, ([(0, (1, 0)), (1, (0, 2)), (2, (0, 0)), (3, (0, 3)), (4, (0, 4)), (5, (0, 5))], [], dC112, [(0, 0), (318, 318), (-9, -9), (10, 10), (7, 7), (-7, -7)], dG40, [], [], [], 0, 0), 2, 1, 0, 0)
noncomputable def k913_u3 : ckCut := (7, ([(0, (1, 0)), (1, (0, 2)), (2, (0, 0)), (3, (0, 3)), (4, (0, 4)), (5, (0, 5))], [], dC112, [(0, 0), (318, 318), (-9, -9), (13, 13), (4, 4), (-4, -4)], dG40, [], [], [], 0, 0), 2, 1, 0, 0)
noncomputable def k913_u4 : ckCut := (7, ([(0, (1, 0)), (1, (0, 2)), (2, (0, 3)), (3, (0, 4)), (4, (0, 3)), (5, (0, 5))], [], dC112, [(0, 0), (318, 318), (15, 15), (1, 1), (16, 16), (-1, -1)], dG40, [], [], [], 0, 0), 2, 1, 0, 0)
noncomputable def k913_u5 : ckCut := (7, ([(0, (1, 0)), (1, (0, 2)), (2, (0, 0)), (3, (0, 3)), (4, (0, 4)), (5, (0, 4))], [], dC112, [(0, 0), (318, 318), (16, 16), (19, 19), (2, 2)], dG40, [], [], [], 0, 0), 2, 1, 0, 0)
noncomputable def k913_u6 : ckCut := (7, ([(0, (1, 0)), (1, (0, 2)), (2, (0, 0)), (3, (0, 3)), (4, (0, 4)), (5, (0, 4))], [], dC112, [(0, 0), (318, 318), (16, 16), (22, 22), (5, 5)], dG40, [], [], [], 0, 0), 2, 1, 0, 0)
noncomputable def k913_u7 : ckCut := (7, ([(0, (1, 0)), (1, (0, 2)), (2, (0, 0)), (3, (0, 3)), (4, (0, 4)), (5, (0, 4))], [], dC112, [(0, 0), (318, 318), (16, 16), (25, 25), (8, 8)], dG40, [], [], [], 0, 0), 2, 1, 0, 0)
noncomputable def k913_u8 : ckCut := (7, ([(0, (1, 0)), (1, (0, 2)), (2, (0, 0)), (3, (0, 3)), (4, (0, 4)), (5, (0, 4))], [], dC112, [(0, 0), (318, 318), (16, 16), (28, 28), (11, 11)], dG40, [], [], [], 0, 0), 2, 1, 0, 0)
noncomputable def k913_u9 : ckCut := (7, ([(0, (1, 0)), (1, (0, 2)), (2, (0, 0)), (3, (0, 3)), (4, (0, 4)), (5, (0, 4))], [], dC112, [(0, 0), (318, 318), (16, 16), (31, 31), (14, 14)], dG40, [], [], [], 0, 0), 2, 1, 0, 0)
noncomputable def k913_g9 : List ckCut := [k913_u9]
noncomputable def k913_g8 : List ckCut := k913_u8 :: k913_g9
noncomputable def k913_g7 : List ckCut := k913_u7 :: k913_g8
noncomputable def k913_g6 : List ckCut := k913_u6 :: k913_g7
noncomputable def k913_g5 : List ckCut := k913_u5 :: k913_g6
noncomputable def k913_g4 : List ckCut := k913_u4 :: k913_g5
noncomputable def k913_g3 : List ckCut := k913_u3 :: k913_g4
noncomputable def k913_g2 : List ckCut := k913_u2 :: k913_g3
noncomputable def k913_g1 : List ckCut := k913_u1 :: k913_g2
noncomputable def k913_g0 : List ckCut := k913_u0 :: k913_g1
theorem k913_t0 : ckRun es_107 k913_a k913_c k913_g1 6 2 102 0 0 (ckEndF 1 0 0 k913.2.1 k913.2.2.1) ckKs ckKc 200000 0 7 k913_u0.2.1 [] = true := by decide +kernel
theorem k913_t1 : ckRun es_107 k913_a k913_c k913_g2 6 2 102 0 0 (ckEndF 1 0 0 k913.2.1 k913.2.2.1) ckKs ckKc 200000 0 7 k913_u1.2.1 [] = true := by decide +kernel
theorem k913_t2 : ckRun es_107 k913_a k913_c k913_g3 6 2 102 0 0 (ckEndF 1 0 0 k913.2.1 k913.2.2.1) ckKs ckKc 200000 0 7 k913_u2.2.1 [] = true := by decide +kernel
theorem k913_t3 : ckRun es_107 k913_a k913_c k913_g4 6 2 102 0 0 (ckEndF 1 0 0 k913.2.1 k913.2.2.1) ckKs ckKc 200000 0 7 k913_u3.2.1 [] = true := by decide +kernel
theorem k913_t4 : ckRun es_107 k913_a k913_c k913_g5 6 2 102 0 0 (ckEndF 1 0 0 k913.2.1 k913.2.2.1) ckKs ckKc 200000 0 7 k913_u4.2.1 [] = true := by decide +kernel
theorem k913_t5 : ckRun es_107 k913_a k913_c k913_g6 6 2 102 0 0 (ckEndF 1 0 0 k913.2.1 k913.2.2.1) ckKs ckKc 200000 0 7 k913_u5.2.1 [] = true := by decide +kernel
theorem k913_t6 : ckRun es_107 k913_a k913_c k913_g7 6 2 102 0 0 (ckEndF 1 0 0 k913.2.1 k913.2.2.1) ckKs ckKc 200000 0 7 k913_u6.2.1 [] = true := by decide +kernel
theorem k913_t7 : ckRun es_107 k913_a k913_c k913_g8 6 2 102 0 0 (ckEndF 1 0 0 k913.2.1 k913.2.2.1) ckKs ckKc 200000 0 7 k913_u7.2.1 [] = true := by decide +kernel
theorem k913_t8 : ckRun es_107 k913_a k913_c k913_g9 6 2 102 0 0 (ckEndF 1 0 0 k913.2.1 k913.2.2.1) ckKs ckKc 200000 0 7 k913_u8.2.1 [] = true := by decide +kernel
theorem k913_t9 : ckRun es_107 k913_a k913_c [] 6 2 102 0 0 (ckEndF 1 0 0 k913.2.1 k913.2.2.1) ckKs ckKc 200000 0 7 k913_u9.2.1 [] = true := by decide +kernel
theorem k913_ok (l : Launch) : ckCtrOk l ckMT ckTW ckCL k913 := mt_107 (as := k913_a) (cs := k913_c) (gx := k913_g0) (f := 200000) rfl (ckHc (k881_ok l) (ckHc (k882_ok l) (ckHc (k883_ok l) (ckHc (k884_ok l) (ckHc (k885_ok l) (ckHc (k886_ok l) (ckHc (k887_ok l) (ckHc (k888_ok l) (ckHc (k889_ok l) (ckHc (k890_ok l) (ckHc (k891_ok l) (ckHc (k892_ok l) (ckHc (k893_ok l) (ckHc (k894_ok l) (ckHc (k895_ok l) (ckHc (k896_ok l) (ckHc (k897_ok l) (ckHc (k898_ok l) (ckHc (k899_ok l) (ckHc (k900_ok l) (ckHc (k901_ok l) (ckHc (k902_ok l) (ckHc (k903_ok l) (ckHc (k904_ok l) (ckHc (k905_ok l) (ckHc (k906_ok l) (ckHc (k907_ok l) (ckHc (k908_ok l) (ckHc (k909_ok l) (ckHc (k910_ok l) (ckHc (k911_ok l) (ckHc (k912_ok l) (fun _ h => absurd h List.not_mem_nil))))))))))))))))))))))))))))))))) ⟨k913_t0, ⟨k913_t1, ⟨k913_t2, ⟨k913_t3, ⟨k913_t4, ⟨k913_t5, ⟨k913_t6, ⟨k913_t7, ⟨k913_t8, ⟨k913_t9, True.intro⟩⟩⟩⟩⟩⟩⟩⟩⟩⟩ (by decide +kernel)
noncomputable def dC493 : List ckC := [.inl (8, [(1, 1), (4, 10), (0, 1), (4, 11), (4, 12), (4, 13), (4, 14), (1, 2)]), .inl (7, [(4, 15), (4, 16), (0, 1), (4, 17), (4, 18), (4, 19), (4, 20), (4, 21), (4, 22), (4, 23)]), .inr (0, 2, 0)]
-- FarMachine.unlike
noncomputable def k914 : ckCtr := (30, ([(0, (1, 0)), (1, (0, 0))], [], dC493, [ckTop, (0, 0), (7, 7)], [([(7, (0, 0))], [], [])], [], [], [], 0, 0), [([], [(0, 3)], [(2, .inr (0, 2, 1))], [], [(0, (-2147483648, -2))], [(-1, -1), (1, 1)], [([(1, (0, 0)), (2, (1, 1)), (7, (0, 0))], [(1, 4)], [])], [], [], [], 0, 0), ([], [(0, 3)], [(2, .inr (0, 2, 1))], [], [(0, (-1, 2147483647))], [(-3, -3), (1, 1)], [([(3, (0, 0)), (4, (1, 1)), (7, (0, 0))], [(3, 4)], [])], [], [], [], 0, 0)], 2, 101, 0, 0)
noncomputable def k914_a : ckAs := []
noncomputable def k914_c : List (Nat × ckCtr) := [(7, k14), (24, k312)]
theorem k914_ok (l : Launch) : ckCtrOk l ckMT ckTW ckCL k914 := mt_30 (as := k914_a) (cs := k914_c) (gx := []) (f := 200000) rfl (ckHc (k14_ok l) (ckHc (k312_ok l) (fun _ h => absurd h List.not_mem_nil))) True.intro (by decide +kernel)
-- FarMachineModel.unlike
noncomputable def k915 : ckCtr := (108, ([(0, (1, 0)), (1, (0, 0))], [], dC42, [(-2147483648, -2), (0, 0), (7, 7)], [([(7, (0, 0))], [], [])], [], [], [], 0, 0), [([], [(0, 3)], [(1, .inr (0, 2, 1))], [], [], [(-1, -1), (1, 1)], [([(1, (0, 0)), (2, (1, 1)), (7, (0, 0))], [(1, 4)], [])], [], [], [], 0, 0)], 2, 101, 0, 0)
noncomputable def k915_a : ckAs := []
noncomputable def k915_c : List (Nat × ckCtr) := [(7, k31)]
theorem k915_ok (l : Launch) : ckCtrOk l ckMT ckTW ckCL k915 := mt_108 (as := k915_a) (cs := k915_c) (gx := []) (f := 200000) rfl (ckHc (k31_ok l) (fun _ h => absurd h List.not_mem_nil)) True.intro (by decide +kernel)
-- FarMachineModel.unlike
noncomputable def k916 : ckCtr := (108, ([(0, (1, 0)), (1, (0, 0))], [], dC42, [(-1, 2147483647), (0, 0), (7, 7)], [([(7, (0, 0))], [], [])], [], [], [], 0, 0), [([], [(0, 3)], [(1, .inr (0, 2, 1))], [], [], [(-3, -3), (1, 1)], [([(3, (0, 0)), (4, (1, 1)), (7, (0, 0))], [(3, 4)], [])], [], [], [], 0, 0)], 2, 101, 0, 0)
noncomputable def k916_a : ckAs := []
noncomputable def k916_c : List (Nat × ckCtr) := [(21, k316)]
theorem k916_ok (l : Launch) : ckCtrOk l ckMT ckTW ckCL k916 := mt_108 (as := k916_a) (cs := k916_c) (gx := []) (f := 200000) rfl (ckHc (k316_ok l) (fun _ h => absurd h List.not_mem_nil)) True.intro (by decide +kernel)
-- FarMachine.copyRow
noncomputable def k917 : ckCtr := (42, ([(0, (1, 0)), (1, (1, 1))], [], [.inr (0, 0, 0), .inr (0, 0, 1)], [(60, 60)], [([(60, (0, 0))], [], []), ([(60, (0, 0))], [], [])], [], [], [], 0, 0), [([], [], [(1, .inr (0, 0, 0))], [], [], [], [], [], [], [], 0, 0)], 1, 80, 0, 0)
noncomputable def k917_a : ckAs := []
noncomputable def k917_c : List (Nat × ckCtr) := []
theorem k917_ok (l : Launch) : ckCtrOk l ckMT ckTW ckCL k917 := mt_42 (as := k917_a) (cs := k917_c) (gx := []) (f := 200000) rfl (fun _ h => absurd h List.not_mem_nil) True.intro (by decide +kernel)
noncomputable def dC494 : List ckC := [.inl (0, [(1, 2), (0, 0)]), .inl (0, [(1, 3), (0, 0)]), .inr (0, 1, 0), .inr (0, 1, 1)]
-- FarMachine$Bytes.copyFrom
noncomputable def k918 : ckCtr := (116, ([(0, (1, 0)), (1, (1, 1))], [], dC494, [(0, 0), (60, 60)], [([(60, (0, 0))], [], []), ([(60, (0, 0))], [], [])], [], [], [], 0, 0), [([], [], [(2, .inr (0, 1, 1))], [], [], [], [], [], [], [], 0, 0)], 2, 101, 0, 0)
noncomputable def k918_a : ckAs := []
noncomputable def k918_c : List (Nat × ckCtr) := [(8, k917)]
theorem k918_ok (l : Launch) : ckCtrOk l ckMT ckTW ckCL k918 := mt_116 (as := k918_a) (cs := k918_c) (gx := []) (f := 200000) rfl (ckHc (k917_ok l) (fun _ h => absurd h List.not_mem_nil)) True.intro (by decide +kernel)
-- FarMachine$Bytes.copyFrom
noncomputable def k919 : ckCtr := (116, ([(0, (1, 0)), (1, (1, 1))], [], dC494, [(0, 0), (8, 8)], [([(8, (0, 0))], [], []), ([(8, (0, 0))], [], [])], [], [], [], 0, 0), [([], [], [(2, .inr (0, 1, 1))], [], [], [], [], [], [], [], 0, 0)], 2, 101, 0, 0)
noncomputable def k919_a : ckAs := []
noncomputable def k919_c : List (Nat × ckCtr) := [(8, k280)]
theorem k919_ok (l : Launch) : ckCtrOk l ckMT ckTW ckCL k919 := mt_116 (as := k919_a) (cs := k919_c) (gx := []) (f := 200000) rfl (ckHc (k280_ok l) (fun _ h => absurd h List.not_mem_nil)) True.intro (by decide +kernel)
-- FarMachine.copyRow
noncomputable def k920 : ckCtr := (42, ([(0, (1, 0)), (1, (1, 1))], [], [.inr (0, 0, 0), .inr (0, 0, 1)], [(70, 70)], [([(70, (0, 0))], [], []), ([(70, (0, 0))], [], [])], [], [], [], 0, 0), [([], [], [(1, .inr (0, 0, 0))], [], [], [], [], [], [], [], 0, 0)], 1, 80, 0, 0)
noncomputable def k920_a : ckAs := []
noncomputable def k920_c : List (Nat × ckCtr) := []
theorem k920_ok (l : Launch) : ckCtrOk l ckMT ckTW ckCL k920 := mt_42 (as := k920_a) (cs := k920_c) (gx := []) (f := 200000) rfl (fun _ h => absurd h List.not_mem_nil) True.intro (by decide +kernel)
-- FarMachine.copyRow
noncomputable def k921 : ckCtr := (42, ([(0, (1, 0)), (1, (1, 1))], [], [.inr (0, 0, 0), .inr (0, 0, 1)], [(10, 10)], [([(10, (0, 0))], [], []), ([(10, (0, 0))], [], [])], [], [], [], 0, 0), [([], [], [(1, .inr (0, 0, 0))], [], [], [], [], [], [], [], 0, 0)], 1, 80, 0, 0)
noncomputable def k921_a : ckAs := []
noncomputable def k921_c : List (Nat × ckCtr) := []
theorem k921_ok (l : Launch) : ckCtrOk l ckMT ckTW ckCL k921 := mt_42 (as := k921_a) (cs := k921_c) (gx := []) (f := 200000) rfl (fun _ h => absurd h List.not_mem_nil) True.intro (by decide +kernel)
noncomputable def dC495 : List ckC := [.inl (5, [(1, 2), (1, 3), (1, 4), (1, 5), (1, 6), (0, 0)]), .inl (5, [(1, 7), (1, 8), (1, 9), (1, 10), (1, 11), (0, 0)]), .inr (0, 1, 0), .inr (0, 1, 1), .inr (0, 1, 2), .inr (0, 1, 3), .inr (0, 2, 4), .inr (0, 1, 5), .inr (0, 1, 6), .inr (0, 1, 7), .inr (0, 1, 8), .inr (0, 2, 9)]
noncomputable def dG496 : List ckG := [([(70, (0, 0))], [], []), ([(70, (0, 0))], [], []), ([(70, (0, 0))], [], []), ([(70, (0, 0))], [], []), ([(10, (0, 0))], [], []), ([(70, (0, 0))], [], []), ([(70, (0, 0))], [], []), ([(70, (0, 0))], [], []), ([(70, (0, 0))], [], []), ([(10, (0, 0))], [], [])]
noncomputable def dP497 : List (Nat × ckC) := [(2, .inr (0, 1, 5)), (3, .inr (0, 1, 6)), (4, .inr (0, 1, 7)), (5, .inr (0, 1, 8)), (6, .inr (0, 2, 9))]
-- FarMachine$Rules.copyFrom
noncomputable def k922 : ckCtr := (167, ([(0, (1, 0)), (1, (1, 1))], [], dC495, [(0, 0), (70, 70), (10, 10)], dG496, [], [], [], 0, 0), [([], [], dP497, [], [], [], [], [], [], [], 0, 0)], 2, 101, 0, 0)
noncomputable def k922_a : ckAs := []
noncomputable def k922_c : List (Nat × ckCtr) := [(8, k920), (19, k920), (30, k920), (41, k920), (52, k921)]
theorem k922_ok (l : Launch) : ckCtrOk l ckMT ckTW ckCL k922 := mt_167 (as := k922_a) (cs := k922_c) (gx := []) (f := 200000) rfl (ckHc (k920_ok l) (ckHc (k920_ok l) (ckHc (k920_ok l) (ckHc (k920_ok l) (ckHc (k921_ok l) (fun _ h => absurd h List.not_mem_nil)))))) True.intro (by decide +kernel)
-- FarMachine.copyRow
noncomputable def k923 : ckCtr := (42, ([(0, (1, 0)), (1, (1, 1))], [], [.inr (0, 0, 0), .inr (0, 0, 1)], [(6, 6)], [([(6, (0, 0))], [], []), ([(6, (0, 0))], [], [])], [], [], [], 0, 0), [([], [], [(1, .inr (0, 0, 0))], [], [], [], [], [], [], [], 0, 0)], 1, 80, 0, 0)
noncomputable def k923_a : ckAs := []
noncomputable def k923_c : List (Nat × ckCtr) := []
theorem k923_ok (l : Launch) : ckCtrOk l ckMT ckTW ckCL k923 := mt_42 (as := k923_a) (cs := k923_c) (gx := []) (f := 200000) rfl (fun _ h => absurd h List.not_mem_nil) True.intro (by decide +kernel)
noncomputable def dG498 : List ckG := [([(6, (0, 0))], [], []), ([(6, (0, 0))], [], []), ([(6, (0, 0))], [], []), ([(6, (0, 0))], [], []), ([(6, (0, 0))], [], []), ([(6, (0, 0))], [], []), ([(6, (0, 0))], [], []), ([(6, (0, 0))], [], [])]
-- FarMachine$Commands.copyFrom
noncomputable def k924 : ckCtr := (124, ([(0, (1, 0)), (1, (1, 1))], [], dC243, [(0, 0), (6, 6)], dG498, [], [], [], 0, 0), [([], [], dP245, [], [], [], [], [], [], [], 0, 0)], 2, 101, 0, 0)
noncomputable def k924_a : ckAs := []
noncomputable def k924_c : List (Nat × ckCtr) := [(8, k923), (19, k923), (30, k923), (41, k923)]
theorem k924_ok (l : Launch) : ckCtrOk l ckMT ckTW ckCL k924 := mt_124 (as := k924_a) (cs := k924_c) (gx := []) (f := 200000) rfl (ckHc (k923_ok l) (ckHc (k923_ok l) (ckHc (k923_ok l) (ckHc (k923_ok l) (fun _ h => absurd h List.not_mem_nil))))) True.intro (by decide +kernel)
noncomputable def dC499 : List ckC := [.inl (7, [(1, 2), (1, 3), (0, 0), (1, 4), (1, 5), (1, 6), (1, 7), (1, 8), (1, 9), (1, 10)]), .inl (7, [(1, 11), (1, 12), (0, 0), (1, 13), (1, 14), (1, 15), (1, 16), (1, 17), (1, 18), (1, 19)]), .inl (2, [(1, 20), (1, 21), (1, 22), (0, 0), (0, 0), (0, 0), (0, 1), (0, 2), (0, 0), (0, 0), (0, 3), (0, 4), (0, 5), (0, 6), (0, 0), (0, 0)]), .inl (2, [(1, 23), (1, 24), (1, 25), (0, 0), (0, 0), (0, 0), (0, 1), (0, 2), (0, 0), (0, 0), (0, 3), (0, 4), (0, 5), (0, 6), (0, 0), (0, 0)]), .inl (0, [(1, 26), (0, 0)]), .inl (0, [(1, 27), (0, 0)]), .inl (0, [(1, 28), (0, 0)]), .inl (0, [(1, 29), (0, 0)]), .inl (5, [(1, 30), (1, 31), (1, 32), (1, 33), (1, 34), (0, 0)]), .inl (1, [(1, 35), (1, 36), (1, 37), (1, 38), (0, 0)]), .inl (0, [(1, 39), (0, 0)]), .inl (2, [(1, 40), (1, 41), (1, 42), (0, 0), (0, 0), (0, 0), (0, 1), (0, 2), (0, 0), (0, 0), (0, 3), (0, 4), (0, 5), (0, 6), (0, 0), (0, 0)]), .inl (2, [(1, 43), (1, 44), (1, 45), (0, 0), (0, 0), (0, 0), (0, 1), (0, 2), (0, 0), (0, 0), (0, 3), (0, 4), (0, 5), (0, 6), (0, 0), (0, 0)]), .inl (0, [(1, 46), (0, 0)]), .inl (0, [(1, 47), (0, 0)]), .inl (0, [(1, 48), (0, 0)]), .inl (0, [(1, 49), (0, 0)]), .inl (5, [(1, 50), (1, 51), (1, 52), (1, 53), (1, 54), (0, 0)]), .inl (1, [(1, 55), (1, 56), (1, 57), (1, 58), (0, 0)]), .inl (0, [(1, 59), (0, 0)]), .inr (0, 7, 0), .inr (0, 8, 1), .inl (1, [(1, 60), (1, 61), (1, 62), (1, 63), (0, 0)]), .inr (0, 7, 2), .inr (0, 8, 3), .inl (1, [(1, 64), (1, 65), (1, 66), (1, 67), (0, 0)]), .inr (0, 2, 4), .inr (0, 2, 5), .inr (0, 8, 6), .inr (0, 8, 7), .inr (0, 9, 8), .inr (0, 9, 9), .inr (0, 9, 10), .inr (0, 9, 11), .inr (0, 3, 12), .inr (0, 10, 13), .inr (0, 10, 14), .inr (0, 10, 15), .inr (0, 10, 16), .inr (0, 8, 17), .inr (0, 7, 18), .inr (0, 8, 19), .inl (1, [(1, 68), (1, 69), (1, 70), (1, 71), (0, 0)]), .inr (0, 7, 20), .inr (0, 8, 21), .inl (1, [(1, 72), (1, 73), (1, 74), (1, 75), (0, 0)]), .inr (0, 2, 22), .inr (0, 2, 23), .inr (0, 8, 24), .inr (0, 8, 25), .inr (0, 9, 26), .inr (0, 9, 27), .inr (0, 9, 28), .inr (0, 9, 29), .inr (0, 3, 30), .inr (0, 10, 31), .inr (0, 10, 32), .inr (0, 10, 33), .inr (0, 10, 34), .inr (0, 8, 35), .inr (0, 11, 36), .inr (0, 11, 37), .inr (0, 11, 38), .inr (0, 11, 39), .inr (0, 11, 40), .inr (0, 11, 41), .inr (0, 11, 42), .inr (0, 11, 43), .inr (0, 11, 44), .inr (0, 11, 45), .inr (0, 11, 46), .inr (0, 11, 47), .inr (0, 11, 48), .inr (0, 11, 49), .inr (0, 11, 50), .inr (0, 11, 51)]
noncomputable def dT500 : List ckI := [(0, 0), (50, 50), (60, 60), (10, 10), (24, 24), (200, 200), (9, 9), (48, 48), (8, 8), (70, 70), (6, 6), (30, 30)]
noncomputable def dG501 : List ckG := [([(48, (0, 0))], [], []), ([(8, (0, 0))], [], []), ([(48, (0, 0))], [], []), ([(8, (0, 0))], [], []), ([(60, (0, 0))], [], []), ([(60, (0, 0))], [], []), ([(8, (0, 0))], [], []), ([(8, (0, 0))], [], []), ([(70, (0, 0))], [], []), ([(70, (0, 0))], [], []), ([(70, (0, 0))], [], []), ([(70, (0, 0))], [], []), ([(10, (0, 0))], [], []), ([(6, (0, 0))], [], []), ([(6, (0, 0))], [], []), ([(6, (0, 0))], [], []), ([(6, (0, 0))], [], []), ([(8, (0, 0))], [], []), ([(48, (0, 0))], [], []), ([(8, (0, 0))], [], []), ([(48, (0, 0))], [], []), ([(8, (0, 0))], [], []), ([(60, (0, 0))], [], []), ([(60, (0, 0))], [], []), ([(8, (0, 0))], [], []), ([(8, (0, 0))], [], []), ([(70, (0, 0))], [], []), ([(70, (0, 0))], [], []), ([(70, (0, 0))], [], []), ([(70, (0, 0))], [], []), ([(10, (0, 0))], [], []), ([(6, (0, 0))], [], []), ([(6, (0, 0))], [], []), ([(6, (0, 0))], [], []), ([(6, (0, 0))], [], []), ([(8, (0, 0))], [], []), ([(30, (0, 0))], [], []), ([(30, (0, 0))], [], []), ([(30, (0, 0))], [], []), ([(30, (0, 0))], [], []), ([(30, (0, 0))], [], []), ([(30, (0, 0))], [], []), ([(30, (0, 0))], [], []), ([(30, (0, 0))], [], []), ([(30, (0, 0))], [], []), ([(30, (0, 0))], [], []), ([(30, (0, 0))], [], []), ([(30, (0, 0))], [], []), ([(30, (0, 0))], [], []), ([(30, (0, 0))], [], []), ([(30, (0, 0))], [], []), ([(30, (0, 0))], [], [])]
noncomputable def dP502 : List (Nat × ckC) := [(20, .inr (0, 7, 18)), (21, .inr (0, 8, 19)), (23, .inr (0, 7, 20)), (24, .inr (0, 8, 21)), (26, .inr (0, 2, 22)), (27, .inr (0, 2, 23)), (28, .inr (0, 8, 24)), (29, .inr (0, 8, 25)), (30, .inr (0, 9, 26)), (31, .inr (0, 9, 27)), (32, .inr (0, 9, 28)), (33, .inr (0, 9, 29)), (34, .inr (0, 3, 30)), (35, .inr (0, 10, 31)), (36, .inr (0, 10, 32)), (37, .inr (0, 10, 33)), (38, .inr (0, 10, 34)), (39, .inr (0, 8, 35)), (60, .inr (0, 11, 44)), (61, .inr (0, 11, 45)), (62, .inr (0, 11, 46)), (63, .inr (0, 11, 47)), (64, .inr (0, 11, 48)), (65, .inr (0, 11, 49)), (66, .inr (0, 11, 50)), (67, .inr (0, 11, 51))]
-- FarMachine$World.copyFrom
noncomputable def k925 : ckCtr := (183, ([(0, (1, 0)), (1, (1, 1))], [], dC499, dT500, dG501, [], [], [], 0, 0), [([], [], dP502, [], [], [], [], [], [], [], 0, 0)], 4, 143, 0, 0)
noncomputable def k925_a : ckAs := []
noncomputable def k925_c : List (Nat × ckCtr) := [(8, k283), (19, k283), (38, k918), (49, k918), (60, k919), (71, k919), (82, k922), (93, k924), (104, k919)]
theorem k925_ok (l : Launch) : ckCtrOk l ckMT ckTW ckCL k925 := mt_183 (as := k925_a) (cs := k925_c) (gx := []) (f := 200000) rfl (ckHc (k283_ok l) (ckHc (k283_ok l) (ckHc (k918_ok l) (ckHc (k918_ok l) (ckHc (k919_ok l) (ckHc (k919_ok l) (ckHc (k922_ok l) (ckHc (k924_ok l) (ckHc (k919_ok l) (fun _ h => absurd h List.not_mem_nil)))))))))) True.intro (by decide +kernel)
noncomputable def dC503 : List ckC := [.inl (8, [(1, 1), (1, 2), (0, 0), (4, 10), (4, 11), (4, 12), (4, 13), (4, 14)]), .inl (7, [(1, 3), (1, 4), (0, 0), (1, 5), (1, 6), (1, 7), (1, 8), (1, 9), (1, 10), (1, 11)]), .inl (7, [(1, 12), (1, 13), (0, 0), (1, 14), (1, 15), (1, 16), (1, 17), (1, 18), (1, 19), (1, 20)]), .inl (2, [(1, 21), (1, 22), (1, 23), (0, 0), (0, 0), (0, 0), (0, 1), (0, 2), (0, 0), (0, 0), (0, 3), (0, 4), (0, 5), (0, 6), (0, 0), (0, 0)]), .inl (2, [(1, 24), (1, 25), (1, 26), (0, 0), (0, 0), (0, 0), (0, 1), (0, 2), (0, 0), (0, 0), (0, 3), (0, 4), (0, 5), (0, 6), (0, 0), (0, 0)]), .inl (0, [(1, 27), (0, 0)]), .inl (0, [(1, 28), (0, 0)]), .inl (0, [(1, 29), (0, 0)]), .inl (0, [(1, 30), (0, 0)]), .inl (5, [(1, 31), (1, 32), (1, 33), (1, 34), (1, 35), (0, 0)]), .inl (1, [(1, 36), (1, 37), (1, 38), (1, 39), (0, 0)]), .inl (0, [(1, 40), (0, 0)]), .inl (2, [(1, 41), (1, 42), (1, 43), (0, 0), (0, 0), (0, 0), (0, 1), (0, 2), (0, 0), (0, 0), (0, 3), (0, 4), (0, 5), (0, 6), (0, 0), (0, 0)]), .inl (2, [(1, 44), (1, 45), (1, 46), (0, 0), (0, 0), (0, 0), (0, 1), (0, 2), (0, 0), (0, 0), (0, 3), (0, 4), (0, 5), (0, 6), (0, 0), (0, 0)]), .inl (0, [(1, 47), (0, 0)]), .inl (0, [(1, 48), (0, 0)]), .inl (0, [(1, 49), (0, 0)]), .inl (0, [(1, 50), (0, 0)]), .inl (5, [(1, 51), (1, 52), (1, 53), (1, 54), (1, 55), (0, 0)]), .inl (1, [(1, 56), (1, 57), (1, 58), (1, 59), (0, 0)]), .inl (0, [(1, 60), (0, 0)]), .inr (0, 7, 0), .inr (0, 8, 1), .inl (1, [(1, 61), (1, 62), (1, 63), (1, 64), (0, 0)]), .inr (0, 7, 2), .inr (0, 8, 3), .inl (1, [(1, 65), (1, 66), (1, 67), (1, 68), (0, 0)]), .inr (0, 2, 4), .inr (0, 2, 5), .inr (0, 8, 6), .inr (0, 8, 7), .inr (0, 9, 8), .inr (0, 9, 9), .inr (0, 9, 10), .inr (0, 9, 11), .inr (0, 3, 12), .inr (0, 10, 13), .inr (0, 10, 14), .inr (0, 10, 15), .inr (0, 10, 16), .inr (0, 8, 17), .inr (0, 7, 18), .inr (0, 8, 19), .inl (1, [(1, 69), (1, 70), (1, 71), (1, 72), (0, 0)]), .inr (0, 7, 20), .inr (0, 8, 21), .inl (1, [(1, 73), (1, 74), (1, 75), (1, 76), (0, 0)]), .inr (0, 2, 22), .inr (0, 2, 23), .inr (0, 8, 24), .inr (0, 8, 25), .inr (0, 9, 26), .inr (0, 9, 27), .inr (0, 9, 28), .inr (0, 9, 29), .inr (0, 3, 30), .inr (0, 10, 31), .inr (0, 10, 32), .inr (0, 10, 33), .inr (0, 10, 34), .inr (0, 8, 35), .inr (0, 11, 36), .inr (0, 11, 37), .inr (0, 11, 38), .inr (0, 11, 39), .inr (0, 11, 40), .inr (0, 11, 41), .inr (0, 11, 42), .inr (0, 11, 43), .inr (0, 11, 44), .inr (0, 11, 45), .inr (0, 11, 46), .inr (0, 11, 47), .inr (0, 11, 48), .inr (0, 11, 49), .inr (0, 11, 50), .inr (0, 11, 51)]
noncomputable def dP504 : List (Nat × ckC) := [(0, .inl (8, [(1, 1), (1, 2), (0, 12), (4, 10), (4, 11), (4, 12), (4, 13), (4, 14)])), (41, .inr (0, 7, 0)), (42, .inr (0, 8, 1)), (44, .inr (0, 7, 2)), (45, .inr (0, 8, 3)), (47, .inr (0, 2, 4)), (48, .inr (0, 2, 5)), (49, .inr (0, 8, 6)), (50, .inr (0, 8, 7)), (51, .inr (0, 9, 8)), (52, .inr (0, 9, 9)), (53, .inr (0, 9, 10)), (54, .inr (0, 9, 11)), (55, .inr (0, 3, 12)), (56, .inr (0, 10, 13)), (57, .inr (0, 10, 14)), (58, .inr (0, 10, 15)), (59, .inr (0, 10, 16)), (60, .inr (0, 8, 17)), (69, .inr (0, 11, 36)), (70, .inr (0, 11, 37)), (71, .inr (0, 11, 38)), (72, .inr (0, 11, 39)), (73, .inr (0, 11, 40)), (74, .inr (0, 11, 41)), (75, .inr (0, 11, 42)), (76, .inr (0, 11, 43))]
-- FarMachine.image
noncomputable def k926 : ckCtr := (31, ([(0, (1, 0))], [], dC503, dT500, dG501, [], [], [], 0, 0), [([], [(0, 0)], dP504, [], [], [(1, 1)], [], [], [], [], 0, 0)], 5, 164, 0, 0)
noncomputable def k926_a : ckAs := []
noncomputable def k926_c : List (Nat × ckCtr) := [(8, k925)]
theorem k926_ok (l : Launch) : ckCtrOk l ckMT ckTW ckCL k926 := mt_31 (as := k926_a) (cs := k926_c) (gx := []) (f := 200000) rfl (ckHc (k925_ok l) (fun _ h => absurd h List.not_mem_nil)) True.intro (by decide +kernel)
noncomputable def dC505 : List ckC := [.inl (9, [(4, 10), (1, 1), (4, 11), (1, 2), (4, 12), (4, 13), (4, 14), (4, 15), (4, 16), (4, 17), (4, 18), (4, 19), (4, 20), (4, 21), (4, 22), (4, 23), (0, 0), (0, 0), (0, 0), (0, 0), (0, 0), (0, 0), (0, 0), (4, 24), (0, 0), (4, 25), (0, 0), (0, 0), (0, 0), (0, 0), (4, 26), (0, 0), (0, 0), (0, 0), (0, 0), (4, 26), (1, 1), (0, 0), (4, 27), (4, 28), (0, 0), (0, 0)]), .inr (0, 1, 0), .inr (0, 1, 1)]
noncomputable def dP506 : List (Nat × ckC) := [(0, .inl (9, [(4, 10), (1, 1), (4, 11), (1, 2), (4, 12), (4, 13), (4, 14), (4, 15), (4, 16), (4, 17), (4, 18), (4, 19), (4, 20), (4, 21), (4, 22), (4, 23), (0, 0), (0, 2), (0, 0), (0, 0), (0, 0), (0, 0), (0, 0), (4, 24), (0, 0), (4, 25), (0, 0), (0, 0), (0, 0), (0, 0), (4, 26), (0, 0), (0, 0), (0, 0), (0, 0), (4, 26), (1, 1), (0, 0), (4, 27), (4, 28), (0, 0), (0, 0)])), (2, .inr (0, 1, 2))]
-- FarMachineModel.image
noncomputable def k927 : ckCtr := (109, ([(0, (1, 0))], [], dC505, [(0, 0), (318, 318)], dG252, [], [], [], 0, 0), [([], [(0, 0)], dP506, [], [], [(1, 1)], [([(1, (0, 200)), (318, (0, 200))], [], [])], [], [], [], 0, 0)], 2, 102, 0, 0)
noncomputable def k927_a : ckAs := []
noncomputable def k927_c : List (Nat × ckCtr) := [(8, k285)]
theorem k927_ok (l : Launch) : ckCtrOk l ckMT ckTW ckCL k927 := mt_109 (as := k927_a) (cs := k927_c) (gx := []) (f := 200000) rfl (ckHc (k285_ok l) (fun _ h => absurd h List.not_mem_nil)) True.intro (by decide +kernel)
noncomputable def dC507 : List ckC := [.inl (8, [(4, 10), (4, 11), (0, 0), (4, 12), (4, 13), (4, 14), (4, 15), (1, 1)]), .inr (0, 1, 0)]
-- FarMachine.on
noncomputable def k928 : ckCtr := (32, ([(0, (1, 0))], [], dC507, [(0, 0), (7, 7)], [([(7, (0, 0))], [], [])], [], [], [], 0, 0), [([], [(0, 2)], [(1, .inr (0, 1, 1))], [], [], [(-3, -3), (1, 1)], [([(3, (0, 0)), (4, (1, 1)), (7, (0, 0))], [(3, 3)], [])], [], [], [], 0, 0)], 2, 101, 0, 0)
noncomputable def k928_a : ckAs := []
noncomputable def k928_c : List (Nat × ckCtr) := [(10, k312)]
theorem k928_ok (l : Launch) : ckCtrOk l ckMT ckTW ckCL k928 := mt_32 (as := k928_a) (cs := k928_c) (gx := []) (f := 200000) rfl (ckHc (k312_ok l) (fun _ h => absurd h List.not_mem_nil)) True.intro (by decide +kernel)
noncomputable def dC508 : List ckC := [.inl (9, [(1, 1), (4, 10), (4, 11), (4, 12), (4, 13), (4, 14), (4, 15), (4, 16), (4, 17), (4, 18), (4, 19), (4, 20), (4, 21), (4, 22), (4, 23), (4, 24), (0, 0), (0, 0), (0, 0), (0, 0), (0, 0), (0, 0), (0, 0), (4, 25), (0, 0), (4, 26), (0, 0), (0, 0), (0, 0), (0, 0), (4, 27), (0, 0), (0, 0), (0, 0), (0, 0), (4, 27), (4, 10), (0, 0), (4, 28), (4, 29), (0, 0), (0, 0)]), .inr (0, 1, 0)]
-- FarMachineModel.on
noncomputable def k929 : ckCtr := (110, ([(0, (1, 0))], [], dC508, [(0, 0), (7, 7)], [([(7, (0, 0))], [], [])], [], [], [], 0, 0), [([], [(0, 2)], [(1, .inr (0, 1, 1))], [], [], [(-3, -3), (1, 1)], [([(3, (0, 0)), (4, (1, 1)), (7, (0, 0))], [(3, 3)], [])], [], [], [], 0, 0)], 2, 101, 0, 0)
noncomputable def k929_a : ckAs := []
noncomputable def k929_c : List (Nat × ckCtr) := [(10, k316)]
theorem k929_ok (l : Launch) : ckCtrOk l ckMT ckTW ckCL k929 := mt_110 (as := k929_a) (cs := k929_c) (gx := []) (f := 200000) rfl (ckHc (k316_ok l) (fun _ h => absurd h List.not_mem_nil)) True.intro (by decide +kernel)
noncomputable def dC509 : List ckC := [.inl (8, [(1, 1), (4, 10), (0, 1), (1, 2), (1, 3), (4, 11), (4, 12), (1, 4)]), .inl (7, [(1, 5), (4, 13), (0, 1), (4, 14), (4, 15), (1, 6), (4, 16), (1, 7), (1, 8), (1, 9)]), .inl (0, [(4, 17), (0, 1)]), .inl (0, [(4, 18), (0, 1)]), .inr (0, 2, 0), .inl (2, [(4, 19), (4, 20), (1, 10), (0, 1), (0, 1), (0, 1), (0, 3), (0, 4), (0, 1), (0, 1), (0, 5), (0, 6), (0, 7), (0, 8), (0, 1), (0, 1)]), .inl (0, [(4, 21), (0, 1)]), .inl (5, [(4, 22), (4, 23), (4, 24), (4, 25), (4, 26), (0, 1)]), .inl (1, [(4, 27), (4, 28), (4, 29), (4, 30), (0, 1)]), .inl (0, [(4, 31), (0, 1)]), .inl (1, [(4, 32), (4, 33), (4, 34), (4, 35), (0, 1)])]
-- FarMachine.count
noncomputable def k930 : ckCtr := (33, ([(0, (1, 0)), (1, (0, 0))], [], dC509, dT422, [([(7, (0, 0))], [], [])], [], [], [], 0, 0), [([], [(0, 1)], [], [], [(0, (11, 16))], [], [], [], [], [], 0, 0), ([], [(0, 9)], [], [], [(0, (17, 2147483647))], [(-9, -9)], [], [], [], [], 0, 0), ([], [(0, 9)], [], [], [(0, (-2147483648, -1))], [(-9, -9)], [], [], [], [], 0, 0), ([], [(0, 9)], [], [], [(0, (8, 10))], [(-9, -9)], [], [], [], [], 0, 0), ([], [(0, 1)], [], [], [(0, (0, 0))], [], [], [], [], [], 0, 0), ([], [(0, 1)], [], [], [(0, (1, 1))], [], [], [], [], [], 0, 0), ([], [(0, 1)], [], [], [(0, (2, 2))], [], [], [], [], [], 0, 0), ([], [(0, 1)], [], [], [(0, (3, 3))], [], [], [], [], [], 0, 0), ([], [(0, 1)], [], [], [(0, (4, 4))], [], [], [], [], [], 0, 0), ([], [(0, 1)], [], [], [(0, (5, 5))], [], [], [], [], [], 0, 0), ([], [(0, 1)], [], [], [(0, (6, 6))], [], [], [], [], [], 0, 0), ([], [(0, 1)], [], [], [(0, (7, 7))], [], [], [], [], [], 0, 0)], 1, 80, 0, 0)
noncomputable def k930_a : ckAs := []
noncomputable def k930_c : List (Nat × ckCtr) := []
theorem k930_ok (l : Launch) : ckCtrOk l ckMT ckTW ckCL k930 := mt_33 (as := k930_a) (cs := k930_c) (gx := []) (f := 200000) rfl (fun _ h => absurd h List.not_mem_nil) True.intro (by decide +kernel)
-- FarMachineModel.count
noncomputable def k931 : ckCtr := (111, ([(0, (1, 0)), (1, (0, 0))], [], dC112, [(0, 0), (318, 318)], dG40, [], [], [], 0, 0), [([], [(0, 0)], [], [], [], [], [], [], [], [], 0, 0)], 1, 80, 0, 0)
noncomputable def k931_a : ckAs := []
noncomputable def k931_c : List (Nat × ckCtr) := []
theorem k931_ok (l : Launch) : ckCtrOk l ckMT ckTW ckCL k931 := mt_111 (as := k931_a) (cs := k931_c) (gx := []) (f := 200000) rfl (fun _ h => absurd h List.not_mem_nil) True.intro (by decide +kernel)
-- FarMachineModel.count
noncomputable def k932 : ckCtr := (111, ([(0, (1, 0)), (1, (0, 0))], [], dC46, [(1, 1), (0, 0), (318, 318)], dG40, [], [], [], 0, 0), [([], [(0, 1)], [], [], [], [], [], [], [], [], 0, 0)], 1, 80, 0, 0)
noncomputable def k932_a : ckAs := []
noncomputable def k932_c : List (Nat × ckCtr) := []
theorem k932_ok (l : Launch) : ckCtrOk l ckMT ckTW ckCL k932 := mt_111 (as := k932_a) (cs := k932_c) (gx := []) (f := 200000) rfl (fun _ h => absurd h List.not_mem_nil) True.intro (by decide +kernel)
-- FarMachineModel.count
noncomputable def k933 : ckCtr := (111, ([(0, (1, 0)), (1, (0, 0))], [], dC330, [(2, 2), (0, 0)], [], [], [], [], 0, 0), [([], [(0, 1)], [], [], [], [], [], [], [], [], 0, 0)], 1, 80, 0, 0)
noncomputable def k933_a : ckAs := []
noncomputable def k933_c : List (Nat × ckCtr) := []
theorem k933_ok (l : Launch) : ckCtrOk l ckMT ckTW ckCL k933 := mt_111 (as := k933_a) (cs := k933_c) (gx := []) (f := 200000) rfl (fun _ h => absurd h List.not_mem_nil) True.intro (by decide +kernel)
-- FarMachineModel.count
noncomputable def k934 : ckCtr := (111, ([(0, (1, 0)), (1, (0, 0))], [], dC330, [(3, 3), (0, 0)], [], [], [], [], 0, 0), [([], [(0, 1)], [], [], [], [], [], [], [], [], 0, 0)], 1, 80, 0, 0)
noncomputable def k934_a : ckAs := []
noncomputable def k934_c : List (Nat × ckCtr) := []
theorem k934_ok (l : Launch) : ckCtrOk l ckMT ckTW ckCL k934 := mt_111 (as := k934_a) (cs := k934_c) (gx := []) (f := 200000) rfl (fun _ h => absurd h List.not_mem_nil) True.intro (by decide +kernel)
-- FarMachineModel.count
noncomputable def k935 : ckCtr := (111, ([(0, (1, 0)), (1, (0, 0))], [], dC330, [(4, 4), (0, 0)], [], [], [], [], 0, 0), [([], [(0, 1)], [], [], [], [], [], [], [], [], 0, 0)], 1, 80, 0, 0)
noncomputable def k935_a : ckAs := []
noncomputable def k935_c : List (Nat × ckCtr) := []
theorem k935_ok (l : Launch) : ckCtrOk l ckMT ckTW ckCL k935 := mt_111 (as := k935_a) (cs := k935_c) (gx := []) (f := 200000) rfl (fun _ h => absurd h List.not_mem_nil) True.intro (by decide +kernel)
-- FarMachineModel.count
noncomputable def k936 : ckCtr := (111, ([(0, (1, 0)), (1, (0, 0))], [], dC330, [(5, 5), (0, 0)], [], [], [], [], 0, 0), [([], [(0, 1)], [], [], [], [], [], [], [], [], 0, 0)], 1, 80, 0, 0)
noncomputable def k936_a : ckAs := []
noncomputable def k936_c : List (Nat × ckCtr) := []
theorem k936_ok (l : Launch) : ckCtrOk l ckMT ckTW ckCL k936 := mt_111 (as := k936_a) (cs := k936_c) (gx := []) (f := 200000) rfl (fun _ h => absurd h List.not_mem_nil) True.intro (by decide +kernel)
-- FarMachineModel.count
noncomputable def k937 : ckCtr := (111, ([(0, (1, 0)), (1, (0, 0))], [], dC330, [(6, 6), (0, 0)], [], [], [], [], 0, 0), [([], [(0, 1)], [], [], [], [], [], [], [], [], 0, 0)], 1, 80, 0, 0)
noncomputable def k937_a : ckAs := []
noncomputable def k937_c : List (Nat × ckCtr) := []
theorem k937_ok (l : Launch) : ckCtrOk l ckMT ckTW ckCL k937 := mt_111 (as := k937_a) (cs := k937_c) (gx := []) (f := 200000) rfl (fun _ h => absurd h List.not_mem_nil) True.intro (by decide +kernel)
-- FarMachineModel.count
noncomputable def k938 : ckCtr := (111, ([(0, (1, 0)), (1, (0, 0))], [], dC330, [(7, 7), (0, 0)], [], [], [], [], 0, 0), [([], [(0, 1)], [], [], [], [], [], [], [], [], 0, 0)], 1, 80, 0, 0)
noncomputable def k938_a : ckAs := []
noncomputable def k938_c : List (Nat × ckCtr) := []
theorem k938_ok (l : Launch) : ckCtrOk l ckMT ckTW ckCL k938 := mt_111 (as := k938_a) (cs := k938_c) (gx := []) (f := 200000) rfl (fun _ h => absurd h List.not_mem_nil) True.intro (by decide +kernel)
-- FarMachineModel.count
noncomputable def k939 : ckCtr := (111, ([(0, (1, 0)), (1, (0, 0))], [], dC330, [(8, 10), (0, 0)], [], [], [], [], 0, 0), [([], [(0, 2)], [], [], [], [(-9, -9)], [], [], [], [], 0, 0)], 1, 80, 0, 0)
noncomputable def k939_a : ckAs := []
noncomputable def k939_c : List (Nat × ckCtr) := []
theorem k939_ok (l : Launch) : ckCtrOk l ckMT ckTW ckCL k939 := mt_111 (as := k939_a) (cs := k939_c) (gx := []) (f := 200000) rfl (fun _ h => absurd h List.not_mem_nil) True.intro (by decide +kernel)
-- FarMachineModel.count
noncomputable def k940 : ckCtr := (111, ([(0, (1, 0)), (1, (0, 0))], [], dC42, [(11, 16), (0, 0), (7, 7)], [([(7, (0, 0))], [], [])], [], [], [], 0, 0), [([], [(0, 1)], [], [], [], [], [], [], [], [], 0, 0)], 1, 80, 0, 0)
noncomputable def k940_a : ckAs := []
noncomputable def k940_c : List (Nat × ckCtr) := []
theorem k940_ok (l : Launch) : ckCtrOk l ckMT ckTW ckCL k940 := mt_111 (as := k940_a) (cs := k940_c) (gx := []) (f := 200000) rfl (fun _ h => absurd h List.not_mem_nil) True.intro (by decide +kernel)
-- FarMachineModel.count
noncomputable def k941 : ckCtr := (111, ([(0, (1, 0)), (1, (0, 0))], [], dC330, [(17, 2147483647), (0, 0)], [], [], [], [], 0, 0), [([], [(0, 2)], [], [], [], [(-9, -9)], [], [], [], [], 0, 0)], 1, 80, 0, 0)
noncomputable def k941_a : ckAs := []
noncomputable def k941_c : List (Nat × ckCtr) := []
theorem k941_ok (l : Launch) : ckCtrOk l ckMT ckTW ckCL k941 := mt_111 (as := k941_a) (cs := k941_c) (gx := []) (f := 200000) rfl (fun _ h => absurd h List.not_mem_nil) True.intro (by decide +kernel)
-- FarMachineModel.count
noncomputable def k942 : ckCtr := (111, ([(0, (1, 0)), (1, (0, 0))], [], dC330, [(-2147483648, -1), (0, 0)], [], [], [], [], 0, 0), [([], [(0, 2)], [], [], [], [(-9, -9)], [], [], [], [], 0, 0)], 1, 80, 0, 0)
noncomputable def k942_a : ckAs := []
noncomputable def k942_c : List (Nat × ckCtr) := []
theorem k942_ok (l : Launch) : ckCtrOk l ckMT ckTW ckCL k942 := mt_111 (as := k942_a) (cs := k942_c) (gx := []) (f := 200000) rfl (fun _ h => absurd h List.not_mem_nil) True.intro (by decide +kernel)
