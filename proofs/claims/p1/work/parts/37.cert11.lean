/-! THE CHECKER: contracts with their certificates (printed by wip/gen/p1gen.py) -/
-- FarMachine.held
noncomputable def k835 : ckCtr := (41, ([(0, (0, 0)), (1, (0, 1)), (2, (0, 2))], [], [], [(-20, -20), (-11, -11), (20, 20)], [], [], [], [], 0, 0), [([], [(0, 1)], [], [], [], [], [], [], [], [], 0, 0)], 1, 80, 0, 0)
noncomputable def k835_a : ckAs := []
noncomputable def k835_c : List (Nat × ckCtr) := []
theorem k835_ok (l : Launch) : ckCtrOk l ckMT ckTW ckCL k835 := mt_41 (as := k835_a) (cs := k835_c) (gx := []) (f := 200000) rfl (fun _ h => absurd h List.not_mem_nil) True.intro (by decide +kernel)
-- FarMachine.held
noncomputable def k836 : ckCtr := (41, ([(0, (0, 0)), (1, (0, 1)), (2, (0, 2))], [], [], [(-20, -20), (-10, -10), (20, 20)], [], [], [], [], 0, 0), [([], [(0, 1)], [], [], [], [], [], [], [], [], 0, 0)], 1, 80, 0, 0)
noncomputable def k836_a : ckAs := []
noncomputable def k836_c : List (Nat × ckCtr) := []
theorem k836_ok (l : Launch) : ckCtrOk l ckMT ckTW ckCL k836 := mt_41 (as := k836_a) (cs := k836_c) (gx := []) (f := 200000) rfl (fun _ h => absurd h List.not_mem_nil) True.intro (by decide +kernel)
-- FarMachine.held
noncomputable def k837 : ckCtr := (41, ([(0, (0, 0)), (1, (0, 1)), (2, (0, 2))], [], [], [(-20, -20), (-9, -9), (20, 20)], [], [], [], [], 0, 0), [([], [(0, 1)], [], [], [], [], [], [], [], [], 0, 0)], 1, 80, 0, 0)
noncomputable def k837_a : ckAs := []
noncomputable def k837_c : List (Nat × ckCtr) := []
theorem k837_ok (l : Launch) : ckCtrOk l ckMT ckTW ckCL k837 := mt_41 (as := k837_a) (cs := k837_c) (gx := []) (f := 200000) rfl (fun _ h => absurd h List.not_mem_nil) True.intro (by decide +kernel)
-- FarMachine.held
noncomputable def k838 : ckCtr := (41, ([(0, (0, 0)), (1, (0, 1)), (2, (0, 2))], [], [], [(-20, -20), (-8, -8), (20, 20)], [], [], [], [], 0, 0), [([], [(0, 1)], [], [], [], [], [], [], [], [], 0, 0)], 1, 80, 0, 0)
noncomputable def k838_a : ckAs := []
noncomputable def k838_c : List (Nat × ckCtr) := []
theorem k838_ok (l : Launch) : ckCtrOk l ckMT ckTW ckCL k838 := mt_41 (as := k838_a) (cs := k838_c) (gx := []) (f := 200000) rfl (fun _ h => absurd h List.not_mem_nil) True.intro (by decide +kernel)
-- FarMachine.held
noncomputable def k839 : ckCtr := (41, ([(0, (0, 0)), (1, (0, 1)), (2, (0, 2))], [], [], [(-20, -20), (-7, -7), (20, 20)], [], [], [], [], 0, 0), [([], [(0, 1)], [], [], [], [], [], [], [], [], 0, 0)], 1, 80, 0, 0)
noncomputable def k839_a : ckAs := []
noncomputable def k839_c : List (Nat × ckCtr) := []
theorem k839_ok (l : Launch) : ckCtrOk l ckMT ckTW ckCL k839 := mt_41 (as := k839_a) (cs := k839_c) (gx := []) (f := 200000) rfl (fun _ h => absurd h List.not_mem_nil) True.intro (by decide +kernel)
-- FarMachine.held
noncomputable def k840 : ckCtr := (41, ([(0, (0, 0)), (1, (0, 1)), (2, (0, 2))], [], [], [(-20, -20), (-6, -6), (20, 20)], [], [], [], [], 0, 0), [([], [(0, 1)], [], [], [], [], [], [], [], [], 0, 0)], 1, 80, 0, 0)
noncomputable def k840_a : ckAs := []
noncomputable def k840_c : List (Nat × ckCtr) := []
theorem k840_ok (l : Launch) : ckCtrOk l ckMT ckTW ckCL k840 := mt_41 (as := k840_a) (cs := k840_c) (gx := []) (f := 200000) rfl (fun _ h => absurd h List.not_mem_nil) True.intro (by decide +kernel)
-- FarMachine.held
noncomputable def k841 : ckCtr := (41, ([(0, (0, 0)), (1, (0, 1)), (2, (0, 2))], [], [], [(-20, -20), (-5, -5), (20, 20)], [], [], [], [], 0, 0), [([], [(0, 1)], [], [], [], [], [], [], [], [], 0, 0)], 1, 80, 0, 0)
noncomputable def k841_a : ckAs := []
noncomputable def k841_c : List (Nat × ckCtr) := []
theorem k841_ok (l : Launch) : ckCtrOk l ckMT ckTW ckCL k841 := mt_41 (as := k841_a) (cs := k841_c) (gx := []) (f := 200000) rfl (fun _ h => absurd h List.not_mem_nil) True.intro (by decide +kernel)
-- FarMachine.held
noncomputable def k842 : ckCtr := (41, ([(0, (0, 0)), (1, (0, 1)), (2, (0, 2))], [], [], [(-20, -20), (-4, -4), (20, 20)], [], [], [], [], 0, 0), [([], [(0, 1)], [], [], [], [], [], [], [], [], 0, 0)], 1, 80, 0, 0)
noncomputable def k842_a : ckAs := []
noncomputable def k842_c : List (Nat × ckCtr) := []
theorem k842_ok (l : Launch) : ckCtrOk l ckMT ckTW ckCL k842 := mt_41 (as := k842_a) (cs := k842_c) (gx := []) (f := 200000) rfl (fun _ h => absurd h List.not_mem_nil) True.intro (by decide +kernel)
-- FarMachine.held
noncomputable def k843 : ckCtr := (41, ([(0, (0, 0)), (1, (0, 1)), (2, (0, 2))], [], [], [(-20, -20), (-3, -3), (20, 20)], [], [], [], [], 0, 0), [([], [(0, 1)], [], [], [], [], [], [], [], [], 0, 0)], 1, 80, 0, 0)
noncomputable def k843_a : ckAs := []
noncomputable def k843_c : List (Nat × ckCtr) := []
theorem k843_ok (l : Launch) : ckCtrOk l ckMT ckTW ckCL k843 := mt_41 (as := k843_a) (cs := k843_c) (gx := []) (f := 200000) rfl (fun _ h => absurd h List.not_mem_nil) True.intro (by decide +kernel)
-- FarMachine.held
noncomputable def k844 : ckCtr := (41, ([(0, (0, 0)), (1, (0, 1)), (2, (0, 2))], [], [], [(-20, -20), (-2, -2), (20, 20)], [], [], [], [], 0, 0), [([], [(0, 1)], [], [], [], [], [], [], [], [], 0, 0)], 1, 80, 0, 0)
noncomputable def k844_a : ckAs := []
noncomputable def k844_c : List (Nat × ckCtr) := []
theorem k844_ok (l : Launch) : ckCtrOk l ckMT ckTW ckCL k844 := mt_41 (as := k844_a) (cs := k844_c) (gx := []) (f := 200000) rfl (fun _ h => absurd h List.not_mem_nil) True.intro (by decide +kernel)
-- FarMachine.held
noncomputable def k845 : ckCtr := (41, ([(0, (0, 0)), (1, (0, 1)), (2, (0, 2))], [], [], [(-20, -20), (-1, -1), (20, 20)], [], [], [], [], 0, 0), [([], [(0, 1)], [], [], [], [], [], [], [], [], 0, 0)], 1, 80, 0, 0)
noncomputable def k845_a : ckAs := []
noncomputable def k845_c : List (Nat × ckCtr) := []
theorem k845_ok (l : Launch) : ckCtrOk l ckMT ckTW ckCL k845 := mt_41 (as := k845_a) (cs := k845_c) (gx := []) (f := 200000) rfl (fun _ h => absurd h List.not_mem_nil) True.intro (by decide +kernel)
-- FarMachine.held
noncomputable def k846 : ckCtr := (41, ([(0, (0, 0)), (1, (0, 1)), (2, (0, 2))], [], [], [(-20, -20), (0, 0), (20, 20)], [], [], [], [], 0, 0), [([], [(0, 1)], [], [], [], [], [], [], [], [], 0, 0)], 1, 80, 0, 0)
noncomputable def k846_a : ckAs := []
noncomputable def k846_c : List (Nat × ckCtr) := []
theorem k846_ok (l : Launch) : ckCtrOk l ckMT ckTW ckCL k846 := mt_41 (as := k846_a) (cs := k846_c) (gx := []) (f := 200000) rfl (fun _ h => absurd h List.not_mem_nil) True.intro (by decide +kernel)
-- FarMachine.held
noncomputable def k847 : ckCtr := (41, ([(0, (0, 0)), (1, (0, 1)), (2, (0, 2))], [], [], [(-20, -20), (1, 1), (20, 20)], [], [], [], [], 0, 0), [([], [(0, 1)], [], [], [], [], [], [], [], [], 0, 0)], 1, 80, 0, 0)
noncomputable def k847_a : ckAs := []
noncomputable def k847_c : List (Nat × ckCtr) := []
theorem k847_ok (l : Launch) : ckCtrOk l ckMT ckTW ckCL k847 := mt_41 (as := k847_a) (cs := k847_c) (gx := []) (f := 200000) rfl (fun _ h => absurd h List.not_mem_nil) True.intro (by decide +kernel)
-- FarMachine.held
noncomputable def k848 : ckCtr := (41, ([(0, (0, 0)), (1, (0, 1)), (2, (0, 2))], [], [], [(-20, -20), (2, 2), (20, 20)], [], [], [], [], 0, 0), [([], [(0, 1)], [], [], [], [], [], [], [], [], 0, 0)], 1, 80, 0, 0)
noncomputable def k848_a : ckAs := []
noncomputable def k848_c : List (Nat × ckCtr) := []
theorem k848_ok (l : Launch) : ckCtrOk l ckMT ckTW ckCL k848 := mt_41 (as := k848_a) (cs := k848_c) (gx := []) (f := 200000) rfl (fun _ h => absurd h List.not_mem_nil) True.intro (by decide +kernel)
-- FarMachine.held
noncomputable def k849 : ckCtr := (41, ([(0, (0, 0)), (1, (0, 1)), (2, (0, 2))], [], [], [(-20, -20), (3, 3), (20, 20)], [], [], [], [], 0, 0), [([], [(0, 1)], [], [], [], [], [], [], [], [], 0, 0)], 1, 80, 0, 0)
noncomputable def k849_a : ckAs := []
noncomputable def k849_c : List (Nat × ckCtr) := []
theorem k849_ok (l : Launch) : ckCtrOk l ckMT ckTW ckCL k849 := mt_41 (as := k849_a) (cs := k849_c) (gx := []) (f := 200000) rfl (fun _ h => absurd h List.not_mem_nil) True.intro (by decide +kernel)
-- FarMachine.held
noncomputable def k850 : ckCtr := (41, ([(0, (0, 0)), (1, (0, 1)), (2, (0, 2))], [], [], [(-20, -20), (4, 4), (20, 20)], [], [], [], [], 0, 0), [([], [(0, 1)], [], [], [], [], [], [], [], [], 0, 0)], 1, 80, 0, 0)
noncomputable def k850_a : ckAs := []
noncomputable def k850_c : List (Nat × ckCtr) := []
theorem k850_ok (l : Launch) : ckCtrOk l ckMT ckTW ckCL k850 := mt_41 (as := k850_a) (cs := k850_c) (gx := []) (f := 200000) rfl (fun _ h => absurd h List.not_mem_nil) True.intro (by decide +kernel)
-- FarMachine.held
noncomputable def k851 : ckCtr := (41, ([(0, (0, 0)), (1, (0, 1)), (2, (0, 2))], [], [], [(-20, -20), (5, 5), (20, 20)], [], [], [], [], 0, 0), [([], [(0, 1)], [], [], [], [], [], [], [], [], 0, 0)], 1, 80, 0, 0)
noncomputable def k851_a : ckAs := []
noncomputable def k851_c : List (Nat × ckCtr) := []
theorem k851_ok (l : Launch) : ckCtrOk l ckMT ckTW ckCL k851 := mt_41 (as := k851_a) (cs := k851_c) (gx := []) (f := 200000) rfl (fun _ h => absurd h List.not_mem_nil) True.intro (by decide +kernel)
-- FarMachine.held
noncomputable def k852 : ckCtr := (41, ([(0, (0, 0)), (1, (0, 1)), (2, (0, 2))], [], [], [(-20, -20), (6, 6), (20, 20)], [], [], [], [], 0, 0), [([], [(0, 1)], [], [], [], [], [], [], [], [], 0, 0)], 1, 80, 0, 0)
noncomputable def k852_a : ckAs := []
noncomputable def k852_c : List (Nat × ckCtr) := []
theorem k852_ok (l : Launch) : ckCtrOk l ckMT ckTW ckCL k852 := mt_41 (as := k852_a) (cs := k852_c) (gx := []) (f := 200000) rfl (fun _ h => absurd h List.not_mem_nil) True.intro (by decide +kernel)
-- FarMachine.held
noncomputable def k853 : ckCtr := (41, ([(0, (0, 0)), (1, (0, 1)), (2, (0, 2))], [], [], [(-20, -20), (7, 7), (20, 20)], [], [], [], [], 0, 0), [([], [(0, 1)], [], [], [], [], [], [], [], [], 0, 0)], 1, 80, 0, 0)
noncomputable def k853_a : ckAs := []
noncomputable def k853_c : List (Nat × ckCtr) := []
theorem k853_ok (l : Launch) : ckCtrOk l ckMT ckTW ckCL k853 := mt_41 (as := k853_a) (cs := k853_c) (gx := []) (f := 200000) rfl (fun _ h => absurd h List.not_mem_nil) True.intro (by decide +kernel)
-- FarMachine.held
noncomputable def k854 : ckCtr := (41, ([(0, (0, 0)), (1, (0, 1)), (2, (0, 2))], [], [], [(-20, -20), (8, 8), (20, 20)], [], [], [], [], 0, 0), [([], [(0, 1)], [], [], [], [], [], [], [], [], 0, 0)], 1, 80, 0, 0)
noncomputable def k854_a : ckAs := []
noncomputable def k854_c : List (Nat × ckCtr) := []
theorem k854_ok (l : Launch) : ckCtrOk l ckMT ckTW ckCL k854 := mt_41 (as := k854_a) (cs := k854_c) (gx := []) (f := 200000) rfl (fun _ h => absurd h List.not_mem_nil) True.intro (by decide +kernel)
-- FarMachine.held
noncomputable def k855 : ckCtr := (41, ([(0, (0, 0)), (1, (0, 1)), (2, (0, 2))], [], [], [(-20, -20), (9, 9), (20, 20)], [], [], [], [], 0, 0), [([], [(0, 1)], [], [], [], [], [], [], [], [], 0, 0)], 1, 80, 0, 0)
noncomputable def k855_a : ckAs := []
noncomputable def k855_c : List (Nat × ckCtr) := []
theorem k855_ok (l : Launch) : ckCtrOk l ckMT ckTW ckCL k855 := mt_41 (as := k855_a) (cs := k855_c) (gx := []) (f := 200000) rfl (fun _ h => absurd h List.not_mem_nil) True.intro (by decide +kernel)
-- FarMachine.held
noncomputable def k856 : ckCtr := (41, ([(0, (0, 0)), (1, (0, 1)), (2, (0, 2))], [], [], [(-20, -20), (10, 10), (20, 20)], [], [], [], [], 0, 0), [([], [(0, 1)], [], [], [], [], [], [], [], [], 0, 0)], 1, 80, 0, 0)
noncomputable def k856_a : ckAs := []
noncomputable def k856_c : List (Nat × ckCtr) := []
theorem k856_ok (l : Launch) : ckCtrOk l ckMT ckTW ckCL k856 := mt_41 (as := k856_a) (cs := k856_c) (gx := []) (f := 200000) rfl (fun _ h => absurd h List.not_mem_nil) True.intro (by decide +kernel)
-- FarMachine.held
noncomputable def k857 : ckCtr := (41, ([(0, (0, 0)), (1, (0, 1)), (2, (0, 2))], [], [], [(-20, -20), (11, 11), (20, 20)], [], [], [], [], 0, 0), [([], [(0, 1)], [], [], [], [], [], [], [], [], 0, 0)], 1, 80, 0, 0)
noncomputable def k857_a : ckAs := []
noncomputable def k857_c : List (Nat × ckCtr) := []
theorem k857_ok (l : Launch) : ckCtrOk l ckMT ckTW ckCL k857 := mt_41 (as := k857_a) (cs := k857_c) (gx := []) (f := 200000) rfl (fun _ h => absurd h List.not_mem_nil) True.intro (by decide +kernel)
-- FarMachine.held
noncomputable def k858 : ckCtr := (41, ([(0, (0, 0)), (1, (0, 1)), (2, (0, 2))], [], [], [(-20, -20), (12, 12), (20, 20)], [], [], [], [], 0, 0), [([], [(0, 1)], [], [], [], [], [], [], [], [], 0, 0)], 1, 80, 0, 0)
noncomputable def k858_a : ckAs := []
noncomputable def k858_c : List (Nat × ckCtr) := []
theorem k858_ok (l : Launch) : ckCtrOk l ckMT ckTW ckCL k858 := mt_41 (as := k858_a) (cs := k858_c) (gx := []) (f := 200000) rfl (fun _ h => absurd h List.not_mem_nil) True.intro (by decide +kernel)
-- FarMachine.held
noncomputable def k859 : ckCtr := (41, ([(0, (0, 0)), (1, (0, 1)), (2, (0, 2))], [], [], [(-20, -20), (13, 13), (20, 20)], [], [], [], [], 0, 0), [([], [(0, 1)], [], [], [], [], [], [], [], [], 0, 0)], 1, 80, 0, 0)
noncomputable def k859_a : ckAs := []
noncomputable def k859_c : List (Nat × ckCtr) := []
theorem k859_ok (l : Launch) : ckCtrOk l ckMT ckTW ckCL k859 := mt_41 (as := k859_a) (cs := k859_c) (gx := []) (f := 200000) rfl (fun _ h => absurd h List.not_mem_nil) True.intro (by decide +kernel)
-- FarMachine.held
noncomputable def k860 : ckCtr := (41, ([(0, (0, 0)), (1, (0, 1)), (2, (0, 2))], [], [], [(-20, -20), (14, 14), (20, 20)], [], [], [], [], 0, 0), [([], [(0, 1)], [], [], [], [], [], [], [], [], 0, 0)], 1, 80, 0, 0)
noncomputable def k860_a : ckAs := []
noncomputable def k860_c : List (Nat × ckCtr) := []
theorem k860_ok (l : Launch) : ckCtrOk l ckMT ckTW ckCL k860 := mt_41 (as := k860_a) (cs := k860_c) (gx := []) (f := 200000) rfl (fun _ h => absurd h List.not_mem_nil) True.intro (by decide +kernel)
-- FarMachine.held
noncomputable def k861 : ckCtr := (41, ([(0, (0, 0)), (1, (0, 1)), (2, (0, 2))], [], [], [(-20, -20), (15, 15), (20, 20)], [], [], [], [], 0, 0), [([], [(0, 1)], [], [], [], [], [], [], [], [], 0, 0)], 1, 80, 0, 0)
noncomputable def k861_a : ckAs := []
noncomputable def k861_c : List (Nat × ckCtr) := []
theorem k861_ok (l : Launch) : ckCtrOk l ckMT ckTW ckCL k861 := mt_41 (as := k861_a) (cs := k861_c) (gx := []) (f := 200000) rfl (fun _ h => absurd h List.not_mem_nil) True.intro (by decide +kernel)
-- FarMachine$Machine.isAimed
noncomputable def k862 : ckCtr := (136, ([(0, (0, 0))], [], [], [(-16, -16)], [], [], [], [], 0, 0), [([], [(0, 1)], [], [], [], [(0, 0)], [], [], [], [], 0, 0)], 1, 80, 0, 0)
noncomputable def k862_a : ckAs := []
noncomputable def k862_c : List (Nat × ckCtr) := []
theorem k862_ok (l : Launch) : ckCtrOk l ckMT ckTW ckCL k862 := mt_136 (as := k862_a) (cs := k862_c) (gx := []) (f := 200000) rfl (fun _ h => absurd h List.not_mem_nil) True.intro (by decide +kernel)
-- FarMachine$Machine.isAimed
noncomputable def k863 : ckCtr := (136, ([(0, (0, 0))], [], [], [(-15, -15)], [], [], [], [], 0, 0), [([], [(0, 1)], [], [], [], [(0, 0)], [], [], [], [], 0, 0)], 1, 80, 0, 0)
noncomputable def k863_a : ckAs := []
noncomputable def k863_c : List (Nat × ckCtr) := []
theorem k863_ok (l : Launch) : ckCtrOk l ckMT ckTW ckCL k863 := mt_136 (as := k863_a) (cs := k863_c) (gx := []) (f := 200000) rfl (fun _ h => absurd h List.not_mem_nil) True.intro (by decide +kernel)
-- FarMachine$Machine.isAimed
noncomputable def k864 : ckCtr := (136, ([(0, (0, 0))], [], [], [(-14, -14)], [], [], [], [], 0, 0), [([], [(0, 1)], [], [], [], [(0, 0)], [], [], [], [], 0, 0)], 1, 80, 0, 0)
noncomputable def k864_a : ckAs := []
noncomputable def k864_c : List (Nat × ckCtr) := []
theorem k864_ok (l : Launch) : ckCtrOk l ckMT ckTW ckCL k864 := mt_136 (as := k864_a) (cs := k864_c) (gx := []) (f := 200000) rfl (fun _ h => absurd h List.not_mem_nil) True.intro (by decide +kernel)
-- FarMachine$Machine.isAimed
noncomputable def k865 : ckCtr := (136, ([(0, (0, 0))], [], [], [(-13, -13)], [], [], [], [], 0, 0), [([], [(0, 1)], [], [], [], [(0, 0)], [], [], [], [], 0, 0)], 1, 80, 0, 0)
noncomputable def k865_a : ckAs := []
noncomputable def k865_c : List (Nat × ckCtr) := []
theorem k865_ok (l : Launch) : ckCtrOk l ckMT ckTW ckCL k865 := mt_136 (as := k865_a) (cs := k865_c) (gx := []) (f := 200000) rfl (fun _ h => absurd h List.not_mem_nil) True.intro (by decide +kernel)
-- FarMachine$Machine.isAimed
noncomputable def k866 : ckCtr := (136, ([(0, (0, 0))], [], [], [(-12, -12)], [], [], [], [], 0, 0), [([], [(0, 1)], [], [], [], [(0, 0)], [], [], [], [], 0, 0)], 1, 80, 0, 0)
noncomputable def k866_a : ckAs := []
noncomputable def k866_c : List (Nat × ckCtr) := []
theorem k866_ok (l : Launch) : ckCtrOk l ckMT ckTW ckCL k866 := mt_136 (as := k866_a) (cs := k866_c) (gx := []) (f := 200000) rfl (fun _ h => absurd h List.not_mem_nil) True.intro (by decide +kernel)
-- FarMachine$Machine.isAimed
noncomputable def k867 : ckCtr := (136, ([(0, (0, 0))], [], [], [(-11, -11)], [], [], [], [], 0, 0), [([], [(0, 1)], [], [], [], [(0, 0)], [], [], [], [], 0, 0)], 1, 80, 0, 0)
noncomputable def k867_a : ckAs := []
noncomputable def k867_c : List (Nat × ckCtr) := []
theorem k867_ok (l : Launch) : ckCtrOk l ckMT ckTW ckCL k867 := mt_136 (as := k867_a) (cs := k867_c) (gx := []) (f := 200000) rfl (fun _ h => absurd h List.not_mem_nil) True.intro (by decide +kernel)
-- FarMachine$Machine.isAimed
noncomputable def k868 : ckCtr := (136, ([(0, (0, 0))], [], [], [(-10, -10)], [], [], [], [], 0, 0), [([], [(0, 1)], [], [], [], [(0, 0)], [], [], [], [], 0, 0)], 1, 80, 0, 0)
noncomputable def k868_a : ckAs := []
noncomputable def k868_c : List (Nat × ckCtr) := []
theorem k868_ok (l : Launch) : ckCtrOk l ckMT ckTW ckCL k868 := mt_136 (as := k868_a) (cs := k868_c) (gx := []) (f := 200000) rfl (fun _ h => absurd h List.not_mem_nil) True.intro (by decide +kernel)
-- FarMachine$Machine.isAimed
noncomputable def k869 : ckCtr := (136, ([(0, (0, 0))], [], [], [(-9, -9)], [], [], [], [], 0, 0), [([], [(0, 1)], [], [], [], [(0, 0)], [], [], [], [], 0, 0)], 1, 80, 0, 0)
noncomputable def k869_a : ckAs := []
noncomputable def k869_c : List (Nat × ckCtr) := []
theorem k869_ok (l : Launch) : ckCtrOk l ckMT ckTW ckCL k869 := mt_136 (as := k869_a) (cs := k869_c) (gx := []) (f := 200000) rfl (fun _ h => absurd h List.not_mem_nil) True.intro (by decide +kernel)
-- FarMachine$Machine.isAimed
noncomputable def k870 : ckCtr := (136, ([(0, (0, 0))], [], [], [(-8, -8)], [], [], [], [], 0, 0), [([], [(0, 1)], [], [], [], [(0, 0)], [], [], [], [], 0, 0)], 1, 80, 0, 0)
noncomputable def k870_a : ckAs := []
noncomputable def k870_c : List (Nat × ckCtr) := []
theorem k870_ok (l : Launch) : ckCtrOk l ckMT ckTW ckCL k870 := mt_136 (as := k870_a) (cs := k870_c) (gx := []) (f := 200000) rfl (fun _ h => absurd h List.not_mem_nil) True.intro (by decide +kernel)
-- FarMachine$Machine.isAimed
noncomputable def k871 : ckCtr := (136, ([(0, (0, 0))], [], [], [(-7, -7)], [], [], [], [], 0, 0), [([], [(0, 1)], [], [], [], [(0, 0)], [], [], [], [], 0, 0)], 1, 80, 0, 0)
noncomputable def k871_a : ckAs := []
noncomputable def k871_c : List (Nat × ckCtr) := []
theorem k871_ok (l : Launch) : ckCtrOk l ckMT ckTW ckCL k871 := mt_136 (as := k871_a) (cs := k871_c) (gx := []) (f := 200000) rfl (fun _ h => absurd h List.not_mem_nil) True.intro (by decide +kernel)
-- FarMachine$Machine.isAimed
noncomputable def k872 : ckCtr := (136, ([(0, (0, 0))], [], [], [(-6, -6)], [], [], [], [], 0, 0), [([], [(0, 1)], [], [], [], [(0, 0)], [], [], [], [], 0, 0)], 1, 80, 0, 0)
noncomputable def k872_a : ckAs := []
noncomputable def k872_c : List (Nat × ckCtr) := []
theorem k872_ok (l : Launch) : ckCtrOk l ckMT ckTW ckCL k872 := mt_136 (as := k872_a) (cs := k872_c) (gx := []) (f := 200000) rfl (fun _ h => absurd h List.not_mem_nil) True.intro (by decide +kernel)
-- FarMachine$Machine.isAimed
noncomputable def k873 : ckCtr := (136, ([(0, (0, 0))], [], [], [(-5, -5)], [], [], [], [], 0, 0), [([], [(0, 1)], [], [], [], [(0, 0)], [], [], [], [], 0, 0)], 1, 80, 0, 0)
noncomputable def k873_a : ckAs := []
noncomputable def k873_c : List (Nat × ckCtr) := []
theorem k873_ok (l : Launch) : ckCtrOk l ckMT ckTW ckCL k873 := mt_136 (as := k873_a) (cs := k873_c) (gx := []) (f := 200000) rfl (fun _ h => absurd h List.not_mem_nil) True.intro (by decide +kernel)
-- FarMachine$Machine.isAimed
noncomputable def k874 : ckCtr := (136, ([(0, (0, 0))], [], [], [(-4, -4)], [], [], [], [], 0, 0), [([], [(0, 1)], [], [], [], [(0, 0)], [], [], [], [], 0, 0)], 1, 80, 0, 0)
noncomputable def k874_a : ckAs := []
noncomputable def k874_c : List (Nat × ckCtr) := []
theorem k874_ok (l : Launch) : ckCtrOk l ckMT ckTW ckCL k874 := mt_136 (as := k874_a) (cs := k874_c) (gx := []) (f := 200000) rfl (fun _ h => absurd h List.not_mem_nil) True.intro (by decide +kernel)
-- FarMachine$Machine.isAimed
noncomputable def k875 : ckCtr := (136, ([(0, (0, 0))], [], [], [(-3, -3)], [], [], [], [], 0, 0), [([], [(0, 1)], [], [], [], [(0, 0)], [], [], [], [], 0, 0)], 1, 80, 0, 0)
noncomputable def k875_a : ckAs := []
noncomputable def k875_c : List (Nat × ckCtr) := []
theorem k875_ok (l : Launch) : ckCtrOk l ckMT ckTW ckCL k875 := mt_136 (as := k875_a) (cs := k875_c) (gx := []) (f := 200000) rfl (fun _ h => absurd h List.not_mem_nil) True.intro (by decide +kernel)
-- FarMachine$Machine.isAimed
noncomputable def k876 : ckCtr := (136, ([(0, (0, 0))], [], [], [(-2, -2)], [], [], [], [], 0, 0), [([], [(0, 1)], [], [], [], [(1, 1)], [], [], [], [], 0, 0)], 1, 80, 0, 0)
noncomputable def k876_a : ckAs := []
noncomputable def k876_c : List (Nat × ckCtr) := []
theorem k876_ok (l : Launch) : ckCtrOk l ckMT ckTW ckCL k876 := mt_136 (as := k876_a) (cs := k876_c) (gx := []) (f := 200000) rfl (fun _ h => absurd h List.not_mem_nil) True.intro (by decide +kernel)
-- FarMachine$Machine.isAimed
noncomputable def k877 : ckCtr := (136, ([(0, (0, 0))], [], [], [(-1, -1)], [], [], [], [], 0, 0), [([], [(0, 1)], [], [], [], [(1, 1)], [], [], [], [], 0, 0)], 1, 80, 0, 0)
noncomputable def k877_a : ckAs := []
noncomputable def k877_c : List (Nat × ckCtr) := []
theorem k877_ok (l : Launch) : ckCtrOk l ckMT ckTW ckCL k877 := mt_136 (as := k877_a) (cs := k877_c) (gx := []) (f := 200000) rfl (fun _ h => absurd h List.not_mem_nil) True.intro (by decide +kernel)
-- FarMachine$Machine.isAimed
noncomputable def k878 : ckCtr := (136, ([(0, (0, 0))], [], [], [(0, 0)], [], [], [], [], 0, 0), [([], [(0, 1)], [], [], [], [(1, 1)], [], [], [], [], 0, 0)], 1, 80, 0, 0)
noncomputable def k878_a : ckAs := []
noncomputable def k878_c : List (Nat × ckCtr) := []
theorem k878_ok (l : Launch) : ckCtrOk l ckMT ckTW ckCL k878 := mt_136 (as := k878_a) (cs := k878_c) (gx := []) (f := 200000) rfl (fun _ h => absurd h List.not_mem_nil) True.intro (by decide +kernel)
-- FarMachine$Machine.cheapestTurn
noncomputable def k879 : ckCtr := (150, ([(0, (1, 0))], [], dC112, dT113, [], [], [], [], 0, 0), [([], [(0, 7)], [], [], [], [(16, 16)], [], [], [], [], 0, 0)], 2, 102, 0, 0)
noncomputable def k879_a : ckAs := []
noncomputable def k879_c : List (Nat × ckCtr) := [(40, k830), (40, k831), (40, k832), (40, k833), (40, k834), (40, k835), (40, k836), (40, k837), (40, k838), (40, k839), (40, k840), (40, k841), (40, k842), (40, k843), (40, k844), (40, k845), (40, k846), (40, k847), (40, k848), (40, k849), (40, k850), (40, k851), (40, k852), (40, k853), (40, k854), (40, k855), (40, k856), (40, k857), (40, k858), (40, k859), (40, k860), (40, k861), (53, k862), (53, k863), (53, k864), (53, k865), (53, k866), (53, k867), (53, k868), (53, k869), (53, k870), (53, k871), (53, k872), (53, k873), (53, k874), (53, k875), (53, k876), (53, k877), (53, k878)]
theorem k879_ok (l : Launch) : ckCtrOk l ckMT ckTW ckCL k879 := mt_150 (as := k879_a) (cs := k879_c) (gx := []) (f := 200000) rfl (ckHc (k830_ok l) (ckHc (k831_ok l) (ckHc (k832_ok l) (ckHc (k833_ok l) (ckHc (k834_ok l) (ckHc (k835_ok l) (ckHc (k836_ok l) (ckHc (k837_ok l) (ckHc (k838_ok l) (ckHc (k839_ok l) (ckHc (k840_ok l) (ckHc (k841_ok l) (ckHc (k842_ok l) (ckHc (k843_ok l) (ckHc (k844_ok l) (ckHc (k845_ok l) (ckHc (k846_ok l) (ckHc (k847_ok l) (ckHc (k848_ok l) (ckHc (k849_ok l) (ckHc (k850_ok l) (ckHc (k851_ok l) (ckHc (k852_ok l) (ckHc (k853_ok l) (ckHc (k854_ok l) (ckHc (k855_ok l) (ckHc (k856_ok l) (ckHc (k857_ok l) (ckHc (k858_ok l) (ckHc (k859_ok l) (ckHc (k860_ok l) (ckHc (k861_ok l) (ckHc (k862_ok l) (ckHc (k863_ok l) (ckHc (k864_ok l) (ckHc (k865_ok l) (ckHc (k866_ok l) (ckHc (k867_ok l) (ckHc (k868_ok l) (ckHc (k869_ok l) (ckHc (k870_ok l) (ckHc (k871_ok l) (ckHc (k872_ok l) (ckHc (k873_ok l) (ckHc (k874_ok l) (ckHc (k875_ok l) (ckHc (k876_ok l) (ckHc (k877_ok l) (ckHc (k878_ok l) (fun _ h => absurd h List.not_mem_nil)))))))))))))))))))))))))))))))))))))))))))))))))) True.intro (by decide +kernel)
noncomputable def dC431 : List ckC := [.inl (8, [(1, 1), (4, 10), (0, 0), (4, 11), (4, 12), (4, 13), (4, 14), (4, 15)]), .inl (7, [(1, 2), (4, 16), (0, 0), (4, 17), (4, 18), (4, 19), (4, 20), (4, 21), (4, 22), (4, 23)]), .inl (2, [(4, 24), (4, 25), (4, 26), (0, 0), (0, 0), (0, 0), (0, 1), (0, 2), (0, 0), (0, 0), (0, 3), (0, 4), (0, 5), (0, 6), (0, 0), (0, 0)])]
-- FarMachine.aim
noncomputable def k880 : ckCtr := (29, ([(0, (1, 0))], [], dC431, dT113, [], [], [], [], 0, 0), [([], [(0, 7)], [], [], [], [(16, 16)], [], [], [], [], 0, 0)], 3, 127, 0, 0)
noncomputable def k880_a : ckAs := []
noncomputable def k880_c : List (Nat × ckCtr) := [(7, k879)]
theorem k880_ok (l : Launch) : ckCtrOk l ckMT ckTW ckCL k880 := mt_29 (as := k880_a) (cs := k880_c) (gx := []) (f := 200000) rfl (ckHc (k879_ok l) (fun _ h => absurd h List.not_mem_nil)) True.intro (by decide +kernel)
-- FarMachineModel.held
noncomputable def k881 : ckCtr := (47, ([(0, (0, 0)), (1, (0, 1)), (2, (0, 2))], [], [], [(-16, -16), (-20, -20), (20, 20)], [], [], [], [], 0, 0), [([], [(0, 0)], [], [], [], [], [], [], [], [], 0, 0)], 1, 80, 0, 0)
noncomputable def k881_a : ckAs := []
noncomputable def k881_c : List (Nat × ckCtr) := []
theorem k881_ok (l : Launch) : ckCtrOk l ckMT ckTW ckCL k881 := mt_47 (as := k881_a) (cs := k881_c) (gx := []) (f := 200000) rfl (fun _ h => absurd h List.not_mem_nil) True.intro (by decide +kernel)
-- FarMachineModel.held
noncomputable def k882 : ckCtr := (47, ([(0, (0, 0)), (1, (0, 1)), (2, (0, 2))], [], [], [(-15, -15), (-20, -20), (20, 20)], [], [], [], [], 0, 0), [([], [(0, 0)], [], [], [], [], [], [], [], [], 0, 0)], 1, 80, 0, 0)
noncomputable def k882_a : ckAs := []
noncomputable def k882_c : List (Nat × ckCtr) := []
theorem k882_ok (l : Launch) : ckCtrOk l ckMT ckTW ckCL k882 := mt_47 (as := k882_a) (cs := k882_c) (gx := []) (f := 200000) rfl (fun _ h => absurd h List.not_mem_nil) True.intro (by decide +kernel)
-- FarMachineModel.held
noncomputable def k883 : ckCtr := (47, ([(0, (0, 0)), (1, (0, 1)), (2, (0, 2))], [], [], [(-14, -14), (-20, -20), (20, 20)], [], [], [], [], 0, 0), [([], [(0, 0)], [], [], [], [], [], [], [], [], 0, 0)], 1, 80, 0, 0)
noncomputable def k883_a : ckAs := []
noncomputable def k883_c : List (Nat × ckCtr) := []
theorem k883_ok (l : Launch) : ckCtrOk l ckMT ckTW ckCL k883 := mt_47 (as := k883_a) (cs := k883_c) (gx := []) (f := 200000) rfl (fun _ h => absurd h List.not_mem_nil) True.intro (by decide +kernel)
-- FarMachineModel.held
noncomputable def k884 : ckCtr := (47, ([(0, (0, 0)), (1, (0, 1)), (2, (0, 2))], [], [], [(-13, -13), (-20, -20), (20, 20)], [], [], [], [], 0, 0), [([], [(0, 0)], [], [], [], [], [], [], [], [], 0, 0)], 1, 80, 0, 0)
noncomputable def k884_a : ckAs := []
noncomputable def k884_c : List (Nat × ckCtr) := []
theorem k884_ok (l : Launch) : ckCtrOk l ckMT ckTW ckCL k884 := mt_47 (as := k884_a) (cs := k884_c) (gx := []) (f := 200000) rfl (fun _ h => absurd h List.not_mem_nil) True.intro (by decide +kernel)
-- FarMachineModel.held
noncomputable def k885 : ckCtr := (47, ([(0, (0, 0)), (1, (0, 1)), (2, (0, 2))], [], [], [(-12, -12), (-20, -20), (20, 20)], [], [], [], [], 0, 0), [([], [(0, 0)], [], [], [], [], [], [], [], [], 0, 0)], 1, 80, 0, 0)
noncomputable def k885_a : ckAs := []
noncomputable def k885_c : List (Nat × ckCtr) := []
theorem k885_ok (l : Launch) : ckCtrOk l ckMT ckTW ckCL k885 := mt_47 (as := k885_a) (cs := k885_c) (gx := []) (f := 200000) rfl (fun _ h => absurd h List.not_mem_nil) True.intro (by decide +kernel)
-- FarMachineModel.held
noncomputable def k886 : ckCtr := (47, ([(0, (0, 0)), (1, (0, 1)), (2, (0, 2))], [], [], [(-11, -11), (-20, -20), (20, 20)], [], [], [], [], 0, 0), [([], [(0, 0)], [], [], [], [], [], [], [], [], 0, 0)], 1, 80, 0, 0)
noncomputable def k886_a : ckAs := []
noncomputable def k886_c : List (Nat × ckCtr) := []
theorem k886_ok (l : Launch) : ckCtrOk l ckMT ckTW ckCL k886 := mt_47 (as := k886_a) (cs := k886_c) (gx := []) (f := 200000) rfl (fun _ h => absurd h List.not_mem_nil) True.intro (by decide +kernel)
-- FarMachineModel.held
noncomputable def k887 : ckCtr := (47, ([(0, (0, 0)), (1, (0, 1)), (2, (0, 2))], [], [], [(-10, -10), (-20, -20), (20, 20)], [], [], [], [], 0, 0), [([], [(0, 0)], [], [], [], [], [], [], [], [], 0, 0)], 1, 80, 0, 0)
noncomputable def k887_a : ckAs := []
noncomputable def k887_c : List (Nat × ckCtr) := []
theorem k887_ok (l : Launch) : ckCtrOk l ckMT ckTW ckCL k887 := mt_47 (as := k887_a) (cs := k887_c) (gx := []) (f := 200000) rfl (fun _ h => absurd h List.not_mem_nil) True.intro (by decide +kernel)
-- FarMachineModel.held
noncomputable def k888 : ckCtr := (47, ([(0, (0, 0)), (1, (0, 1)), (2, (0, 2))], [], [], [(-9, -9), (-20, -20), (20, 20)], [], [], [], [], 0, 0), [([], [(0, 0)], [], [], [], [], [], [], [], [], 0, 0)], 1, 80, 0, 0)
noncomputable def k888_a : ckAs := []
noncomputable def k888_c : List (Nat × ckCtr) := []
theorem k888_ok (l : Launch) : ckCtrOk l ckMT ckTW ckCL k888 := mt_47 (as := k888_a) (cs := k888_c) (gx := []) (f := 200000) rfl (fun _ h => absurd h List.not_mem_nil) True.intro (by decide +kernel)
-- FarMachineModel.held
noncomputable def k889 : ckCtr := (47, ([(0, (0, 0)), (1, (0, 1)), (2, (0, 2))], [], [], [(-8, -8), (-20, -20), (20, 20)], [], [], [], [], 0, 0), [([], [(0, 0)], [], [], [], [], [], [], [], [], 0, 0)], 1, 80, 0, 0)
noncomputable def k889_a : ckAs := []
noncomputable def k889_c : List (Nat × ckCtr) := []
theorem k889_ok (l : Launch) : ckCtrOk l ckMT ckTW ckCL k889 := mt_47 (as := k889_a) (cs := k889_c) (gx := []) (f := 200000) rfl (fun _ h => absurd h List.not_mem_nil) True.intro (by decide +kernel)
-- FarMachineModel.held
noncomputable def k890 : ckCtr := (47, ([(0, (0, 0)), (1, (0, 1)), (2, (0, 2))], [], [], [(-7, -7), (-20, -20), (20, 20)], [], [], [], [], 0, 0), [([], [(0, 0)], [], [], [], [], [], [], [], [], 0, 0)], 1, 80, 0, 0)
noncomputable def k890_a : ckAs := []
noncomputable def k890_c : List (Nat × ckCtr) := []
theorem k890_ok (l : Launch) : ckCtrOk l ckMT ckTW ckCL k890 := mt_47 (as := k890_a) (cs := k890_c) (gx := []) (f := 200000) rfl (fun _ h => absurd h List.not_mem_nil) True.intro (by decide +kernel)
-- FarMachineModel.held
noncomputable def k891 : ckCtr := (47, ([(0, (0, 0)), (1, (0, 1)), (2, (0, 2))], [], [], [(-6, -6), (-20, -20), (20, 20)], [], [], [], [], 0, 0), [([], [(0, 0)], [], [], [], [], [], [], [], [], 0, 0)], 1, 80, 0, 0)
noncomputable def k891_a : ckAs := []
noncomputable def k891_c : List (Nat × ckCtr) := []
theorem k891_ok (l : Launch) : ckCtrOk l ckMT ckTW ckCL k891 := mt_47 (as := k891_a) (cs := k891_c) (gx := []) (f := 200000) rfl (fun _ h => absurd h List.not_mem_nil) True.intro (by decide +kernel)
-- FarMachineModel.held
noncomputable def k892 : ckCtr := (47, ([(0, (0, 0)), (1, (0, 1)), (2, (0, 2))], [], [], [(-5, -5), (-20, -20), (20, 20)], [], [], [], [], 0, 0), [([], [(0, 0)], [], [], [], [], [], [], [], [], 0, 0)], 1, 80, 0, 0)
noncomputable def k892_a : ckAs := []
noncomputable def k892_c : List (Nat × ckCtr) := []
theorem k892_ok (l : Launch) : ckCtrOk l ckMT ckTW ckCL k892 := mt_47 (as := k892_a) (cs := k892_c) (gx := []) (f := 200000) rfl (fun _ h => absurd h List.not_mem_nil) True.intro (by decide +kernel)
-- FarMachineModel.held
noncomputable def k893 : ckCtr := (47, ([(0, (0, 0)), (1, (0, 1)), (2, (0, 2))], [], [], [(-4, -4), (-20, -20), (20, 20)], [], [], [], [], 0, 0), [([], [(0, 0)], [], [], [], [], [], [], [], [], 0, 0)], 1, 80, 0, 0)
noncomputable def k893_a : ckAs := []
noncomputable def k893_c : List (Nat × ckCtr) := []
theorem k893_ok (l : Launch) : ckCtrOk l ckMT ckTW ckCL k893 := mt_47 (as := k893_a) (cs := k893_c) (gx := []) (f := 200000) rfl (fun _ h => absurd h List.not_mem_nil) True.intro (by decide +kernel)
-- FarMachineModel.held
noncomputable def k894 : ckCtr := (47, ([(0, (0, 0)), (1, (0, 1)), (2, (0, 2))], [], [], [(-3, -3), (-20, -20), (20, 20)], [], [], [], [], 0, 0), [([], [(0, 0)], [], [], [], [], [], [], [], [], 0, 0)], 1, 80, 0, 0)
noncomputable def k894_a : ckAs := []
noncomputable def k894_c : List (Nat × ckCtr) := []
theorem k894_ok (l : Launch) : ckCtrOk l ckMT ckTW ckCL k894 := mt_47 (as := k894_a) (cs := k894_c) (gx := []) (f := 200000) rfl (fun _ h => absurd h List.not_mem_nil) True.intro (by decide +kernel)
-- FarMachineModel.held
noncomputable def k895 : ckCtr := (47, ([(0, (0, 0)), (1, (0, 1)), (2, (0, 2))], [], [], [(-2, -2), (-20, -20), (20, 20)], [], [], [], [], 0, 0), [([], [(0, 0)], [], [], [], [], [], [], [], [], 0, 0)], 1, 80, 0, 0)
noncomputable def k895_a : ckAs := []
noncomputable def k895_c : List (Nat × ckCtr) := []
theorem k895_ok (l : Launch) : ckCtrOk l ckMT ckTW ckCL k895 := mt_47 (as := k895_a) (cs := k895_c) (gx := []) (f := 200000) rfl (fun _ h => absurd h List.not_mem_nil) True.intro (by decide +kernel)
-- FarMachineModel.held
noncomputable def k896 : ckCtr := (47, ([(0, (0, 0)), (1, (0, 1)), (2, (0, 2))], [], [], [(-1, -1), (-20, -20), (20, 20)], [], [], [], [], 0, 0), [([], [(0, 0)], [], [], [], [], [], [], [], [], 0, 0)], 1, 80, 0, 0)
noncomputable def k896_a : ckAs := []
noncomputable def k896_c : List (Nat × ckCtr) := []
theorem k896_ok (l : Launch) : ckCtrOk l ckMT ckTW ckCL k896 := mt_47 (as := k896_a) (cs := k896_c) (gx := []) (f := 200000) rfl (fun _ h => absurd h List.not_mem_nil) True.intro (by decide +kernel)
-- FarMachineModel.held
noncomputable def k897 : ckCtr := (47, ([(0, (0, 0)), (1, (0, 1)), (2, (0, 2))], [], [], [(0, 0), (-20, -20), (20, 20)], [], [], [], [], 0, 0), [([], [(0, 0)], [], [], [], [], [], [], [], [], 0, 0)], 1, 80, 0, 0)
noncomputable def k897_a : ckAs := []
noncomputable def k897_c : List (Nat × ckCtr) := []
theorem k897_ok (l : Launch) : ckCtrOk l ckMT ckTW ckCL k897 := mt_47 (as := k897_a) (cs := k897_c) (gx := []) (f := 200000) rfl (fun _ h => absurd h List.not_mem_nil) True.intro (by decide +kernel)
-- FarMachineModel.held
noncomputable def k898 : ckCtr := (47, ([(0, (0, 0)), (1, (0, 1)), (2, (0, 2))], [], [], [(1, 1), (-20, -20), (20, 20)], [], [], [], [], 0, 0), [([], [(0, 0)], [], [], [], [], [], [], [], [], 0, 0)], 1, 80, 0, 0)
noncomputable def k898_a : ckAs := []
noncomputable def k898_c : List (Nat × ckCtr) := []
theorem k898_ok (l : Launch) : ckCtrOk l ckMT ckTW ckCL k898 := mt_47 (as := k898_a) (cs := k898_c) (gx := []) (f := 200000) rfl (fun _ h => absurd h List.not_mem_nil) True.intro (by decide +kernel)
-- FarMachineModel.held
noncomputable def k899 : ckCtr := (47, ([(0, (0, 0)), (1, (0, 1)), (2, (0, 2))], [], [], [(2, 2), (-20, -20), (20, 20)], [], [], [], [], 0, 0), [([], [(0, 0)], [], [], [], [], [], [], [], [], 0, 0)], 1, 80, 0, 0)
noncomputable def k899_a : ckAs := []
noncomputable def k899_c : List (Nat × ckCtr) := []
theorem k899_ok (l : Launch) : ckCtrOk l ckMT ckTW ckCL k899 := mt_47 (as := k899_a) (cs := k899_c) (gx := []) (f := 200000) rfl (fun _ h => absurd h List.not_mem_nil) True.intro (by decide +kernel)
-- FarMachineModel.held
noncomputable def k900 : ckCtr := (47, ([(0, (0, 0)), (1, (0, 1)), (2, (0, 2))], [], [], [(3, 3), (-20, -20), (20, 20)], [], [], [], [], 0, 0), [([], [(0, 0)], [], [], [], [], [], [], [], [], 0, 0)], 1, 80, 0, 0)
noncomputable def k900_a : ckAs := []
noncomputable def k900_c : List (Nat × ckCtr) := []
theorem k900_ok (l : Launch) : ckCtrOk l ckMT ckTW ckCL k900 := mt_47 (as := k900_a) (cs := k900_c) (gx := []) (f := 200000) rfl (fun _ h => absurd h List.not_mem_nil) True.intro (by decide +kernel)
-- FarMachineModel.held
noncomputable def k901 : ckCtr := (47, ([(0, (0, 0)), (1, (0, 1)), (2, (0, 2))], [], [], [(4, 4), (-20, -20), (20, 20)], [], [], [], [], 0, 0), [([], [(0, 0)], [], [], [], [], [], [], [], [], 0, 0)], 1, 80, 0, 0)
noncomputable def k901_a : ckAs := []
noncomputable def k901_c : List (Nat × ckCtr) := []
theorem k901_ok (l : Launch) : ckCtrOk l ckMT ckTW ckCL k901 := mt_47 (as := k901_a) (cs := k901_c) (gx := []) (f := 200000) rfl (fun _ h => absurd h List.not_mem_nil) True.intro (by decide +kernel)
-- FarMachineModel.held
noncomputable def k902 : ckCtr := (47, ([(0, (0, 0)), (1, (0, 1)), (2, (0, 2))], [], [], [(5, 5), (-20, -20), (20, 20)], [], [], [], [], 0, 0), [([], [(0, 0)], [], [], [], [], [], [], [], [], 0, 0)], 1, 80, 0, 0)
noncomputable def k902_a : ckAs := []
noncomputable def k902_c : List (Nat × ckCtr) := []
theorem k902_ok (l : Launch) : ckCtrOk l ckMT ckTW ckCL k902 := mt_47 (as := k902_a) (cs := k902_c) (gx := []) (f := 200000) rfl (fun _ h => absurd h List.not_mem_nil) True.intro (by decide +kernel)
-- FarMachineModel.held
noncomputable def k903 : ckCtr := (47, ([(0, (0, 0)), (1, (0, 1)), (2, (0, 2))], [], [], [(6, 6), (-20, -20), (20, 20)], [], [], [], [], 0, 0), [([], [(0, 0)], [], [], [], [], [], [], [], [], 0, 0)], 1, 80, 0, 0)
noncomputable def k903_a : ckAs := []
noncomputable def k903_c : List (Nat × ckCtr) := []
theorem k903_ok (l : Launch) : ckCtrOk l ckMT ckTW ckCL k903 := mt_47 (as := k903_a) (cs := k903_c) (gx := []) (f := 200000) rfl (fun _ h => absurd h List.not_mem_nil) True.intro (by decide +kernel)
-- FarMachineModel.held
noncomputable def k904 : ckCtr := (47, ([(0, (0, 0)), (1, (0, 1)), (2, (0, 2))], [], [], [(7, 7), (-20, -20), (20, 20)], [], [], [], [], 0, 0), [([], [(0, 0)], [], [], [], [], [], [], [], [], 0, 0)], 1, 80, 0, 0)
noncomputable def k904_a : ckAs := []
noncomputable def k904_c : List (Nat × ckCtr) := []
theorem k904_ok (l : Launch) : ckCtrOk l ckMT ckTW ckCL k904 := mt_47 (as := k904_a) (cs := k904_c) (gx := []) (f := 200000) rfl (fun _ h => absurd h List.not_mem_nil) True.intro (by decide +kernel)
-- FarMachineModel.held
noncomputable def k905 : ckCtr := (47, ([(0, (0, 0)), (1, (0, 1)), (2, (0, 2))], [], [], [(8, 8), (-20, -20), (20, 20)], [], [], [], [], 0, 0), [([], [(0, 0)], [], [], [], [], [], [], [], [], 0, 0)], 1, 80, 0, 0)
noncomputable def k905_a : ckAs := []
noncomputable def k905_c : List (Nat × ckCtr) := []
theorem k905_ok (l : Launch) : ckCtrOk l ckMT ckTW ckCL k905 := mt_47 (as := k905_a) (cs := k905_c) (gx := []) (f := 200000) rfl (fun _ h => absurd h List.not_mem_nil) True.intro (by decide +kernel)
-- FarMachineModel.held
noncomputable def k906 : ckCtr := (47, ([(0, (0, 0)), (1, (0, 1)), (2, (0, 2))], [], [], [(9, 9), (-20, -20), (20, 20)], [], [], [], [], 0, 0), [([], [(0, 0)], [], [], [], [], [], [], [], [], 0, 0)], 1, 80, 0, 0)
noncomputable def k906_a : ckAs := []
noncomputable def k906_c : List (Nat × ckCtr) := []
theorem k906_ok (l : Launch) : ckCtrOk l ckMT ckTW ckCL k906 := mt_47 (as := k906_a) (cs := k906_c) (gx := []) (f := 200000) rfl (fun _ h => absurd h List.not_mem_nil) True.intro (by decide +kernel)
-- FarMachineModel.held
noncomputable def k907 : ckCtr := (47, ([(0, (0, 0)), (1, (0, 1)), (2, (0, 2))], [], [], [(10, 10), (-20, -20), (20, 20)], [], [], [], [], 0, 0), [([], [(0, 0)], [], [], [], [], [], [], [], [], 0, 0)], 1, 80, 0, 0)
noncomputable def k907_a : ckAs := []
noncomputable def k907_c : List (Nat × ckCtr) := []
theorem k907_ok (l : Launch) : ckCtrOk l ckMT ckTW ckCL k907 := mt_47 (as := k907_a) (cs := k907_c) (gx := []) (f := 200000) rfl (fun _ h => absurd h List.not_mem_nil) True.intro (by decide +kernel)
-- FarMachineModel.held
noncomputable def k908 : ckCtr := (47, ([(0, (0, 0)), (1, (0, 1)), (2, (0, 2))], [], [], [(11, 11), (-20, -20), (20, 20)], [], [], [], [], 0, 0), [([], [(0, 0)], [], [], [], [], [], [], [], [], 0, 0)], 1, 80, 0, 0)
noncomputable def k908_a : ckAs := []
noncomputable def k908_c : List (Nat × ckCtr) := []
theorem k908_ok (l : Launch) : ckCtrOk l ckMT ckTW ckCL k908 := mt_47 (as := k908_a) (cs := k908_c) (gx := []) (f := 200000) rfl (fun _ h => absurd h List.not_mem_nil) True.intro (by decide +kernel)
-- FarMachineModel.held
noncomputable def k909 : ckCtr := (47, ([(0, (0, 0)), (1, (0, 1)), (2, (0, 2))], [], [], [(12, 12), (-20, -20), (20, 20)], [], [], [], [], 0, 0), [([], [(0, 0)], [], [], [], [], [], [], [], [], 0, 0)], 1, 80, 0, 0)
noncomputable def k909_a : ckAs := []
noncomputable def k909_c : List (Nat × ckCtr) := []
theorem k909_ok (l : Launch) : ckCtrOk l ckMT ckTW ckCL k909 := mt_47 (as := k909_a) (cs := k909_c) (gx := []) (f := 200000) rfl (fun _ h => absurd h List.not_mem_nil) True.intro (by decide +kernel)
-- FarMachineModel.held
noncomputable def k910 : ckCtr := (47, ([(0, (0, 0)), (1, (0, 1)), (2, (0, 2))], [], [], [(13, 13), (-20, -20), (20, 20)], [], [], [], [], 0, 0), [([], [(0, 0)], [], [], [], [], [], [], [], [], 0, 0)], 1, 80, 0, 0)
noncomputable def k910_a : ckAs := []
noncomputable def k910_c : List (Nat × ckCtr) := []
theorem k910_ok (l : Launch) : ckCtrOk l ckMT ckTW ckCL k910 := mt_47 (as := k910_a) (cs := k910_c) (gx := []) (f := 200000) rfl (fun _ h => absurd h List.not_mem_nil) True.intro (by decide +kernel)
-- FarMachineModel.held
noncomputable def k911 : ckCtr := (47, ([(0, (0, 0)), (1, (0, 1)), (2, (0, 2))], [], [], [(14, 14), (-20, -20), (20, 20)], [], [], [], [], 0, 0), [([], [(0, 0)], [], [], [], [], [], [], [], [], 0, 0)], 1, 80, 0, 0)
noncomputable def k911_a : ckAs := []
noncomputable def k911_c : List (Nat × ckCtr) := []
theorem k911_ok (l : Launch) : ckCtrOk l ckMT ckTW ckCL k911 := mt_47 (as := k911_a) (cs := k911_c) (gx := []) (f := 200000) rfl (fun _ h => absurd h List.not_mem_nil) True.intro (by decide +kernel)
-- FarMachineModel.held
noncomputable def k912 : ckCtr := (47, ([(0, (0, 0)), (1, (0, 1)), (2, (0, 2))], [], [], [(15, 15), (-20, -20), (20, 20)], [], [], [], [], 0, 0), [([], [(0, 0)], [], [], [], [], [], [], [], [], 0, 0)], 1, 80, 0, 0)
noncomputable def k912_a : ckAs := []
noncomputable def k912_c : List (Nat × ckCtr) := []
theorem k912_ok (l : Launch) : ckCtrOk l ckMT ckTW ckCL k912 := mt_47 (as := k912_a) (cs := k912_c) (gx := []) (f := 200000) rfl (fun _ h => absurd h List.not_mem_nil) True.intro (by decide +kernel)
-- FarMachineModel.aim
noncomputable def k913 : ckCtr := (107, ([(0, (1, 0))], [], dC111, [(0, 0), (318, 318)], dG40, [], [], [], 0, 0), [([], [(0, 2)], [], [], [], [(16, 16)], [], [], [], [], 0, 0)], 2, 102, 0, 0)
noncomputable def k913_a : ckAs := []
noncomputable def k913_c : List (Nat × ckCtr) := [(48, k881), (48, k882), (48, k883), (48, k884), (48, k885), (48, k886), (48, k887), (48, k888), (48, k889), (48, k890), (48, k891), (48, k892), (48, k893), (48, k894), (48, k895), (48, k896), (48, k897), (48, k898), (48, k899), (48, k900), (48, k901), (48, k902), (48, k903), (48, k904), (48, k905), (48, k906), (48, k907), (48, k908), (48, k909), (48, k910), (48, k911), (48, k912)]
theorem k913_ok (l : Launch) : ckCtrOk l ckMT ckTW ckCL k913 := mt_107 (as := k913_a) (cs := k913_c) (gx := []) (f := 200000) rfl (ckHc (k881_ok l) (ckHc (k882_ok l) (ckHc (k883_ok l) (ckHc (k884_ok l) (ckHc (k885_ok l) (ckHc (k886_ok l) (ckHc (k887_ok l) (ckHc (k888_ok l) (ckHc (k889_ok l) (ckHc (k890_ok l) (ckHc (k891_ok l) (ckHc (k892_ok l) (ckHc (k893_ok l) (ckHc (k894_ok l) (ckHc (k895_ok l) (ckHc (k896_ok l) (ckHc (k897_ok l) (ckHc (k898_ok l) (ckHc (k899_ok l) (ckHc (k900_ok l) (ckHc (k901_ok l) (ckHc (k902_ok l) (ckHc (k903_ok l) (ckHc (k904_ok l) (ckHc (k905_ok l) (ckHc (k906_ok l) (ckHc (k907_ok l) (ckHc (k908_ok l) (ckHc (k909_ok l) (ckHc (k910_ok l) (ckHc (k911_ok l) (ckHc (k912_ok l) (fun _ h => absurd h List.not_mem_nil))))))))))))))))))))))))))))))))) True.intro (by decide +kernel)
noncomputable def dC432 : List ckC := [.inl (8, [(1, 1), (4, 10), (0, 1), (4, 11), (4, 12), (4, 13), (4, 14), (1, 2)]), .inl (7, [(4, 15), (4, 16), (0, 1), (4, 17), (4, 18), (4, 19), (4, 20), (4, 21), (4, 22), (4, 23)]), .inr (0, 2, 0)]
-- FarMachine.unlike
noncomputable def k914 : ckCtr := (30, ([(0, (1, 0)), (1, (0, 0))], [], dC432, [ckTop, (0, 0), (7, 7)], [([(7, (0, 0))], [], [])], [], [], [], 0, 0), [([], [(0, 3)], [(2, .inr (0, 2, 1))], [], [(0, (-2147483648, -2))], [(-1, -1), (1, 1)], [([(1, (0, 0)), (2, (1, 1)), (7, (0, 0))], [(1, 4)], [])], [], [], [], 0, 0), ([], [(0, 3)], [(2, .inr (0, 2, 1))], [], [(0, (-1, 2147483647))], [(-3, -3), (1, 1)], [([(3, (0, 0)), (4, (1, 1)), (7, (0, 0))], [(3, 4)], [])], [], [], [], 0, 0)], 2, 101, 0, 0)
noncomputable def k914_a : ckAs := []
noncomputable def k914_c : List (Nat × ckCtr) := [(7, k14), (24, k312)]
theorem k914_ok (l : Launch) : ckCtrOk l ckMT ckTW ckCL k914 := mt_30 (as := k914_a) (cs := k914_c) (gx := []) (f := 200000) rfl (ckHc (k14_ok l) (ckHc (k312_ok l) (fun _ h => absurd h List.not_mem_nil))) True.intro (by decide +kernel)
-- FarMachineModel.unlike
noncomputable def k915 : ckCtr := (108, ([(0, (1, 0)), (1, (0, 0))], [], dC42, [(-2147483648, -2), (0, 0), (7, 7)], [([(7, (0, 0))], [], [])], [], [], [], 0, 0), [([], [(0, 3)], [(1, .inr (0, 2, 1))], [], [], [(-1, -1), (1, 1)], [([(1, (0, 0)), (2, (1, 1)), (7, (0, 0))], [(1, 4)], [])], [], [], [], 0, 0)], 2, 101, 0, 0)
noncomputable def k915_a : ckAs := []
noncomputable def k915_c : List (Nat × ckCtr) := [(7, k31)]
theorem k915_ok (l : Launch) : ckCtrOk l ckMT ckTW ckCL k915 := mt_108 (as := k915_a) (cs := k915_c) (gx := []) (f := 200000) rfl (ckHc (k31_ok l) (fun _ h => absurd h List.not_mem_nil)) True.intro (by decide +kernel)
-- FarMachineModel.unlike
noncomputable def k916 : ckCtr := (108, ([(0, (1, 0)), (1, (0, 0))], [], dC42, [(-1, 2147483647), (0, 0), (7, 7)], [([(7, (0, 0))], [], [])], [], [], [], 0, 0), [([], [(0, 3)], [(1, .inr (0, 2, 1))], [], [], [(-3, -3), (1, 1)], [([(3, (0, 0)), (4, (1, 1)), (7, (0, 0))], [(3, 4)], [])], [], [], [], 0, 0)], 2, 101, 0, 0)
noncomputable def k916_a : ckAs := []
noncomputable def k916_c : List (Nat × ckCtr) := [(21, k316)]
theorem k916_ok (l : Launch) : ckCtrOk l ckMT ckTW ckCL k916 := mt_108 (as := k916_a) (cs := k916_c) (gx := []) (f := 200000) rfl (ckHc (k316_ok l) (fun _ h => absurd h List.not_mem_nil)) True.intro (by decide +kernel)
-- FarMachine.copyRow
noncomputable def k917 : ckCtr := (42, ([(0, (1, 0)), (1, (1, 1))], [], [.inr (0, 0, 0), .inr (0, 0, 1)], [(60, 60)], [([(60, (0, 0))], [], []), ([(60, (0, 0))], [], [])], [], [], [], 0, 0), [([], [], [(1, .inr (0, 0, 0))], [], [], [], [], [], [], [], 0, 0)], 1, 80, 0, 0)
noncomputable def k917_a : ckAs := []
noncomputable def k917_c : List (Nat × ckCtr) := []
theorem k917_ok (l : Launch) : ckCtrOk l ckMT ckTW ckCL k917 := mt_42 (as := k917_a) (cs := k917_c) (gx := []) (f := 200000) rfl (fun _ h => absurd h List.not_mem_nil) True.intro (by decide +kernel)
noncomputable def dC433 : List ckC := [.inl (0, [(1, 2), (0, 0)]), .inl (0, [(1, 3), (0, 0)]), .inr (0, 1, 0), .inr (0, 1, 1)]
-- FarMachine$Bytes.copyFrom
noncomputable def k918 : ckCtr := (116, ([(0, (1, 0)), (1, (1, 1))], [], dC433, [(0, 0), (60, 60)], [([(60, (0, 0))], [], []), ([(60, (0, 0))], [], [])], [], [], [], 0, 0), [([], [], [(2, .inr (0, 1, 1))], [], [], [], [], [], [], [], 0, 0)], 2, 101, 0, 0)
noncomputable def k918_a : ckAs := []
noncomputable def k918_c : List (Nat × ckCtr) := [(8, k917)]
theorem k918_ok (l : Launch) : ckCtrOk l ckMT ckTW ckCL k918 := mt_116 (as := k918_a) (cs := k918_c) (gx := []) (f := 200000) rfl (ckHc (k917_ok l) (fun _ h => absurd h List.not_mem_nil)) True.intro (by decide +kernel)
-- FarMachine$Bytes.copyFrom
noncomputable def k919 : ckCtr := (116, ([(0, (1, 0)), (1, (1, 1))], [], dC433, [(0, 0), (8, 8)], [([(8, (0, 0))], [], []), ([(8, (0, 0))], [], [])], [], [], [], 0, 0), [([], [], [(2, .inr (0, 1, 1))], [], [], [], [], [], [], [], 0, 0)], 2, 101, 0, 0)
noncomputable def k919_a : ckAs := []
noncomputable def k919_c : List (Nat × ckCtr) := [(8, k280)]
theorem k919_ok (l : Launch) : ckCtrOk l ckMT ckTW ckCL k919 := mt_116 (as := k919_a) (cs := k919_c) (gx := []) (f := 200000) rfl (ckHc (k280_ok l) (fun _ h => absurd h List.not_mem_nil)) True.intro (by decide +kernel)
-- FarMachine.copyRow
noncomputable def k920 : ckCtr := (42, ([(0, (1, 0)), (1, (1, 1))], [], [.inr (0, 0, 0), .inr (0, 0, 1)], [(70, 70)], [([(70, (0, 0))], [], []), ([(70, (0, 0))], [], [])], [], [], [], 0, 0), [([], [], [(1, .inr (0, 0, 0))], [], [], [], [], [], [], [], 0, 0)], 1, 80, 0, 0)
noncomputable def k920_a : ckAs := []
noncomputable def k920_c : List (Nat × ckCtr) := []
theorem k920_ok (l : Launch) : ckCtrOk l ckMT ckTW ckCL k920 := mt_42 (as := k920_a) (cs := k920_c) (gx := []) (f := 200000) rfl (fun _ h => absurd h List.not_mem_nil) True.intro (by decide +kernel)
-- FarMachine.copyRow
noncomputable def k921 : ckCtr := (42, ([(0, (1, 0)), (1, (1, 1))], [], [.inr (0, 0, 0), .inr (0, 0, 1)], [(10, 10)], [([(10, (0, 0))], [], []), ([(10, (0, 0))], [], [])], [], [], [], 0, 0), [([], [], [(1, .inr (0, 0, 0))], [], [], [], [], [], [], [], 0, 0)], 1, 80, 0, 0)
noncomputable def k921_a : ckAs := []
noncomputable def k921_c : List (Nat × ckCtr) := []
theorem k921_ok (l : Launch) : ckCtrOk l ckMT ckTW ckCL k921 := mt_42 (as := k921_a) (cs := k921_c) (gx := []) (f := 200000) rfl (fun _ h => absurd h List.not_mem_nil) True.intro (by decide +kernel)
noncomputable def dC434 : List ckC := [.inl (5, [(1, 2), (1, 3), (1, 4), (1, 5), (1, 6), (0, 0)]), .inl (5, [(1, 7), (1, 8), (1, 9), (1, 10), (1, 11), (0, 0)]), .inr (0, 1, 0), .inr (0, 1, 1), .inr (0, 1, 2), .inr (0, 1, 3), .inr (0, 2, 4), .inr (0, 1, 5), .inr (0, 1, 6), .inr (0, 1, 7), .inr (0, 1, 8), .inr (0, 2, 9)]
noncomputable def dG435 : List ckG := [([(70, (0, 0))], [], []), ([(70, (0, 0))], [], []), ([(70, (0, 0))], [], []), ([(70, (0, 0))], [], []), ([(10, (0, 0))], [], []), ([(70, (0, 0))], [], []), ([(70, (0, 0))], [], []), ([(70, (0, 0))], [], []), ([(70, (0, 0))], [], []), ([(10, (0, 0))], [], [])]
noncomputable def dP436 : List (Nat × ckC) := [(2, .inr (0, 1, 5)), (3, .inr (0, 1, 6)), (4, .inr (0, 1, 7)), (5, .inr (0, 1, 8)), (6, .inr (0, 2, 9))]
-- FarMachine$Rules.copyFrom
noncomputable def k922 : ckCtr := (167, ([(0, (1, 0)), (1, (1, 1))], [], dC434, [(0, 0), (70, 70), (10, 10)], dG435, [], [], [], 0, 0), [([], [], dP436, [], [], [], [], [], [], [], 0, 0)], 2, 101, 0, 0)
noncomputable def k922_a : ckAs := []
noncomputable def k922_c : List (Nat × ckCtr) := [(8, k920), (19, k920), (30, k920), (41, k920), (52, k921)]
theorem k922_ok (l : Launch) : ckCtrOk l ckMT ckTW ckCL k922 := mt_167 (as := k922_a) (cs := k922_c) (gx := []) (f := 200000) rfl (ckHc (k920_ok l) (ckHc (k920_ok l) (ckHc (k920_ok l) (ckHc (k920_ok l) (ckHc (k921_ok l) (fun _ h => absurd h List.not_mem_nil)))))) True.intro (by decide +kernel)
-- FarMachine.copyRow
noncomputable def k923 : ckCtr := (42, ([(0, (1, 0)), (1, (1, 1))], [], [.inr (0, 0, 0), .inr (0, 0, 1)], [(6, 6)], [([(6, (0, 0))], [], []), ([(6, (0, 0))], [], [])], [], [], [], 0, 0), [([], [], [(1, .inr (0, 0, 0))], [], [], [], [], [], [], [], 0, 0)], 1, 80, 0, 0)
noncomputable def k923_a : ckAs := []
noncomputable def k923_c : List (Nat × ckCtr) := []
theorem k923_ok (l : Launch) : ckCtrOk l ckMT ckTW ckCL k923 := mt_42 (as := k923_a) (cs := k923_c) (gx := []) (f := 200000) rfl (fun _ h => absurd h List.not_mem_nil) True.intro (by decide +kernel)
noncomputable def dG437 : List ckG := [([(6, (0, 0))], [], []), ([(6, (0, 0))], [], []), ([(6, (0, 0))], [], []), ([(6, (0, 0))], [], []), ([(6, (0, 0))], [], []), ([(6, (0, 0))], [], []), ([(6, (0, 0))], [], []), ([(6, (0, 0))], [], [])]
-- FarMachine$Commands.copyFrom
noncomputable def k924 : ckCtr := (124, ([(0, (1, 0)), (1, (1, 1))], [], dC229, [(0, 0), (6, 6)], dG437, [], [], [], 0, 0), [([], [], dP231, [], [], [], [], [], [], [], 0, 0)], 2, 101, 0, 0)
noncomputable def k924_a : ckAs := []
noncomputable def k924_c : List (Nat × ckCtr) := [(8, k923), (19, k923), (30, k923), (41, k923)]
theorem k924_ok (l : Launch) : ckCtrOk l ckMT ckTW ckCL k924 := mt_124 (as := k924_a) (cs := k924_c) (gx := []) (f := 200000) rfl (ckHc (k923_ok l) (ckHc (k923_ok l) (ckHc (k923_ok l) (ckHc (k923_ok l) (fun _ h => absurd h List.not_mem_nil))))) True.intro (by decide +kernel)
noncomputable def dC438 : List ckC := [.inl (7, [(1, 2), (1, 3), (0, 0), (1, 4), (1, 5), (1, 6), (1, 7), (1, 8), (1, 9), (1, 10)]), .inl (7, [(1, 11), (1, 12), (0, 0), (1, 13), (1, 14), (1, 15), (1, 16), (1, 17), (1, 18), (1, 19)]), .inl (2, [(1, 20), (1, 21), (1, 22), (0, 0), (0, 0), (0, 0), (0, 1), (0, 2), (0, 0), (0, 0), (0, 3), (0, 4), (0, 5), (0, 6), (0, 0), (0, 0)]), .inl (2, [(1, 23), (1, 24), (1, 25), (0, 0), (0, 0), (0, 0), (0, 1), (0, 2), (0, 0), (0, 0), (0, 3), (0, 4), (0, 5), (0, 6), (0, 0), (0, 0)]), .inl (0, [(1, 26), (0, 0)]), .inl (0, [(1, 27), (0, 0)]), .inl (0, [(1, 28), (0, 0)]), .inl (0, [(1, 29), (0, 0)]), .inl (5, [(1, 30), (1, 31), (1, 32), (1, 33), (1, 34), (0, 0)]), .inl (1, [(1, 35), (1, 36), (1, 37), (1, 38), (0, 0)]), .inl (0, [(1, 39), (0, 0)]), .inl (2, [(1, 40), (1, 41), (1, 42), (0, 0), (0, 0), (0, 0), (0, 1), (0, 2), (0, 0), (0, 0), (0, 3), (0, 4), (0, 5), (0, 6), (0, 0), (0, 0)]), .inl (2, [(1, 43), (1, 44), (1, 45), (0, 0), (0, 0), (0, 0), (0, 1), (0, 2), (0, 0), (0, 0), (0, 3), (0, 4), (0, 5), (0, 6), (0, 0), (0, 0)]), .inl (0, [(1, 46), (0, 0)]), .inl (0, [(1, 47), (0, 0)]), .inl (0, [(1, 48), (0, 0)]), .inl (0, [(1, 49), (0, 0)]), .inl (5, [(1, 50), (1, 51), (1, 52), (1, 53), (1, 54), (0, 0)]), .inl (1, [(1, 55), (1, 56), (1, 57), (1, 58), (0, 0)]), .inl (0, [(1, 59), (0, 0)]), .inr (0, 7, 0), .inr (0, 8, 1), .inl (1, [(1, 60), (1, 61), (1, 62), (1, 63), (0, 0)]), .inr (0, 7, 2), .inr (0, 8, 3), .inl (1, [(1, 64), (1, 65), (1, 66), (1, 67), (0, 0)]), .inr (0, 2, 4), .inr (0, 2, 5), .inr (0, 8, 6), .inr (0, 8, 7), .inr (0, 9, 8), .inr (0, 9, 9), .inr (0, 9, 10), .inr (0, 9, 11), .inr (0, 3, 12), .inr (0, 10, 13), .inr (0, 10, 14), .inr (0, 10, 15), .inr (0, 10, 16), .inr (0, 8, 17), .inr (0, 7, 18), .inr (0, 8, 19), .inl (1, [(1, 68), (1, 69), (1, 70), (1, 71), (0, 0)]), .inr (0, 7, 20), .inr (0, 8, 21), .inl (1, [(1, 72), (1, 73), (1, 74), (1, 75), (0, 0)]), .inr (0, 2, 22), .inr (0, 2, 23), .inr (0, 8, 24), .inr (0, 8, 25), .inr (0, 9, 26), .inr (0, 9, 27), .inr (0, 9, 28), .inr (0, 9, 29), .inr (0, 3, 30), .inr (0, 10, 31), .inr (0, 10, 32), .inr (0, 10, 33), .inr (0, 10, 34), .inr (0, 8, 35), .inr (0, 11, 36), .inr (0, 11, 37), .inr (0, 11, 38), .inr (0, 11, 39), .inr (0, 11, 40), .inr (0, 11, 41), .inr (0, 11, 42), .inr (0, 11, 43), .inr (0, 11, 44), .inr (0, 11, 45), .inr (0, 11, 46), .inr (0, 11, 47), .inr (0, 11, 48), .inr (0, 11, 49), .inr (0, 11, 50), .inr (0, 11, 51)]
noncomputable def dT439 : List ckI := [(0, 0), (50, 50), (60, 60), (10, 10), (24, 24), (200, 200), (9, 9), (48, 48), (8, 8), (70, 70), (6, 6), (30, 30)]
noncomputable def dG440 : List ckG := [([(48, (0, 0))], [], []), ([(8, (0, 0))], [], []), ([(48, (0, 0))], [], []), ([(8, (0, 0))], [], []), ([(60, (0, 0))], [], []), ([(60, (0, 0))], [], []), ([(8, (0, 0))], [], []), ([(8, (0, 0))], [], []), ([(70, (0, 0))], [], []), ([(70, (0, 0))], [], []), ([(70, (0, 0))], [], []), ([(70, (0, 0))], [], []), ([(10, (0, 0))], [], []), ([(6, (0, 0))], [], []), ([(6, (0, 0))], [], []), ([(6, (0, 0))], [], []), ([(6, (0, 0))], [], []), ([(8, (0, 0))], [], []), ([(48, (0, 0))], [], []), ([(8, (0, 0))], [], []), ([(48, (0, 0))], [], []), ([(8, (0, 0))], [], []), ([(60, (0, 0))], [], []), ([(60, (0, 0))], [], []), ([(8, (0, 0))], [], []), ([(8, (0, 0))], [], []), ([(70, (0, 0))], [], []), ([(70, (0, 0))], [], []), ([(70, (0, 0))], [], []), ([(70, (0, 0))], [], []), ([(10, (0, 0))], [], []), ([(6, (0, 0))], [], []), ([(6, (0, 0))], [], []), ([(6, (0, 0))], [], []), ([(6, (0, 0))], [], []), ([(8, (0, 0))], [], []), ([(30, (0, 0))], [], []), ([(30, (0, 0))], [], []), ([(30, (0, 0))], [], []), ([(30, (0, 0))], [], []), ([(30, (0, 0))], [], []), ([(30, (0, 0))], [], []), ([(30, (0, 0))], [], []), ([(30, (0, 0))], [], []), ([(30, (0, 0))], [], []), ([(30, (0, 0))], [], []), ([(30, (0, 0))], [], []), ([(30, (0, 0))], [], []), ([(30, (0, 0))], [], []), ([(30, (0, 0))], [], []), ([(30, (0, 0))], [], []), ([(30, (0, 0))], [], [])]
noncomputable def dP441 : List (Nat × ckC) := [(20, .inr (0, 7, 18)), (21, .inr (0, 8, 19)), (23, .inr (0, 7, 20)), (24, .inr (0, 8, 21)), (26, .inr (0, 2, 22)), (27, .inr (0, 2, 23)), (28, .inr (0, 8, 24)), (29, .inr (0, 8, 25)), (30, .inr (0, 9, 26)), (31, .inr (0, 9, 27)), (32, .inr (0, 9, 28)), (33, .inr (0, 9, 29)), (34, .inr (0, 3, 30)), (35, .inr (0, 10, 31)), (36, .inr (0, 10, 32)), (37, .inr (0, 10, 33)), (38, .inr (0, 10, 34)), (39, .inr (0, 8, 35)), (60, .inr (0, 11, 44)), (61, .inr (0, 11, 45)), (62, .inr (0, 11, 46)), (63, .inr (0, 11, 47)), (64, .inr (0, 11, 48)), (65, .inr (0, 11, 49)), (66, .inr (0, 11, 50)), (67, .inr (0, 11, 51))]
-- FarMachine$World.copyFrom
noncomputable def k925 : ckCtr := (183, ([(0, (1, 0)), (1, (1, 1))], [], dC438, dT439, dG440, [], [], [], 0, 0), [([], [], dP441, [], [], [], [], [], [], [], 0, 0)], 4, 143, 0, 0)
noncomputable def k925_a : ckAs := []
noncomputable def k925_c : List (Nat × ckCtr) := [(8, k283), (19, k283), (38, k918), (49, k918), (60, k919), (71, k919), (82, k922), (93, k924), (104, k919)]
theorem k925_ok (l : Launch) : ckCtrOk l ckMT ckTW ckCL k925 := mt_183 (as := k925_a) (cs := k925_c) (gx := []) (f := 200000) rfl (ckHc (k283_ok l) (ckHc (k283_ok l) (ckHc (k918_ok l) (ckHc (k918_ok l) (ckHc (k919_ok l) (ckHc (k919_ok l) (ckHc (k922_ok l) (ckHc (k924_ok l) (ckHc (k919_ok l) (fun _ h => absurd h List.not_mem_nil)))))))))) True.intro (by decide +kernel)
noncomputable def dC442 : List ckC := [.inl (8, [(1, 1), (1, 2), (0, 0), (4, 10), (4, 11), (4, 12), (4, 13), (4, 14)]), .inl (7, [(1, 3), (1, 4), (0, 0), (1, 5), (1, 6), (1, 7), (1, 8), (1, 9), (1, 10), (1, 11)]), .inl (7, [(1, 12), (1, 13), (0, 0), (1, 14), (1, 15), (1, 16), (1, 17), (1, 18), (1, 19), (1, 20)]), .inl (2, [(1, 21), (1, 22), (1, 23), (0, 0), (0, 0), (0, 0), (0, 1), (0, 2), (0, 0), (0, 0), (0, 3), (0, 4), (0, 5), (0, 6), (0, 0), (0, 0)]), .inl (2, [(1, 24), (1, 25), (1, 26), (0, 0), (0, 0), (0, 0), (0, 1), (0, 2), (0, 0), (0, 0), (0, 3), (0, 4), (0, 5), (0, 6), (0, 0), (0, 0)]), .inl (0, [(1, 27), (0, 0)]), .inl (0, [(1, 28), (0, 0)]), .inl (0, [(1, 29), (0, 0)]), .inl (0, [(1, 30), (0, 0)]), .inl (5, [(1, 31), (1, 32), (1, 33), (1, 34), (1, 35), (0, 0)]), .inl (1, [(1, 36), (1, 37), (1, 38), (1, 39), (0, 0)]), .inl (0, [(1, 40), (0, 0)]), .inl (2, [(1, 41), (1, 42), (1, 43), (0, 0), (0, 0), (0, 0), (0, 1), (0, 2), (0, 0), (0, 0), (0, 3), (0, 4), (0, 5), (0, 6), (0, 0), (0, 0)]), .inl (2, [(1, 44), (1, 45), (1, 46), (0, 0), (0, 0), (0, 0), (0, 1), (0, 2), (0, 0), (0, 0), (0, 3), (0, 4), (0, 5), (0, 6), (0, 0), (0, 0)]), .inl (0, [(1, 47), (0, 0)]), .inl (0, [(1, 48), (0, 0)]), .inl (0, [(1, 49), (0, 0)]), .inl (0, [(1, 50), (0, 0)]), .inl (5, [(1, 51), (1, 52), (1, 53), (1, 54), (1, 55), (0, 0)]), .inl (1, [(1, 56), (1, 57), (1, 58), (1, 59), (0, 0)]), .inl (0, [(1, 60), (0, 0)]), .inr (0, 7, 0), .inr (0, 8, 1), .inl (1, [(1, 61), (1, 62), (1, 63), (1, 64), (0, 0)]), .inr (0, 7, 2), .inr (0, 8, 3), .inl (1, [(1, 65), (1, 66), (1, 67), (1, 68), (0, 0)]), .inr (0, 2, 4), .inr (0, 2, 5), .inr (0, 8, 6), .inr (0, 8, 7), .inr (0, 9, 8), .inr (0, 9, 9), .inr (0, 9, 10), .inr (0, 9, 11), .inr (0, 3, 12), .inr (0, 10, 13), .inr (0, 10, 14), .inr (0, 10, 15), .inr (0, 10, 16), .inr (0, 8, 17), .inr (0, 7, 18), .inr (0, 8, 19), .inl (1, [(1, 69), (1, 70), (1, 71), (1, 72), (0, 0)]), .inr (0, 7, 20), .inr (0, 8, 21), .inl (1, [(1, 73), (1, 74), (1, 75), (1, 76), (0, 0)]), .inr (0, 2, 22), .inr (0, 2, 23), .inr (0, 8, 24), .inr (0, 8, 25), .inr (0, 9, 26), .inr (0, 9, 27), .inr (0, 9, 28), .inr (0, 9, 29), .inr (0, 3, 30), .inr (0, 10, 31), .inr (0, 10, 32), .inr (0, 10, 33), .inr (0, 10, 34), .inr (0, 8, 35), .inr (0, 11, 36), .inr (0, 11, 37), .inr (0, 11, 38), .inr (0, 11, 39), .inr (0, 11, 40), .inr (0, 11, 41), .inr (0, 11, 42), .inr (0, 11, 43), .inr (0, 11, 44), .inr (0, 11, 45), .inr (0, 11, 46), .inr (0, 11, 47), .inr (0, 11, 48), .inr (0, 11, 49), .inr (0, 11, 50), .inr (0, 11, 51)]
noncomputable def dP443 : List (Nat × ckC) := [(0, .inl (8, [(1, 1), (1, 2), (0, 12), (4, 10), (4, 11), (4, 12), (4, 13), (4, 14)])), (41, .inr (0, 7, 0)), (42, .inr (0, 8, 1)), (44, .inr (0, 7, 2)), (45, .inr (0, 8, 3)), (47, .inr (0, 2, 4)), (48, .inr (0, 2, 5)), (49, .inr (0, 8, 6)), (50, .inr (0, 8, 7)), (51, .inr (0, 9, 8)), (52, .inr (0, 9, 9)), (53, .inr (0, 9, 10)), (54, .inr (0, 9, 11)), (55, .inr (0, 3, 12)), (56, .inr (0, 10, 13)), (57, .inr (0, 10, 14)), (58, .inr (0, 10, 15)), (59, .inr (0, 10, 16)), (60, .inr (0, 8, 17)), (69, .inr (0, 11, 36)), (70, .inr (0, 11, 37)), (71, .inr (0, 11, 38)), (72, .inr (0, 11, 39)), (73, .inr (0, 11, 40)), (74, .inr (0, 11, 41)), (75, .inr (0, 11, 42)), (76, .inr (0, 11, 43))]
-- FarMachine.image
noncomputable def k926 : ckCtr := (31, ([(0, (1, 0))], [], dC442, dT439, dG440, [], [], [], 0, 0), [([], [(0, 0)], dP443, [], [], [(1, 1)], [], [], [], [], 0, 0)], 5, 164, 0, 0)
noncomputable def k926_a : ckAs := []
noncomputable def k926_c : List (Nat × ckCtr) := [(8, k925)]
theorem k926_ok (l : Launch) : ckCtrOk l ckMT ckTW ckCL k926 := mt_31 (as := k926_a) (cs := k926_c) (gx := []) (f := 200000) rfl (ckHc (k925_ok l) (fun _ h => absurd h List.not_mem_nil)) True.intro (by decide +kernel)
