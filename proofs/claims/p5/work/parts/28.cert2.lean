/-! THE CHECKER: contracts with their certificates (printed by wip/gen2/p16gen.py) -/
-- FarMachine$Machine.hasOn
noncomputable def k117 : ckCtr := (133, ([(0, (1, 0)), (1, (0, 0))], [], dC134, dT135, [([(8, ckTop)], [], [])], [], [], [], 0, 0), [([], [(0, 15)], [], [], [], [(1, 1)], [], [], [], [], 0, 0), ([], [(0, 15)], [], [], [], [(0, 0)], [], [], [], [], 0, 0)], 2, 101, 0, 0)
noncomputable def k117_a : ckAs := [(2, [(950973, [(1, 0, 0, ([(0, (1, 0)), (1, (0, 0)), (2, (0, 16))], [], [], [], [], [(0, 8)], [], [], [], [], 0, 0))])])]
noncomputable def k117_c : List (Nat × ckCtr) := [(13, k100)]
theorem k117_ok (l : Launch) : ckCtrOk l ckMT ckTW ckCL k117 := mt_133 (as := k117_a) (cs := k117_c) (gx := []) (f := 200000) rfl (ckHc (k100_ok l) (fun _ h => absurd h List.not_mem_nil)) True.intro (by decide +kernel)
-- FarMachine.held
noncomputable def k118 : ckCtr := (41, ([(0, (0, 0)), (1, (0, 1)), (2, (0, 2))], [], [], [ckTop, ckTop, (20, 20)], [], [], [], [], 0, 0), [([], [(0, 3)], [], [], [], [ckTop], [], [], [(0, 3, 0)], [], 0, 0)], 1, 80, 0, 0)
noncomputable def k118_a : ckAs := []
noncomputable def k118_c : List (Nat × ckCtr) := []
theorem k118_ok (l : Launch) : ckCtrOk l ckMT ckTW ckCL k118 := mt_41 (as := k118_a) (cs := k118_c) (gx := []) (f := 200000) rfl (fun _ h => absurd h List.not_mem_nil) True.intro (by decide +kernel)
noncomputable def dP168 : List (Nat × ckC) := [(0, .inl (2, [(4, 10), (1, 1), (4, 11), (0, 1), (0, 2), (0, 3), (0, 4), (0, 15), (0, 16), (0, 7), (0, 8), (0, 9), (0, 10), (0, 11), (0, 12), (0, 13)]))]
-- FarMachine$Machine.turnDish
noncomputable def k119 : ckCtr := (140, ([(0, (1, 0)), (1, (0, 0))], [], dC134, dT135, [([(8, ckTop)], [], [])], [], [], [], 0, 0), [([], [], dP168, [], [], [ckTop, ckTop], [], [], [], [], 0, 0), ([], [], [], [], [(5, (-2147483648, 2147483646))], [], [], [], [], [], 0, 0)], 3, 123, 0, 0)
noncomputable def k119_a : ckAs := []
noncomputable def k119_c : List (Nat × ckCtr) := [(7, k117), (32, k118)]
theorem k119_ok (l : Launch) : ckCtrOk l ckMT ckTW ckCL k119 := mt_140 (as := k119_a) (cs := k119_c) (gx := []) (f := 200000) rfl (ckHc (k117_ok l) (ckHc (k118_ok l) (fun _ h => absurd h List.not_mem_nil))) True.intro (by decide +kernel)
-- FarMachine$Machine.isAimed
noncomputable def k120 : ckCtr := (136, ([(0, (0, 0))], [], [], [ckTop], [], [], [], [], 0, 0), [([], [(0, 1)], [], [], [(0, (-2, 2))], [(1, 1)], [], [], [], [], 0, 0), ([], [(0, 1)], [], [], [], [(0, 0)], [], [], [], [], 0, 0)], 1, 80, 0, 0)
noncomputable def k120_a : ckAs := []
noncomputable def k120_c : List (Nat × ckCtr) := []
theorem k120_ok (l : Launch) : ckCtrOk l ckMT ckTW ckCL k120 := mt_136 (as := k120_a) (cs := k120_c) (gx := []) (f := 200000) rfl (fun _ h => absurd h List.not_mem_nil) True.intro (by decide +kernel)
noncomputable def dC169 : List ckC := [.inl (2, [(1, 1), (1, 2), (4, 10), (0, 0), (0, 1), (0, 2), (0, 3), (0, 4), (0, 5), (0, 6), (0, 7), (0, 8), (0, 9), (0, 10), (0, 11), (0, 12)]), .inr (0, 13, 0), .inr (0, 14, 1)]
noncomputable def dT170 : List ckI := [ckTop, ckTop, ckTop, ckTop, ckTop, ckTop, ckTop, ckTop, ckTop, ckTop, ckTop, ckTop, ckTop, (48, 48), (8, 8)]
noncomputable def dP171 : List (Nat × ckC) := [(0, .inl (2, [(1, 1), (1, 2), (4, 10), (0, 16), (0, 17), (0, 18), (0, 3), (0, 19), (0, 20), (0, 21), (0, 7), (0, 8), (0, 9), (0, 10), (0, 11), (0, 12)]))]
noncomputable def dP172 : List (Nat × ckC) := [(0, .inl (2, [(1, 1), (1, 2), (4, 10), (0, 0), (0, 16), (0, 2), (0, 3), (0, 4), (0, 5), (0, 6), (0, 7), (0, 8), (0, 9), (0, 10), (0, 11), (0, 12)]))]
-- FarMachine$Machine.act
noncomputable def k121 : ckCtr := (139, ([(0, (1, 0))], [], dC169, dT170, [([(48, ckTop)], [], []), ([(8, ckTop)], [], [])], [], [], [], 0, 0), [([], [(0, 15)], dP171, [], [], [(1000, 1000), ckTop, ckTop, ckTop, ckTop, ckTop, ckTop], [], [], [(1, 17, 47), (17, 1, 31)], [], 0, 0), ([], [(0, 15)], dP172, [], [(1, (0, 47)), (5, (-2, 2))], [ckTop, (0, 47)], [], [], [(16, 1, 1)], [], 0, 0)], 4, 147, 0, 0)
noncomputable def k121_a : ckAs := []
noncomputable def k121_c : List (Nat × ckCtr) := [(5, k17), (127, k116), (153, k29), (164, k119), (189, k103), (200, k117), (210, k120), (218, k103)]
theorem k121_ok (l : Launch) : ckCtrOk l ckMT ckTW ckCL k121 := mt_139 (as := k121_a) (cs := k121_c) (gx := []) (f := 200000) rfl (ckHc (k17_ok l) (ckHc (k116_ok l) (ckHc (k29_ok l) (ckHc (k119_ok l) (ckHc (k103_ok l) (ckHc (k117_ok l) (ckHc (k120_ok l) (ckHc (k103_ok l) (fun _ h => absurd h List.not_mem_nil))))))))) True.intro (by decide +kernel)
-- FarMachine$Machine.sumOf
noncomputable def k122 : ckCtr := (135, ([(0, (1, 0)), (1, (4, 1)), (2, (0, 0))], [], dC134, dT135, [([(8, ckTop)], [], [])], [], [], [], 0, 0), [([], [(0, 15)], [], [], [], [ckTop], [], [], [], [], 0, 0)], 1, 80, 0, 0)
noncomputable def k122_a : ckAs := [(5, [(297720, [(1, 0, 1, ([(0, (1, 0)), (1, (4, 1)), (2, (0, 0)), (3, (0, 17)), (4, (0, 18))], [], [], [], [], [ckTop, (0, 8)], [], [], [], [], 0, 0))])])]
noncomputable def k122_c : List (Nat × ckCtr) := []
theorem k122_ok (l : Launch) : ckCtrOk l ckMT ckTW ckCL k122 := mt_135 (as := k122_a) (cs := k122_c) (gx := []) (f := 200000) rfl (fun _ h => absurd h List.not_mem_nil) True.intro (by decide +kernel)
-- FarMachine$Machine.sumOn
noncomputable def k123 : ckCtr := (134, ([(0, (1, 0)), (1, (4, 1))], [], dC136, dT137, [([(8, ckTop)], [], [])], [], [], [], 0, 0), [([], [(0, 14)], [], [], [], [ckTop], [], [], [], [], 0, 0)], 2, 105, 0, 0)
noncomputable def k123_a : ckAs := []
noncomputable def k123_c : List (Nat × ckCtr) := [(6, k122)]
theorem k123_ok (l : Launch) : ckCtrOk l ckMT ckTW ckCL k123 := mt_134 (as := k123_a) (cs := k123_c) (gx := []) (f := 200000) rfl (ckHc (k122_ok l) (fun _ h => absurd h List.not_mem_nil)) True.intro (by decide +kernel)
-- FarMachine.held
noncomputable def k124 : ckCtr := (41, ([(0, (0, 0)), (1, (0, 1)), (2, (0, 2))], [], [], [ckTop, ckTop, (99, 99)], [], [], [], [], 0, 0), [([], [(0, 3)], [], [], [], [ckTop], [], [], [(0, 3, 0)], [], 0, 0)], 1, 80, 0, 0)
noncomputable def k124_a : ckAs := []
noncomputable def k124_c : List (Nat × ckCtr) := []
theorem k124_ok (l : Launch) : ckCtrOk l ckMT ckTW ckCL k124 := mt_41 (as := k124_a) (cs := k124_c) (gx := []) (f := 200000) rfl (fun _ h => absurd h List.not_mem_nil) True.intro (by decide +kernel)
-- FarMachine$Machine.heatAfter
noncomputable def k125 : ckCtr := (143, ([(0, (1, 0)), (1, (0, 0))], [], dC134, dT135, [([(8, ckTop)], [], [])], [], [], [], 0, 0), [([], [(0, 15)], [], [], [], [(0, 2147483647)], [], [], [], [], 0, 0)], 3, 126, 0, 0)
noncomputable def k125_a : ckAs := []
noncomputable def k125_c : List (Nat × ckCtr) := [(6, k123), (14, k124)]
theorem k125_ok (l : Launch) : ckCtrOk l ckMT ckTW ckCL k125 := mt_143 (as := k125_a) (cs := k125_c) (gx := []) (f := 200000) rfl (ckHc (k123_ok l) (ckHc (k124_ok l) (fun _ h => absurd h List.not_mem_nil))) True.intro (by decide +kernel)
noncomputable def dP173 : List (Nat × ckC) := [(0, .inl (2, [(4, 10), (1, 1), (4, 11), (0, 14), (0, 1), (0, 2), (0, 15), (0, 4), (0, 5), (0, 6), (0, 7), (0, 8), (0, 9), (0, 10), (0, 11), (0, 12)]))]
noncomputable def dP174 : List (Nat × ckC) := [(0, .inl (2, [(4, 10), (1, 1), (4, 11), (0, 17), (0, 1), (0, 2), (0, 14), (0, 4), (0, 5), (0, 6), (0, 7), (0, 8), (0, 9), (0, 10), (0, 11), (0, 12)]))]
-- FarMachine$Machine.changeHeat
noncomputable def k126 : ckCtr := (144, ([(0, (1, 0))], [], dC136, dT137, [([(8, ckTop)], [], [])], [], [], [], 0, 0), [([], [], dP173, [], [], [ckTop, (0, 2147483647)], [], [], [], [], 0, 0)], 4, 147, 0, 0)
noncomputable def k126_a : ckAs := [(25, [(804446, [(1, 0, 0, ([(0, (1, 0)), (1, (0, 16))], [], dP174, [], [], [(0, 8), ckTop], [], [], [(14, 7, (-1))], [], 0, 0))])])]
noncomputable def k126_c : List (Nat × ckCtr) := [(6, k125), (58, k29)]
theorem k126_ok (l : Launch) : ckCtrOk l ckMT ckTW ckCL k126 := mt_144 (as := k126_a) (cs := k126_c) (gx := []) (f := 200000) rfl (ckHc (k125_ok l) (ckHc (k29_ok l) (fun _ h => absurd h List.not_mem_nil))) True.intro (by decide +kernel)
noncomputable def dC175 : List ckC := [.inl (2, [(4, 10), (4, 11), (4, 12), (0, 0), (0, 1), (0, 2), (0, 3), (0, 4), (0, 5), (0, 6), (0, 7), (0, 8), (0, 9), (0, 10), (0, 11), (0, 12)])]
noncomputable def dP176 : List (Nat × ckC) := [(0, .inl (2, [(4, 10), (4, 11), (4, 12), (0, 0), (0, 1), (0, 2), (0, 3), (0, 4), (0, 13), (0, 6), (0, 7), (0, 8), (0, 9), (0, 10), (0, 11), (0, 12)]))]
-- FarMachine$Machine.driftDish
noncomputable def k127 : ckCtr := (145, ([(0, (1, 0))], [], dC175, dT3, [], [], [], [], 0, 0), [([], [], dP176, [], [], [ckTop], [], [], [], [], 0, 0)], 1, 80, 0, 0)
noncomputable def k127_a : ckAs := []
noncomputable def k127_c : List (Nat × ckCtr) := []
theorem k127_ok (l : Launch) : ckCtrOk l ckMT ckTW ckCL k127 := mt_145 (as := k127_a) (cs := k127_c) (gx := []) (f := 200000) rfl (fun _ h => absurd h List.not_mem_nil) True.intro (by decide +kernel)
noncomputable def dT177 : List ckI := [(0, 1), ckTop, ckTop, ckTop, ckTop, ckTop, ckTop, ckTop, ckTop, ckTop, ckTop, ckTop, ckTop, ckTop]
noncomputable def dP178 : List (Nat × ckC) := [(0, .inl (2, [(4, 10), (4, 11), (4, 12), (0, 1), (0, 14), (0, 3), (0, 4), (0, 5), (0, 6), (0, 15), (0, 8), (0, 9), (0, 10), (0, 11), (0, 12), (0, 16)]))]
-- FarMachine$Machine.countSilence
noncomputable def k128 : ckCtr := (146, ([(0, (1, 0)), (1, (0, 0))], [], dC141, dT177, [], [], [], [], 0, 0), [([], [], dP178, [], [], [ckTop, ckTop, (-2147483648, 2147483646)], [], [], [], [], 0, 0)], 2, 101, 0, 0)
noncomputable def k128_a : ckAs := []
noncomputable def k128_c : List (Nat × ckCtr) := [(32, k111)]
theorem k128_ok (l : Launch) : ckCtrOk l ckMT ckTW ckCL k128 := mt_146 (as := k128_a) (cs := k128_c) (gx := []) (f := 200000) rfl (ckHc (k111_ok l) (fun _ h => absurd h List.not_mem_nil)) True.intro (by decide +kernel)
noncomputable def dC179 : List ckC := [.inl (2, [(1, 1), (1, 2), (1, 3), (0, 0), (0, 1), (0, 2), (0, 3), (0, 4), (0, 5), (0, 6), (0, 7), (0, 8), (0, 9), (0, 10), (0, 11), (0, 12)]), .inr (0, 13, 0), .inr (0, 14, 1), .inl (1, [(1, 4), (1, 5), (1, 6), (1, 7), (0, 15)]), .inr (0, 16, 2), .inr (0, 16, 3), .inr (0, 16, 4), .inr (0, 16, 5)]
noncomputable def dT180 : List ckI := [ckTop, ckTop, ckTop, ckTop, ckTop, ckTop, ckTop, ckTop, ckTop, ckTop, ckTop, ckTop, ckTop, (48, 48), (8, 8), ckTop, (30, 30)]
noncomputable def dG181 : List ckG := [([(48, ckTop)], [], []), ([(8, ckTop)], [], []), ([(30, ckTop)], [], []), ([(30, ckTop)], [], []), ([(30, ckTop)], [], []), ([(30, ckTop)], [], [])]
noncomputable def dP182 : List (Nat × ckC) := [(0, .inl (2, [(1, 1), (1, 2), (1, 3), (0, 18), (0, 19), (0, 20), (0, 21), (0, 22), (0, 23), (0, 24), (0, 7), (0, 8), (0, 9), (0, 10), (0, 25), (0, 26)])), (1, .inr (0, 13, 6)), (3, .inl (1, [(1, 4), (1, 5), (1, 6), (1, 7), (0, 27)])), (4, .inr (0, 16, 7)), (5, .inr (0, 16, 8)), (6, .inr (0, 16, 9)), (7, .inr (0, 16, 10))]
noncomputable def dT183 : List ckI := [ckTop, ckTop, ckTop, ckTop, (0, 2147483647), ckTop, ckTop, ckTop, (-2147483648, 2000), (-2147483648, 2147483646), (0, 30)]
-- FarMachine$Machine.passHour
noncomputable def k129 : ckCtr := (137, ([(0, (1, 0))], [], dC179, dT180, dG181, [], [], [], 0, 0), [([], [(0, 17)], dP182, [], [], dT183, dG165, [], [], [], 0, 0)], 5, 171, 0, 0)
noncomputable def k129_a : ckAs := []
noncomputable def k129_c : List (Nat × ckCtr) := [(1, k115), (30, k121), (35, k126), (39, k127), (44, k128)]
theorem k129_ok (l : Launch) : ckCtrOk l ckMT ckTW ckCL k129 := mt_137 (as := k129_a) (cs := k129_c) (gx := []) (f := 200000) rfl (ckHc (k115_ok l) (ckHc (k121_ok l) (ckHc (k126_ok l) (ckHc (k127_ok l) (ckHc (k128_ok l) (fun _ h => absurd h List.not_mem_nil)))))) True.intro (by decide +kernel)
-- FarMachine$Bytes.add
noncomputable def k130 : ckCtr := (114, ([(0, (1, 0)), (1, (0, 0))], [], [.inl (0, [(1, 1), (0, 1)]), .inr (0, 2, 0)], [ckTop, ckTop, (60, 60)], [([(60, ckTop)], [], [])], [], [], [], 0, 0), [([], [], [(0, .inl (0, [(1, 1), (0, 3)])), (1, .inr (0, 2, 1))], [], [(1, (0, 59))], [(1, 60)], [([(60, ckTop)], [], [])], [], [(1, 3, (-1)), (3, 1, 1)], [], 0, 0), ([], [], [], [], [(1, (60, 2147483647))], [], [], [], [], [], 0, 0), ([], [], [], [], [(1, (-2147483648, -1))], [], [], [], [], [], 0, 0)], 1, 80, 0, 0)
noncomputable def k130_a : ckAs := []
noncomputable def k130_c : List (Nat × ckCtr) := []
theorem k130_ok (l : Launch) : ckCtrOk l ckMT ckTW ckCL k130 := mt_114 (as := k130_a) (cs := k130_c) (gx := []) (f := 200000) rfl (fun _ h => absurd h List.not_mem_nil) True.intro (by decide +kernel)
noncomputable def dC184 : List ckC := [.inl (7, [(1, 1), (4, 10), (0, 0), (1, 2), (1, 3), (4, 11), (4, 12), (4, 13), (4, 14), (4, 15)]), .inl (2, [(1, 4), (1, 5), (1, 6), (0, 1), (0, 2), (0, 3), (0, 4), (0, 5), (0, 6), (0, 7), (0, 8), (0, 9), (0, 10), (0, 11), (0, 12), (0, 13)]), .inl (0, [(1, 7), (0, 14)]), .inl (0, [(1, 8), (0, 15)]), .inr (0, 16, 0), .inr (0, 17, 1), .inl (1, [(1, 9), (1, 10), (1, 11), (1, 12), (0, 18)]), .inr (0, 19, 2), .inr (0, 19, 3), .inr (0, 20, 4), .inr (0, 20, 5), .inr (0, 20, 6), .inr (0, 20, 7)]
noncomputable def dT185 : List ckI := [(0, 1), ckTop, ckTop, ckTop, ckTop, ckTop, ckTop, ckTop, ckTop, ckTop, ckTop, ckTop, ckTop, ckTop, ckTop, ckTop, (48, 48), (8, 8), ckTop, (60, 60), (30, 30)]
noncomputable def dG186 : List ckG := [([(48, ckTop)], [], []), ([(8, ckTop)], [], []), ([(60, ckTop)], [], []), ([(60, ckTop)], [], []), ([(30, ckTop)], [], []), ([(30, ckTop)], [], []), ([(30, ckTop)], [], []), ([(30, ckTop)], [], [])]
noncomputable def dP187 : List (Nat × ckC) := [(1, .inl (2, [(1, 4), (1, 5), (1, 6), (0, 21), (0, 22), (0, 23), (0, 24), (0, 25), (0, 26), (0, 27), (0, 8), (0, 9), (0, 10), (0, 11), (0, 28), (0, 29)])), (2, .inl (0, [(1, 7), (0, 30)])), (3, .inl (0, [(1, 8), (0, 31)])), (4, .inr (0, 16, 8)), (6, .inl (1, [(1, 9), (1, 10), (1, 11), (1, 12), (0, 32)])), (7, .inr (0, 19, 9)), (8, .inr (0, 19, 10)), (9, .inr (0, 20, 11)), (10, .inr (0, 20, 12)), (11, .inr (0, 20, 13)), (12, .inr (0, 20, 14))]
noncomputable def dT188 : List ckI := [ckTop, ckTop, ckTop, (0, 2147483647), ckTop, ckTop, ckTop, (-2147483648, 2000), (-2147483648, 2147483646), ckTop, ckTop, (0, 30)]
noncomputable def dG189 : List ckG := [([(48, ckTop)], [], []), ([(60, ckTop)], [], []), ([(60, ckTop)], [], []), ([(30, ckTop)], [], []), ([(30, ckTop)], [], []), ([(30, ckTop)], [], []), ([(30, ckTop)], [], [])]
-- FarMachine$World.passHour
noncomputable def k131 : ckCtr := (184, ([(0, (1, 0))], [], dC184, dT185, dG186, [], [], [], 0, 0), [([], [], dP187, [], [], dT188, dG189, [], [(14, 30, 0), (15, 31, 0), (30, 14, 1), (31, 15, 1)], [], 0, 0)], 6, 193, 0, 0)
noncomputable def k131_a : ckAs := []
noncomputable def k131_c : List (Nat × ckCtr) := [(20, k129), (36, k130), (44, k130)]
theorem k131_ok (l : Launch) : ckCtrOk l ckMT ckTW ckCL k131 := mt_184 (as := k131_a) (cs := k131_c) (gx := []) (f := 200000) rfl (ckHc (k129_ok l) (ckHc (k130_ok l) (ckHc (k130_ok l) (fun _ h => absurd h List.not_mem_nil)))) True.intro (by decide +kernel)
noncomputable def dC190 : List ckC := [.inl (8, [(1, 1), (4, 10), (0, 1), (4, 11), (4, 12), (4, 13), (4, 14), (1, 2)]), .inl (7, [(1, 3), (4, 15), (0, 2), (1, 4), (1, 5), (4, 16), (4, 17), (4, 18), (4, 19), (4, 20)]), .inr (0, 3, 0), .inl (2, [(1, 6), (1, 7), (1, 8), (0, 4), (0, 5), (0, 6), (0, 7), (0, 8), (0, 9), (0, 10), (0, 11), (0, 12), (0, 13), (0, 14), (0, 15), (0, 16)]), .inl (0, [(1, 9), (0, 17)]), .inl (0, [(1, 10), (0, 18)]), .inr (0, 19, 1), .inr (0, 20, 2), .inl (1, [(1, 11), (1, 12), (1, 13), (1, 14), (0, 21)]), .inr (0, 22, 3), .inr (0, 22, 4), .inr (0, 23, 5), .inr (0, 23, 6), .inr (0, 23, 7), .inr (0, 23, 8)]
noncomputable def dT191 : List ckI := [ckTop, (0, 1), (0, 1), (7, 7), ckTop, ckTop, ckTop, ckTop, ckTop, ckTop, ckTop, ckTop, ckTop, ckTop, ckTop, ckTop, ckTop, ckTop, ckTop, (48, 48), (8, 8), ckTop, (60, 60), (30, 30)]
noncomputable def dG192 : List ckG := [([(7, ckTop)], [], []), ([(48, ckTop)], [], []), ([(8, ckTop)], [], []), ([(60, ckTop)], [], []), ([(60, ckTop)], [], []), ([(30, ckTop)], [], []), ([(30, ckTop)], [], []), ([(30, ckTop)], [], []), ([(30, ckTop)], [], [])]
noncomputable def dP193 : List (Nat × ckC) := [(2, .inr (0, 3, 9)), (3, .inl (2, [(1, 6), (1, 7), (1, 8), (0, 25), (0, 26), (0, 27), (0, 28), (0, 29), (0, 30), (0, 31), (0, 11), (0, 12), (0, 13), (0, 14), (0, 32), (0, 33)])), (4, .inl (0, [(1, 9), (0, 34)])), (5, .inl (0, [(1, 10), (0, 35)])), (6, .inr (0, 19, 10)), (8, .inl (1, [(1, 11), (1, 12), (1, 13), (1, 14), (0, 36)])), (9, .inr (0, 22, 11)), (10, .inr (0, 22, 12)), (11, .inr (0, 23, 13)), (12, .inr (0, 23, 14)), (13, .inr (0, 23, 15)), (14, .inr (0, 23, 16))]
noncomputable def dG194 : List ckG := [([(4, ckTop), (5, ckTop), (6, ckTop), (7, ckTop)], [], []), ([(48, ckTop)], [], []), ([(60, ckTop)], [], []), ([(60, ckTop)], [], []), ([(30, ckTop)], [], []), ([(30, ckTop)], [], []), ([(30, ckTop)], [], []), ([(30, ckTop)], [], [])]
noncomputable def dP195 : List (Nat × ckC) := [(3, .inl (2, [(1, 6), (1, 7), (1, 8), (0, 28), (0, 29), (0, 30), (0, 31), (0, 32), (0, 33), (0, 34), (0, 11), (0, 12), (0, 13), (0, 14), (0, 35), (0, 36)])), (4, .inl (0, [(1, 9), (0, 37)])), (5, .inl (0, [(1, 10), (0, 38)])), (6, .inr (0, 19, 9)), (8, .inl (1, [(1, 11), (1, 12), (1, 13), (1, 14), (0, 39)])), (9, .inr (0, 22, 10)), (10, .inr (0, 22, 11)), (11, .inr (0, 23, 12)), (12, .inr (0, 23, 13)), (13, .inr (0, 23, 14)), (14, .inr (0, 23, 15))]
noncomputable def dT196 : List ckI := [(0, 2000), ckTop, ckTop, ckTop, ckTop, ckTop, ckTop, ckTop, ckTop, ckTop, ckTop, ckTop, ckTop]
-- FarMachine.hours
noncomputable def k132 : ckCtr := (7, ([(0, (1, 0)), (1, (0, 0))], [], dC190, dT191, dG192, [], [], [], 0, 0), [([], [(0, 24)], dP193, [], [], dT3, dG194, [], [(17, 34, 0), (18, 35, 0)], [], 0, 0)], 7, 215, 0, 0)
noncomputable def k132_a : ckAs := [(28, [(74611, [(1, 0, 0, ([(0, (1, 0)), (1, (0, 0)), (2, (0, 27))], [], dP195, [], [], dT196, dG189, [], [(17, 37, 0), (18, 38, 0), (27, 0, 0)], [], 0, 0))])])]
noncomputable def k132_c : List (Nat × ckCtr) := [(8, k15), (22, k16), (37, k131)]
theorem k132_ok (l : Launch) : ckCtrOk l ckMT ckTW ckCL k132 := mt_7 (as := k132_a) (cs := k132_c) (gx := []) (f := 200000) rfl (ckHc (k15_ok l) (ckHc (k16_ok l) (ckHc (k131_ok l) (fun _ h => absurd h List.not_mem_nil)))) True.intro (by decide +kernel)
noncomputable def dG197 : List ckG := [([(48, ckTop), (49, (0, 47)), (55, ckTop), (56, ckTop), (58, ckTop), (59, ckTop), (76, ckTop), (77, (0, 30)), (197, ckTop), (198, (0, 60)), (318, ckTop)], [(55, 4), (58, 5)], [])]
noncomputable def dG198 : List ckG := [([(48, ckTop), (49, (0, 47)), (53, ckTop), (54, (0, 0)), (55, ckTop), (56, ckTop), (58, ckTop), (59, ckTop), (76, ckTop), (77, (0, 30)), (197, ckTop), (198, (0, 60)), (318, ckTop)], [(48, 2), (53, 6), (55, 4), (58, 5)], [])]
-- FarMachineModel.told
noncomputable def k133 : ckCtr := (58, ([(0, (1, 0)), (1, (0, 0)), (2, (0, 1)), (3, (0, 2))], [], [.inr (0, 3, 0)], [ckTop, ckTop, ckTop, (318, 318), (1, 99), (0, 128000)], dG197, [], [], [(0, 0, 2, 0, [1, 0, 47]), (0, 0, 1, 0, [0, 0, 47]), (1, 0, 0, 0, [])], 0, 0), [([], [], [(0, .inr (0, 3, 1))], [], [(0, (0, 0)), (1, (0, 47))], [], dG197, [], [], [(1, 1, 0, 0, []), (0, 0, 2, 0, [1, 0, 47]), (0, 0, 1, 0, [0, 0, 47]), (1, 0, 0, 0, [])], 0, 0), ([], [], [], [], [], [], [], [], [], [(0, 0, 2, 0, [1, 0, 47]), (0, 0, 1, 0, [0, 0, 47]), (1, 0, 0, 0, [])], 0, 0), ([], [], [(0, .inr (0, 3, 1))], [], [(0, (1, 1)), (2, (0, 47))], [(0, 0)], dG198, [], [], [(1, 1, 0, 0, []), (0, 0, 2, 0, [1, 0, 47]), (0, 0, 1, 0, [0, 0, 47]), (1, 0, 0, 0, [])], 0, 0)], 1, 80, 0, 0)
noncomputable def k133_a : ckAs := [(4, [(354189, [(5, 0, 0, ([], [], [], [], [], [], [], [], [], [(0, 0, 0, 0, [0, 1, 0, 0, 47])], 0, 0))])]), (14, [(868776, [(5, 0, 0, ([], [], [], [], [], [], [], [], [], [(0, 0, 0, 0, [0, 2, 1, 0, 47])], 0, 0))])])]
noncomputable def k133_c : List (Nat × ckCtr) := []
theorem k133_ok (l : Launch) : ckCtrOk l ckMT ckTW ckCL k133 := mt_58 (as := k133_a) (cs := k133_c) (gx := []) (f := 200000) rfl (fun _ h => absurd h List.not_mem_nil) True.intro (by decide +kernel)
noncomputable def dG199 : List ckG := [([(48, ckTop), (49, (0, 47)), (53, ckTop), (54, ckTop), (55, ckTop), (56, ckTop), (58, ckTop), (59, ckTop), (76, ckTop), (77, (0, 30)), (78, ckTop), (79, ckTop), (80, ckTop), (81, ckTop), (197, ckTop), (198, (0, 60)), (318, ckTop)], [(55, 1), (58, 2), (76, 4)], [])]
noncomputable def dG200 : List ckG := [([(48, ckTop), (49, (0, 47)), (53, ckTop), (54, ckTop), (55, ckTop), (56, ckTop), (58, ckTop), (59, ckTop), (76, ckTop), (77, (0, 30)), (78, ckTop), (79, ckTop), (80, ckTop), (81, ckTop), (197, ckTop), (198, (0, 60)), (318, ckTop)], [(55, 1), (58, 2)], [])]
-- FarMachineModel.comes
noncomputable def k134 : ckCtr := (59, ([(0, (1, 0))], [], [.inr (0, 0, 0)], [(318, 318), (1, 99), (0, 128000)], dG140, [], [], [(1, 0, 0, 0, [])], 0, 0), [([], [(0, 3)], [(0, .inr (0, 0, 1))], [], [], [(0, 1), (0, 30)], dG199, [], [], [(1, 1, 0, 0, []), (1, 0, 0, 0, [])], 0, 0)], 2, 103, 0, 0)
noncomputable def k134_a : ckAs := [(6, [(971417, [(1, 0, 2, ([(0, (1, 0)), (1, (0, 6)), (2, (0, 7)), (3, (0, 8))], [], [(0, .inr (0, 0, 1))], [], [], [(0, 30), (0, 1), (0, 30)], dG200, [], [(6, 8, 0), (7, 8, 0)], [(1, 0, 0, 0, []), (1, 1, 0, 0, [])], 0, 0))])]), (52, [(533358, [(4, 3, 0, ([], [], [], [], [], [], [], [], [], [(0, 0, 0, 0, [8, 13, 12, 14, 11, 14, 0, 21, 20, 1, 19, 22])], 0, 0)), (4, 4, 0, ([], [], [], [], [], [], [], [], [], [(0, 0, 0, 0, [8, 13, 12, 14, 11, 14, 0, 24, 23, 1, 19, 25])], 0, 0))])]), (93, [(91432, [(4, 1, 0, ([], [], [], [], [], [], [], [], [], [(0, 0, 0, 0, [6, 23, 22, 24, 21, 25, 19, 27, 32, 31, 33, 30, 34, 28, 36, 41, 40, 42, 39, 43, 37, 45, 1, 2, 3, 4, 0, 8, 13, 12, 14, 11, 26, 19, 35, 28, 44, 37])], 0, 0)), (4, 2, 0, ([], [], [], [], [], [], [], [], [], [(0, 0, 0, 0, [6, 50, 49, 51, 48, 52, 46, 4, 5, 54])], 0, 0))])])]
noncomputable def k134_c : List (Nat × ckCtr) := [(52, k133)]
theorem k134_ok (l : Launch) : ckCtrOk l ckMT ckTW ckCL k134 := mt_59 (as := k134_a) (cs := k134_c) (gx := []) (f := 200000) rfl (ckHc (k133_ok l) (fun _ h => absurd h List.not_mem_nil)) True.intro (by decide +kernel)
-- FarMachineModel.held
noncomputable def k135 : ckCtr := (47, ([(0, (0, 0)), (1, (0, 1)), (2, (0, 2))], [], [], [ckTop, (-128, -128), (127, 127)], [], [], [], [], 0, 0), [([], [(0, 3)], [], [], [], [(-128, 127)], [], [], [], [], 0, 0)], 1, 80, 0, 0)
noncomputable def k135_a : ckAs := []
noncomputable def k135_c : List (Nat × ckCtr) := []
theorem k135_ok (l : Launch) : ckCtrOk l ckMT ckTW ckCL k135 := mt_47 (as := k135_a) (cs := k135_c) (gx := []) (f := 200000) rfl (fun _ h => absurd h List.not_mem_nil) True.intro (by decide +kernel)
-- FarMachineModel.has
noncomputable def k136 : ckCtr := (53, ([(0, (1, 0)), (1, (0, 0))], [], [.inr (0, 1, 0)], [(5, 5), (318, 318), (1, 99), (0, 128000)], dG149, [], [], [(1, 0, 0, 0, [])], 0, 0), [([], [(0, 4)], [], [], [], [(1, 1)], [], [], [], [(1, 0, 0, 0, [])], 0, 0), ([], [(0, 4)], [], [], [], [(0, 0)], [], [], [], [(1, 0, 0, 0, [])], 0, 0)], 1, 80, 0, 0)
noncomputable def k136_a : ckAs := [(2, [(143261, [(1, 0, 0, ([(0, (1, 0)), (1, (0, 0)), (2, (0, 5))], [], [], [], [], [(0, 8)], [], [], [], [(1, 0, 0, 0, [])], 0, 0))])])]
noncomputable def k136_c : List (Nat × ckCtr) := []
theorem k136_ok (l : Launch) : ckCtrOk l ckMT ckTW ckCL k136 := mt_53 (as := k136_a) (cs := k136_c) (gx := []) (f := 200000) rfl (fun _ h => absurd h List.not_mem_nil) True.intro (by decide +kernel)
-- FarMachineModel.held
noncomputable def k137 : ckCtr := (47, ([(0, (0, 0)), (1, (0, 1)), (2, (0, 2))], [], [], [ckTop, (-20, -20), (20, 20)], [], [], [], [], 0, 0), [([], [(0, 3)], [], [], [], [(-20, 20)], [], [], [], [], 0, 0)], 1, 80, 0, 0)
noncomputable def k137_a : ckAs := []
noncomputable def k137_c : List (Nat × ckCtr) := []
theorem k137_ok (l : Launch) : ckCtrOk l ckMT ckTW ckCL k137 := mt_47 (as := k137_a) (cs := k137_c) (gx := []) (f := 200000) rfl (fun _ h => absurd h List.not_mem_nil) True.intro (by decide +kernel)
-- FarMachineModel.feels
noncomputable def k138 : ckCtr := (55, ([(0, (1, 0)), (1, (0, 0))], [], [.inr (0, 1, 0)], [(0, 15), (318, 318), (1, 99), (0, 128000)], dG149, [], [], [(1, 0, 0, 0, [])], 0, 0), [([], [(0, 4)], [], [], [], [ckTop], [], [], [], [(1, 0, 0, 0, [])], 0, 0)], 3, 122, 0, 0)
noncomputable def k138_a : ckAs := []
noncomputable def k138_c : List (Nat × ckCtr) := [(49, k105), (72, k96), (75, k106), (90, k95)]
theorem k138_ok (l : Launch) : ckCtrOk l ckMT ckTW ckCL k138 := mt_55 (as := k138_a) (cs := k138_c) (gx := []) (f := 200000) rfl (ckHc (k105_ok l) (ckHc (k96_ok l) (ckHc (k106_ok l) (ckHc (k95_ok l) (fun _ h => absurd h List.not_mem_nil))))) True.intro (by decide +kernel)
-- FarMachineModel.feels
noncomputable def k139 : ckCtr := (55, ([(0, (1, 0)), (1, (0, 0))], [], [.inr (0, 1, 0)], [(16, 31), (318, 318), (1, 99), (0, 128000)], dG149, [], [], [(1, 0, 0, 0, [])], 0, 0), [([], [(0, 4)], [], [], [], [ckTop], [], [], [], [(1, 0, 0, 0, [])], 0, 0)], 1, 80, 0, 0)
noncomputable def k139_a : ckAs := []
noncomputable def k139_c : List (Nat × ckCtr) := []
theorem k139_ok (l : Launch) : ckCtrOk l ckMT ckTW ckCL k139 := mt_55 (as := k139_a) (cs := k139_c) (gx := []) (f := 200000) rfl (fun _ h => absurd h List.not_mem_nil) True.intro (by decide +kernel)
-- FarMachineModel.has
noncomputable def k140 : ckCtr := (53, ([(0, (1, 0)), (1, (0, 0))], [], [.inr (0, 1, 0)], [(1, 1), (318, 318), (1, 99), (0, 128000)], dG149, [], [], [(1, 0, 0, 0, [])], 0, 0), [([], [(0, 0)], [], [], [], [], [], [], [], [(1, 0, 0, 0, [])], 0, 0), ([], [(0, 4)], [], [], [], [(0, 0)], [], [], [], [(1, 0, 0, 0, [])], 0, 0)], 1, 80, 0, 0)
noncomputable def k140_a : ckAs := [(2, [(590679, [(1, 0, 0, ([(0, (1, 0)), (1, (0, 0)), (2, (0, 5))], [], [], [], [], [(0, 8)], [], [], [], [(1, 0, 0, 0, [])], 0, 0))])])]
noncomputable def k140_c : List (Nat × ckCtr) := []
theorem k140_ok (l : Launch) : ckCtrOk l ckMT ckTW ckCL k140 := mt_53 (as := k140_a) (cs := k140_c) (gx := []) (f := 200000) rfl (fun _ h => absurd h List.not_mem_nil) True.intro (by decide +kernel)
noncomputable def dC201 : List ckC := [.inl (9, [(4, 10), (1, 1), (4, 11), (4, 12), (4, 13), (4, 14), (4, 15), (4, 16), (4, 17), (4, 18), (4, 19), (4, 20), (4, 21), (4, 22), (4, 23), (4, 24), (0, 1), (0, 2), (0, 3), (0, 4), (0, 5), (0, 6), (0, 7), (1, 2), (0, 8), (4, 25), (0, 9), (0, 10), (0, 11), (0, 12), (4, 26), (0, 13), (0, 14), (0, 15), (0, 16), (5, 0), (5, 0), (0, 17), (4, 27), (4, 28), (0, 18), (0, 19)]), .inr (0, 20, 0), .inr (0, 21, 1)]
noncomputable def dT202 : List ckI := [ckTop, (0, 1), (0, 1), ckTop, ckTop, ckTop, ckTop, ckTop, (0, 130000), ckTop, ckTop, ckTop, ckTop, ckTop, ckTop, ckTop, ckTop, (0, 1), ckTop, (0, 1), (318, 318), (64, 64), (1, 99), (0, 128000)]
noncomputable def dG203 : List ckG := [([(48, ckTop), (49, (0, 47)), (55, ckTop), (56, ckTop), (58, ckTop), (59, ckTop), (76, ckTop), (77, (0, 30)), (197, ckTop), (198, (0, 60)), (318, ckTop)], [(55, 22), (58, 23)], []), ([(64, ckTop)], [], [])]
noncomputable def dP204 : List (Nat × ckC) := [(0, .inl (9, [(4, 10), (1, 1), (4, 11), (4, 12), (4, 13), (4, 14), (4, 15), (4, 16), (4, 17), (4, 18), (4, 19), (4, 20), (4, 21), (4, 22), (4, 23), (4, 24), (0, 1), (0, 2), (0, 3), (0, 4), (0, 5), (0, 6), (0, 7), (1, 2), (0, 24), (4, 25), (0, 9), (0, 10), (0, 11), (0, 12), (4, 26), (0, 13), (0, 14), (0, 15), (0, 16), (5, 0), (5, 0), (0, 17), (4, 27), (4, 28), (0, 18), (0, 19)])), (1, .inr (0, 20, 2)), (2, .inr (0, 21, 3))]
noncomputable def dG205 : List ckG := [([(48, ckTop), (49, (0, 47)), (55, ckTop), (56, ckTop), (58, ckTop), (59, ckTop), (76, ckTop), (77, (0, 30)), (197, ckTop), (198, (0, 60)), (318, ckTop)], [(55, 22), (58, 23), (197, 25)], []), ([(64, ckTop)], [], [])]
-- FarMachineModel.sends
noncomputable def k141 : ckCtr := (56, ([(0, (1, 0)), (1, (1, 1)), (2, (0, 0))], [], dC201, dT202, dG203, [], [], [(1, 0, 0, 0, [])], 0, 0), [([], [], dP204, [], [], [(1, 130001), (1, 60)], dG205, [], [(8, 24, (-1)), (24, 8, 1)], [(1, 0, 0, 0, []), (1, 2, 0, 0, [])], 0, 0)], 1, 80, 0, 0)
noncomputable def k141_a : ckAs := []
noncomputable def k141_c : List (Nat × ckCtr) := []
theorem k141_ok (l : Launch) : ckCtrOk l ckMT ckTW ckCL k141 := mt_56 (as := k141_a) (cs := k141_c) (gx := []) (f := 200000) rfl (fun _ h => absurd h List.not_mem_nil) True.intro (by decide +kernel)
noncomputable def dC206 : List ckC := [.inl (9, [(4, 10), (1, 1), (4, 11), (4, 12), (4, 13), (4, 14), (4, 15), (4, 16), (4, 17), (4, 18), (4, 19), (4, 20), (4, 21), (4, 22), (4, 23), (4, 24), (0, 0), (0, 1), (0, 2), (0, 3), (0, 4), (0, 5), (0, 6), (1, 2), (0, 7), (4, 25), (0, 8), (0, 9), (0, 10), (0, 11), (4, 26), (0, 12), (0, 13), (0, 14), (0, 15), (5, 0), (5, 0), (0, 16), (4, 27), (4, 28), (0, 17), (0, 18)]), .inr (0, 19, 0), .inr (0, 20, 1)]
noncomputable def dT207 : List ckI := [(0, 1), (0, 1), ckTop, ckTop, ckTop, ckTop, ckTop, (0, 130000), ckTop, ckTop, ckTop, ckTop, ckTop, ckTop, ckTop, ckTop, (0, 1), ckTop, (0, 1), (318, 318), (64, 64), (1, 99), (0, 128000)]
noncomputable def dG208 : List ckG := [([(48, ckTop), (49, (0, 47)), (55, ckTop), (56, ckTop), (58, ckTop), (59, ckTop), (76, ckTop), (77, (0, 30)), (197, ckTop), (198, (0, 60)), (318, ckTop)], [(55, 21), (58, 22)], []), ([(64, ckTop)], [], [])]
noncomputable def dP209 : List (Nat × ckC) := [(0, .inl (9, [(4, 10), (1, 1), (4, 11), (4, 12), (4, 13), (4, 14), (4, 15), (4, 16), (4, 17), (4, 18), (4, 19), (4, 20), (4, 21), (4, 22), (4, 23), (4, 24), (0, 0), (0, 1), (0, 2), (0, 3), (0, 4), (0, 5), (0, 6), (1, 2), (0, 24), (4, 25), (0, 8), (0, 9), (0, 10), (0, 11), (4, 26), (0, 12), (0, 13), (0, 14), (0, 15), (5, 0), (5, 0), (0, 16), (4, 27), (4, 28), (0, 17), (0, 18)])), (1, .inr (0, 19, 2)), (2, .inr (0, 20, 3))]
noncomputable def dG210 : List ckG := [([(48, ckTop), (49, (0, 47)), (50, ckTop), (51, ckTop), (52, ckTop), (53, ckTop), (54, ckTop), (55, ckTop), (56, ckTop), (58, ckTop), (59, ckTop), (76, ckTop), (77, (0, 30)), (197, ckTop), (198, (0, 60)), (318, ckTop)], [(55, 21), (58, 22)], []), ([(64, ckTop)], [], [])]
-- FarMachineModel.does
noncomputable def k142 : ckCtr := (57, ([(0, (1, 0)), (1, (1, 1))], [], dC206, dT207, dG208, [], [], [(1, 0, 0, 0, [])], 0, 0), [([], [(0, 23)], dP209, [], [], [(0, 1), (0, 130001)], dG210, [], [(7, 24, 0), (24, 7, 1), (24, 23, 130000)], [(1, 0, 0, 0, []), (1, 2, 0, 0, [])], 0, 0)], 4, 143, 0, 0)
noncomputable def k142_a : ckAs := []
noncomputable def k142_c : List (Nat × ckCtr) := [(118, k135), (151, k136), (183, k137), (218, k138), (218, k139), (226, k140), (253, k138), (253, k139), (256, k141)]
theorem k142_ok (l : Launch) : ckCtrOk l ckMT ckTW ckCL k142 := mt_57 (as := k142_a) (cs := k142_c) (gx := []) (f := 200000) rfl (ckHc (k135_ok l) (ckHc (k136_ok l) (ckHc (k137_ok l) (ckHc (k138_ok l) (ckHc (k139_ok l) (ckHc (k140_ok l) (ckHc (k138_ok l) (ckHc (k139_ok l) (ckHc (k141_ok l) (fun _ h => absurd h List.not_mem_nil)))))))))) True.intro (by decide +kernel)
-- FarMachineModel.warms
noncomputable def k143 : ckCtr := (51, ([(0, (1, 0))], [], [.inr (0, 0, 0)], [(318, 318), (1, 99), (0, 128000)], dG140, [], [], [(1, 0, 0, 0, [])], 0, 0), [([], [(0, 3)], [], [], [], [ckTop], [], [], [], [(1, 0, 0, 0, [])], 0, 0)], 1, 80, 0, 0)
noncomputable def k143_a : ckAs := [(4, [(940447, [(1, 0, 1, ([(0, (1, 0)), (1, (0, 5)), (2, (0, 6))], [], [], [], [], [ckTop, (0, 8)], [], [], [], [(1, 0, 0, 0, [])], 0, 0))])])]
noncomputable def k143_c : List (Nat × ckCtr) := []
theorem k143_ok (l : Launch) : ckCtrOk l ckMT ckTW ckCL k143 := mt_51 (as := k143_a) (cs := k143_c) (gx := []) (f := 200000) rfl (fun _ h => absurd h List.not_mem_nil) True.intro (by decide +kernel)
-- FarMachineModel.held
noncomputable def k144 : ckCtr := (47, ([(0, (0, 0)), (1, (0, 1)), (2, (0, 2))], [], [], [ckTop, (0, 0), (99, 99)], [], [], [], [], 0, 0), [([], [(0, 3)], [], [], [], [(0, 99)], [], [], [], [], 0, 0)], 1, 80, 0, 0)
noncomputable def k144_a : ckAs := []
noncomputable def k144_c : List (Nat × ckCtr) := []
theorem k144_ok (l : Launch) : ckCtrOk l ckMT ckTW ckCL k144 := mt_47 (as := k144_a) (cs := k144_c) (gx := []) (f := 200000) rfl (fun _ h => absurd h List.not_mem_nil) True.intro (by decide +kernel)
noncomputable def dP211 : List (Nat × ckC) := [(0, .inl (9, [(4, 10), (1, 1), (4, 11), (4, 12), (4, 13), (4, 14), (4, 15), (4, 16), (4, 17), (4, 18), (4, 19), (4, 20), (4, 21), (4, 22), (4, 23), (4, 24), (0, 0), (0, 1), (0, 2), (0, 3), (0, 4), (0, 5), (0, 6), (1, 2), (0, 23), (4, 25), (0, 8), (0, 9), (0, 10), (0, 11), (4, 26), (0, 12), (0, 13), (0, 14), (0, 15), (5, 0), (5, 0), (0, 16), (4, 27), (4, 28), (0, 17), (0, 18)])), (1, .inr (0, 19, 2)), (2, .inr (0, 20, 3))]
noncomputable def dT212 : List ckI := [(0, 130001), (1, 128001), (-2147483648, 2147483646), (0, 99)]
noncomputable def dG213 : List ckG := [([(48, ckTop), (49, (0, 47)), (50, ckTop), (51, (0, 99)), (52, ckTop), (53, ckTop), (54, ckTop), (55, ckTop), (56, ckTop), (58, ckTop), (59, (1, 128001)), (60, ckTop), (68, ckTop), (69, ckTop), (76, ckTop), (77, (0, 30)), (78, ckTop), (79, ckTop), (80, ckTop), (81, ckTop), (197, ckTop), (198, (0, 60)), (318, ckTop)], [(50, 26), (55, 21), (58, 24), (59, 25)], []), ([(64, ckTop)], [], [])]
noncomputable def dG214 : List ckG := [([(48, ckTop), (49, (0, 47)), (50, ckTop), (51, (0, 99)), (53, ckTop), (54, (0, 2147483646)), (55, ckTop), (56, ckTop), (58, ckTop), (59, ckTop), (68, ckTop), (69, ckTop), (76, ckTop), (77, (0, 30)), (78, ckTop), (79, ckTop), (80, ckTop), (81, ckTop), (197, ckTop), (198, (0, 60)), (318, ckTop)], [(50, 39), (53, 29), (55, 21), (58, 22), (76, 24)], [])]
noncomputable def dG215 : List ckG := [([(48, ckTop), (49, (0, 47)), (50, ckTop), (51, (0, 99)), (52, ckTop), (53, ckTop), (54, ckTop), (55, ckTop), (56, ckTop), (58, ckTop), (59, ckTop), (68, ckTop), (69, ckTop), (76, ckTop), (77, (0, 30)), (197, ckTop), (198, (0, 60)), (318, ckTop)], [(48, 35), (50, 45), (55, 21), (58, 22)], [])]
noncomputable def dG216 : List ckG := [([(48, ckTop), (49, (0, 47)), (50, ckTop), (51, (0, 99)), (52, ckTop), (53, ckTop), (54, ckTop), (55, ckTop), (56, ckTop), (58, ckTop), (59, ckTop), (68, ckTop), (69, ckTop), (76, ckTop), (77, (0, 30)), (197, ckTop), (198, (0, 60)), (318, ckTop)], [(50, 38), (55, 21), (58, 22)], [])]
-- FarMachineModel.hour
noncomputable def k145 : ckCtr := (60, ([(0, (1, 0)), (1, (1, 1))], [], dC206, dT207, dG208, [], [], [(1, 0, 0, 0, [])], 0, 0), [([], [], dP211, [], [], dT212, dG213, [], [(7, 23, 0), (22, 24, (-1)), (23, 7, 1), (24, 22, 1)], [(1, 2, 0, 0, []), (1, 0, 0, 0, [])], 0, 0)], 5, 166, 0, 0)
noncomputable def k145_a : ckAs := [(67, [(741251, [(1, 0, 0, ([(0, (1, 0)), (1, (1, 1)), (2, (0, 23)), (3, (0, 41))], [], [(1, .inr (0, 19, 5))], [], [], [(0, 8)], dG214, [], [], [(1, 4, 0, 0, []), (1, 5, 0, 0, []), (1, 3, 0, 0, []), (1, 2, 0, 0, []), (1, 0, 0, 0, [])], 0, 0))]), (168690, [(1, 0, 0, ([(0, (1, 0)), (1, (1, 1)), (2, (0, 23)), (3, (0, 47))], [], [(1, .inr (0, 19, 7))], [], [], [(0, 8)], dG215, [], [(7, 28, 0), (28, 7, 1)], [(1, 6, 0, 0, []), (1, 7, 0, 0, []), (1, 5, 0, 0, []), (1, 2, 0, 0, []), (1, 3, 0, 0, []), (1, 0, 0, 0, [])], 0, 0))]), (83341, [(1, 0, 0, ([(0, (1, 0)), (1, (1, 1)), (2, (0, 23)), (3, (0, 40))], [], [(1, .inr (0, 19, 6))], [], [(28, (0, 130000))], [(0, 8)], dG216, [], [(7, 28, 0), (28, 7, 1)], [(1, 5, 0, 0, []), (1, 6, 0, 0, []), (1, 3, 0, 0, []), (1, 2, 0, 0, []), (1, 0, 0, 0, [])], 0, 0))])])]
noncomputable def k145_c : List (Nat × ckCtr) := [(1, k134), (25, k142), (52, k143), (61, k144)]
theorem k145_ok (l : Launch) : ckCtrOk l ckMT ckTW ckCL k145 := mt_60 (as := k145_a) (cs := k145_c) (gx := []) (f := 200000) rfl (ckHc (k134_ok l) (ckHc (k142_ok l) (ckHc (k143_ok l) (ckHc (k144_ok l) (fun _ h => absurd h List.not_mem_nil))))) True.intro (by decide +kernel)
noncomputable def dC217 : List ckC := [.inl (9, [(1, 1), (1, 2), (4, 10), (4, 11), (4, 12), (4, 13), (4, 14), (4, 15), (4, 16), (4, 17), (4, 18), (4, 19), (4, 20), (4, 21), (4, 22), (4, 23), (0, 1), (0, 2), (0, 3), (0, 4), (0, 5), (0, 6), (0, 7), (1, 3), (0, 8), (4, 24), (0, 9), (0, 10), (0, 11), (0, 12), (4, 25), (0, 13), (0, 14), (0, 15), (0, 16), (5, 0), (5, 0), (0, 17), (4, 26), (4, 27), (0, 18), (0, 19)]), .inr (0, 20, 0), .inr (0, 21, 1), .inr (0, 22, 2)]
noncomputable def dT218 : List ckI := [ckTop, (0, 1), (0, 1), (0, 8), (0, 40), (0, 6), (0, 8), (0, 10), (0, 126000), ckTop, ckTop, ckTop, ckTop, (0, 30), ckTop, ckTop, ckTop, (0, 1), ckTop, (0, 1), (7, 7), (318, 318), (64, 64), (1, 99), (0, 126000)]
noncomputable def dG219 : List ckG := [([(7, ckTop)], [], []), ([(48, ckTop), (49, (0, 47)), (50, ckTop), (51, ckTop), (52, ckTop), (54, ckTop), (55, ckTop), (56, ckTop), (57, ckTop), (58, ckTop), (59, ckTop), (76, ckTop), (77, (0, 30)), (197, ckTop), (198, (0, 60)), (318, ckTop)], [(55, 23), (58, 24)], []), ([(64, ckTop)], [], [])]
noncomputable def dP220 : List (Nat × ckC) := [(0, .inl (9, [(1, 1), (1, 2), (4, 10), (4, 11), (4, 12), (4, 13), (4, 14), (4, 15), (4, 16), (4, 17), (4, 18), (4, 19), (4, 20), (4, 21), (4, 22), (4, 23), (0, 1), (0, 2), (0, 3), (0, 4), (0, 5), (0, 6), (0, 7), (1, 3), (0, 26), (4, 24), (0, 9), (0, 10), (0, 11), (0, 12), (4, 25), (0, 13), (0, 14), (0, 15), (0, 16), (5, 0), (5, 0), (0, 17), (4, 26), (4, 27), (0, 18), (0, 19)])), (1, .inr (0, 20, 3)), (2, .inr (0, 21, 4)), (3, .inr (0, 22, 5))]
noncomputable def dG221 : List ckG := [([(4, ckTop), (5, ckTop), (6, ckTop), (7, ckTop)], [], []), ([(48, ckTop), (49, (0, 47)), (50, ckTop), (51, ckTop), (52, ckTop), (53, ckTop), (54, ckTop), (55, ckTop), (56, ckTop), (57, ckTop), (58, ckTop), (59, ckTop), (60, ckTop), (68, ckTop), (69, ckTop), (76, ckTop), (77, (0, 30)), (78, ckTop), (79, ckTop), (80, ckTop), (81, ckTop), (197, ckTop), (198, (0, 60)), (318, ckTop)], [(55, 23), (58, 27)], []), ([(64, ckTop)], [], [])]
noncomputable def dZ222 : List ckZ := [(8, 26, 0), (24, 27, 0), (25, 24, 2000), (25, 27, 0), (26, 8, 2000), (26, 25, 126006), (26, 27, 126000), (27, 24, 2000), (27, 25, 126006)]
noncomputable def dP223 : List (Nat × ckC) := [(0, .inl (9, [(1, 1), (1, 2), (4, 10), (4, 11), (4, 12), (4, 13), (4, 14), (4, 15), (4, 16), (4, 17), (4, 18), (4, 19), (4, 20), (4, 21), (4, 22), (4, 23), (0, 1), (0, 2), (0, 3), (0, 4), (0, 5), (0, 6), (0, 7), (1, 3), (0, 31), (4, 24), (0, 9), (0, 10), (0, 11), (0, 12), (4, 25), (0, 13), (0, 14), (0, 15), (0, 16), (5, 0), (5, 0), (0, 17), (4, 26), (4, 27), (0, 18), (0, 19)])), (2, .inr (0, 21, 3)), (3, .inr (0, 22, 4))]
noncomputable def dG224 : List ckG := [([(48, ckTop), (49, (0, 47)), (50, ckTop), (51, ckTop), (52, ckTop), (53, ckTop), (54, ckTop), (55, ckTop), (56, ckTop), (57, ckTop), (58, ckTop), (59, ckTop), (60, ckTop), (68, ckTop), (69, ckTop), (76, ckTop), (77, (0, 30)), (78, ckTop), (79, ckTop), (80, ckTop), (81, ckTop), (197, ckTop), (198, (0, 60)), (318, ckTop)], [(55, 23), (58, 32)], []), ([(64, ckTop)], [], [])]
noncomputable def dZ225 : List ckZ := [(8, 31, 0), (24, 32, 0), (30, 0, 0), (30, 32, 0), (31, 0, 126000), (31, 30, 126000), (31, 32, 126000), (32, 0, 126000), (32, 30, 126000)]
-- FarMachineModel.hours
noncomputable def k146 : ckCtr := (67, ([(0, (1, 0)), (1, (0, 0))], [], dC217, dT218, dG219, [], [], [(1, 1, 0, 0, [])], 0, 0), [([], [(0, 25)], dP220, [], [], [(-6, 128000), (0, 128000), (0, 128000)], dG221, [], dZ222, [(1, 1, 0, 0, []), (1, 4, 0, 0, [])], 0, 0)], 6, 189, 0, 0)
noncomputable def k146_a : ckAs := [(35, [(724571, [(4, 10, 0, ([], [], [], [], [], [], [], [], [], [(0, 0, 0, 0, [8, 8, 29])], 0, 0)), (4, 10, 0, ([], [], [], [], [], [], [], [], [], [(0, 0, 0, 0, [24, 24, 29])], 0, 0))])]), (36, [(724571, [(1, 0, 0, ([(0, (1, 0)), (1, (0, 0)), (2, (0, 30))], [], dP223, [], [], [(0, 2000), (0, 128000), (0, 128000)], dG224, [], dZ225, [(7, 24, 24, 29, []), (7, 32, 24, 30, []), (7, 8, 8, 29, []), (7, 31, 8, 30, []), (1, 1, 0, 0, []), (1, 3, 0, 0, [])], 0, 0))])]), (41, [(60519, [(5, 1, 0, ([], [], [], [], [], [], [], [], [], [(0, 0, 0, 0, [31, 8, 30])], 0, 0))]), (60488, [(3, 0, 0, ([], [], [], [], [], [], [], [], [], [], 0, 0)), (5, 1, 0, ([], [], [], [], [], [], [], [], [], [(0, 0, 0, 0, [32, 24, 30])], 0, 0))])]), (52, [(463075, [(4, 11, 0, ([], [], [], [], [], [], [], [], [], [(0, 0, 0, 0, [31, 8, 30, 33, 37, 1])], 0, 0)), (4, 11, 0, ([], [], [], [], [], [], [], [], [], [(0, 0, 0, 0, [32, 24, 30, 34, 37, 1])], 0, 0))])]), (55, [(68207, [(5, 1, 0, ([], [], [], [], [], [], [], [], [], [(0, 0, 0, 0, [31, 8, 30])], 0, 0)), (5, 1, 0, ([], [], [], [], [], [], [], [], [], [(0, 0, 0, 0, [32, 24, 30])], 0, 0))]), (68214, [(3, 0, 0, ([], [], [], [], [], [], [], [], [], [], 0, 0)), (3, 0, 0, ([], [], [], [], [], [], [], [], [], [], 0, 0)), (7, 0, 0, ([], [], [], [], [], [], [], [], [], [(0, 0, 0, 0, [31, 8, 30, 2000])], 0, 0))]), (789577, [(3, 0, 0, ([], [], [], [], [], [], [], [], [], [], 0, 0)), (3, 0, 0, ([], [], [], [], [], [], [], [], [], [], 0, 0)), (3, 0, 0, ([], [], [], [], [], [], [], [], [], [], 0, 0)), (7, 0, 0, ([], [], [], [], [], [], [], [], [], [(0, 0, 0, 0, [32, 24, 30, 2000])], 0, 0))])])]
noncomputable def k146_c : List (Nat × ckCtr) := [(8, k24), (30, k23), (46, k145)]
theorem k146_ok (l : Launch) : ckCtrOk l ckMT ckTW ckCL k146 := mt_67 (as := k146_a) (cs := k146_c) (gx := []) (f := 200000) rfl (ckHc (k24_ok l) (ckHc (k23_ok l) (ckHc (k145_ok l) (fun _ h => absurd h List.not_mem_nil)))) True.intro (by decide +kernel)
noncomputable def dC226 : List ckC := [.inl (1, [(1, 1), (4, 10), (4, 11), (4, 12), (0, 0)]), .inr (0, 1, 0)]
-- FarMachine$Commands.isFull
noncomputable def k147 : ckCtr := (118, ([(0, (1, 0))], [], dC226, [ckTop, (30, 30)], [([(30, ckTop)], [], [])], [], [], [], 0, 0), [([], [(0, 2)], [], [], [(0, (30, 2147483647))], [(1, 1)], [], [], [], [], 0, 0), ([], [(0, 2)], [], [], [(0, (-2147483648, 29))], [(0, 0)], [], [], [], [], 0, 0)], 1, 80, 0, 0)
noncomputable def k147_a : ckAs := []
noncomputable def k147_c : List (Nat × ckCtr) := []
theorem k147_ok (l : Launch) : ckCtrOk l ckMT ckTW ckCL k147 := mt_118 (as := k147_a) (cs := k147_c) (gx := []) (f := 200000) rfl (fun _ h => absurd h List.not_mem_nil) True.intro (by decide +kernel)
-- FarMachine.refusalOfCommand
noncomputable def k148 : ckCtr := (39, ([(0, (0, 0)), (1, (0, 1)), (2, (0, 2)), (3, (0, 3))], [], [], [ckTop, ckTop, ckTop, (0, 1)], [], [], [], [], 0, 0), [([], [(0, 4)], [], [], [], [(-6, 0)], [], [], [], [], 0, 0)], 2, 100, 0, 0)
noncomputable def k148_a : ckAs := []
noncomputable def k148_c : List (Nat × ckCtr) := [(17, k13)]
theorem k148_ok (l : Launch) : ckCtrOk l ckMT ckTW ckCL k148 := mt_39 (as := k148_a) (cs := k148_c) (gx := []) (f := 200000) rfl (ckHc (k13_ok l) (fun _ h => absurd h List.not_mem_nil)) True.intro (by decide +kernel)
-- FarMachine.refuse
noncomputable def k149 : ckCtr := (34, ([(0, (1, 0)), (1, (0, 0))], [], dC33, [(-6, -1), (0, 1), (7, 7)], [([(7, ckTop)], [], [])], [], [], [], 0, 0), [([], [(0, 0)], [(1, .inr (0, 2, 1))], [], [], [], [([(7, ckTop)], [], [])], [], [], [], 0, 0)], 1, 80, 0, 0)
noncomputable def k149_a : ckAs := []
noncomputable def k149_c : List (Nat × ckCtr) := []
theorem k149_ok (l : Launch) : ckCtrOk l ckMT ckTW ckCL k149 := mt_34 (as := k149_a) (cs := k149_c) (gx := []) (f := 200000) rfl (fun _ h => absurd h List.not_mem_nil) True.intro (by decide +kernel)
noncomputable def dC227 : List ckC := [.inl (8, [(1, 1), (4, 10), (0, 3), (4, 11), (4, 12), (4, 13), (4, 14), (1, 2)]), .inl (7, [(1, 3), (4, 15), (0, 4), (4, 16), (4, 17), (4, 18), (4, 19), (4, 20), (4, 21), (4, 22)]), .inr (0, 5, 0), .inl (2, [(4, 23), (4, 24), (1, 4), (0, 6), (0, 7), (0, 8), (0, 9), (0, 10), (0, 11), (0, 12), (0, 13), (0, 14), (0, 15), (0, 16), (0, 17), (0, 18)]), .inl (1, [(1, 5), (1, 6), (1, 7), (1, 8), (0, 19)]), .inr (0, 20, 1), .inr (0, 20, 2), .inr (0, 20, 3), .inr (0, 20, 4)]
noncomputable def dT228 : List ckI := [ckTop, ckTop, ckTop, (0, 1), (0, 1), (7, 7), ckTop, ckTop, ckTop, ckTop, ckTop, ckTop, ckTop, ckTop, ckTop, ckTop, ckTop, ckTop, ckTop, ckTop, (30, 30)]
noncomputable def dG229 : List ckG := [([(7, ckTop)], [], []), ([(30, ckTop)], [], []), ([(30, ckTop)], [], []), ([(30, ckTop)], [], []), ([(30, ckTop)], [], [])]
noncomputable def dP230 : List (Nat × ckC) := [(2, .inr (0, 5, 5)), (4, .inl (1, [(1, 5), (1, 6), (1, 7), (1, 8), (0, 22)])), (5, .inr (0, 20, 6)), (6, .inr (0, 20, 7)), (7, .inr (0, 20, 8)), (8, .inr (0, 20, 9))]
-- FarMachine.command
noncomputable def k150 : ckCtr := (8, ([(0, (1, 0)), (1, (0, 0)), (2, (0, 1)), (3, (0, 2))], [], dC227, dT228, dG229, [], [], [], 0, 0), [([], [(0, 21)], dP230, [], [], [ckTop, ckTop], dG229, [], [(19, 22, 0), (22, 19, 1)], [], 0, 0)], 3, 124, 0, 0)
noncomputable def k150_a : ckAs := []
noncomputable def k150_c : List (Nat × ckCtr) := [(17, k147), (20, k148), (33, k149), (52, k113)]
theorem k150_ok (l : Launch) : ckCtrOk l ckMT ckTW ckCL k150 := mt_8 (as := k150_a) (cs := k150_c) (gx := []) (f := 200000) rfl (ckHc (k147_ok l) (ckHc (k148_ok l) (ckHc (k149_ok l) (ckHc (k113_ok l) (fun _ h => absurd h List.not_mem_nil))))) True.intro (by decide +kernel)
-- FarMachineModel.isIn
noncomputable def k151 : ckCtr := (45, ([(0, (0, 0)), (1, (0, 1))], [], [], [ckTop, (3, 3)], [], [], [], [], 0, 0), [([], [(0, 2)], [], [], [(0, (0, 2))], [(1, 1)], [], [], [], [], 0, 0), ([], [(0, 2)], [], [], [(0, (3, 2147483647))], [(0, 0)], [], [], [], [], 0, 0), ([], [(0, 2)], [], [], [(0, (-2147483648, -1))], [(0, 0)], [], [], [], [], 0, 0)], 1, 80, 0, 0)
noncomputable def k151_a : ckAs := []
noncomputable def k151_c : List (Nat × ckCtr) := []
theorem k151_ok (l : Launch) : ckCtrOk l ckMT ckTW ckCL k151 := mt_45 (as := k151_a) (cs := k151_c) (gx := []) (f := 200000) rfl (fun _ h => absurd h List.not_mem_nil) True.intro (by decide +kernel)
noncomputable def dC231 : List ckC := [.inl (9, [(4, 10), (4, 11), (4, 12), (4, 13), (4, 14), (4, 15), (4, 16), (4, 17), (4, 18), (4, 19), (4, 20), (4, 21), (4, 22), (4, 23), (4, 24), (4, 25), (0, 4), (0, 5), (0, 6), (0, 7), (0, 8), (0, 9), (0, 10), (4, 26), (0, 11), (4, 27), (0, 12), (0, 13), (0, 14), (0, 15), (4, 28), (0, 16), (0, 17), (0, 18), (0, 19), (5, 0), (5, 0), (0, 20), (4, 29), (4, 30), (0, 21), (0, 22)])]
noncomputable def dT232 : List ckI := [ckTop, ckTop, ckTop, (0, 1), (0, 1), (0, 1), (0, 8), (0, 40), (0, 6), (0, 8), (0, 10), (0, 130000), ckTop, ckTop, ckTop, ckTop, (0, 30), ckTop, ckTop, ckTop, (0, 1), ckTop, (0, 1)]
-- FarMachineModel.wrongCommand
noncomputable def k152 : ckCtr := (68, ([(0, (1, 0)), (1, (0, 0)), (2, (0, 1)), (3, (0, 2)), (4, (0, 3))], [], dC231, dT232, [], [], [], [], 0, 0), [([], [(0, 23)], [], [], [(0, (3, 2147483647))], [(-2, -2)], [], [], [], [], 0, 0), ([], [(0, 23)], [], [], [(0, (-2147483648, -1))], [(-2, -2)], [], [], [], [], 0, 0), ([], [(0, 23)], [], [], [(0, (0, 0)), (1, (48, 2147483647))], [(-1, -1)], [], [], [], [], 0, 0), ([], [(0, 23)], [], [], [(0, (0, 0)), (1, (-2147483648, -1))], [(-1, -1)], [], [], [], [], 0, 0), ([], [(0, 23)], [], [], [(0, (0, 0)), (1, (0, 47)), (2, (256, 2147483647))], [(-6, -6)], [], [], [], [], 0, 0), ([], [(0, 23)], [], [], [(0, (0, 0)), (1, (0, 47)), (2, (0, 255)), (3, (1, 1))], [(-6, -6)], [], [], [], [], 0, 0), ([], [(0, 23)], [], [], [(0, (0, 0)), (1, (0, 47)), (2, (0, 255)), (3, (0, 0))], [(0, 0)], [], [], [], [], 0, 0), ([], [(0, 23)], [], [], [(0, (0, 0)), (1, (0, 47)), (2, (-2147483648, -1))], [(-4, -4)], [], [], [], [], 0, 0), ([], [(0, 23)], [], [], [(0, (2, 2)), (3, (1, 1))], [(-6, -6)], [], [], [], [], 0, 0), ([], [(0, 23)], [], [], [(0, (2, 2)), (3, (0, 0))], [(0, 0)], [], [], [], [], 0, 0), ([], [(0, 23)], [], [], [(0, (1, 1)), (2, (48, 2147483647))], [(-6, -6)], [], [], [], [], 0, 0), ([], [(0, 23)], [], [], [(0, (1, 1)), (2, (0, 47)), (3, (1, 1))], [(-6, -6)], [], [], [], [], 0, 0), ([], [(0, 23)], [], [], [(0, (1, 1)), (2, (0, 47)), (3, (0, 0))], [(0, 0)], [], [], [], [], 0, 0), ([], [(0, 23)], [], [], [(0, (1, 1)), (2, (-2147483648, -1))], [(-4, -4)], [], [], [], [], 0, 0)], 2, 102, 0, 0)
noncomputable def k152_a : ckAs := []
noncomputable def k152_c : List (Nat × ckCtr) := [(2, k151), (18, k20), (49, k21), (49, k40)]
theorem k152_ok (l : Launch) : ckCtrOk l ckMT ckTW ckCL k152 := mt_68 (as := k152_a) (cs := k152_c) (gx := []) (f := 200000) rfl (ckHc (k151_ok l) (ckHc (k20_ok l) (ckHc (k21_ok l) (ckHc (k40_ok l) (fun _ h => absurd h List.not_mem_nil))))) True.intro (by decide +kernel)
noncomputable def dT233 : List ckI := [ckTop, ckTop, ckTop, (0, 1), (0, 1), (0, 8), (0, 40), (0, 6), (0, 8), (0, 10), (0, 126000), ckTop, ckTop, ckTop, ckTop, (0, 30), ckTop, ckTop, ckTop, (0, 1), ckTop, (0, 1), (7, 7), (318, 318), (1, 99), (0, 126000)]
noncomputable def dG234 : List ckG := [([(1, ckTop), (2, ckTop), (3, ckTop), (4, ckTop), (5, ckTop), (6, ckTop), (7, ckTop)], [], []), ([(48, ckTop), (49, (0, 47)), (50, ckTop), (51, ckTop), (52, ckTop), (54, ckTop), (55, ckTop), (56, ckTop), (57, ckTop), (58, ckTop), (59, ckTop), (76, ckTop), (77, (0, 30)), (197, ckTop), (198, (0, 60)), (318, ckTop)], [(55, 24), (58, 25), (76, 27)], [])]
-- FarMachineModel.command
noncomputable def k153 : ckCtr := (69, ([(0, (1, 0)), (1, (0, 0)), (2, (0, 1)), (3, (0, 2))], [], dC63, dT233, dG65, [], [], [(1, 1, 0, 0, [])], 0, 0), [([], [(0, 26)], [(1, .inr (0, 22, 2)), (2, .inr (0, 23, 3))], [], [], [(-6, 30), (0, 30)], dG234, [], [(26, 27, 0)], [(1, 1, 0, 0, []), (1, 3, 0, 0, [])], 0, 0)], 3, 127, 0, 0)
noncomputable def k153_a : ckAs := [(104, [(742526, [(4, 1, 0, ([], [], [], [], [], [], [], [], [], [(0, 0, 0, 0, [27, 34, 32, 35, 31, 35, 0, 0, 34, 32, 35, 31, 37, 36, 1, 34, 32, 35, 31, 39, 38, 2, 1, 2, 3, 4, 0, 0, 0, 0, 0, 0, 0, 0, 0, 0, 0, 0])], 0, 0)), (4, 2, 0, ([], [], [], [], [], [], [], [], [], [(0, 0, 0, 0, [27, 34, 32, 35, 31, 41, 40, 4, 5, 45])], 0, 0))]), (40123, [(4, 1, 0, ([], [], [], [], [], [], [], [], [], [(0, 0, 0, 0, [27, 34, 32, 35, 31, 35, 0, 0, 34, 32, 35, 31, 37, 36, 1, 34, 32, 35, 31, 39, 38, 2, 1, 2, 3, 4, 0, 0, 0, 0, 0, 0, 0, 0, 0, 0, 0, 0])], 0, 0)), (4, 2, 0, ([], [], [], [], [], [], [], [], [], [(0, 0, 0, 0, [27, 34, 32, 35, 31, 41, 40, 4, 5, 45])], 0, 0))]), (417731, [(4, 1, 0, ([], [], [], [], [], [], [], [], [], [(0, 0, 0, 0, [27, 34, 32, 35, 31, 35, 0, 0, 34, 32, 35, 31, 37, 36, 1, 34, 32, 35, 31, 39, 38, 2, 1, 2, 3, 4, 0, 0, 0, 0, 0, 0, 0, 0, 0, 0, 0, 0])], 0, 0)), (4, 2, 0, ([], [], [], [], [], [], [], [], [], [(0, 0, 0, 0, [27, 34, 32, 35, 31, 41, 40, 4, 5, 45])], 0, 0))])])]
noncomputable def k153_c : List (Nat × ckCtr) := [(21, k152), (34, k33), (34, k22), (34, k23), (34, k24)]
theorem k153_ok (l : Launch) : ckCtrOk l ckMT ckTW ckCL k153 := mt_69 (as := k153_a) (cs := k153_c) (gx := []) (f := 200000) rfl (ckHc (k152_ok l) (ckHc (k33_ok l) (ckHc (k22_ok l) (ckHc (k23_ok l) (ckHc (k24_ok l) (fun _ h => absurd h List.not_mem_nil)))))) True.intro (by decide +kernel)
noncomputable def dC235 : List ckC := [.inl (8, [(1, 1), (4, 10), (0, 0), (4, 11), (4, 12), (4, 13), (4, 14), (4, 15)]), .inl (7, [(4, 16), (4, 17), (0, 1), (1, 2), (4, 18), (4, 19), (4, 20), (4, 21), (4, 22), (4, 23)]), .inl (0, [(4, 24), (0, 2)])]
-- FarMachine.sent
noncomputable def k154 : ckCtr := (9, ([(0, (1, 0))], [], dC235, [(0, 1), (0, 1), ckTop], [], [], [], [], 0, 0), [([], [(0, 2)], [], [], [], [], [], [], [], [], 0, 0)], 1, 80, 0, 0)
noncomputable def k154_a : ckAs := []
noncomputable def k154_c : List (Nat × ckCtr) := []
theorem k154_ok (l : Launch) : ckCtrOk l ckMT ckTW ckCL k154 := mt_9 (as := k154_a) (cs := k154_c) (gx := []) (f := 200000) rfl (fun _ h => absurd h List.not_mem_nil) True.intro (by decide +kernel)
noncomputable def dC236 : List ckC := [.inl (9, [(4, 10), (1, 1), (4, 11), (4, 12), (4, 13), (4, 14), (4, 15), (4, 16), (4, 17), (4, 18), (4, 19), (4, 20), (4, 21), (4, 22), (4, 23), (4, 24), (0, 0), (0, 1), (0, 2), (0, 3), (0, 4), (0, 5), (0, 6), (4, 25), (0, 7), (4, 26), (0, 8), (0, 9), (0, 10), (0, 11), (4, 27), (0, 12), (0, 13), (0, 14), (0, 15), (5, 0), (5, 0), (0, 16), (4, 28), (4, 29), (0, 17), (0, 18)]), .inr (0, 19, 0)]
noncomputable def dT237 : List ckI := [(0, 1), (0, 1), (0, 8), (0, 40), (0, 6), (0, 8), (0, 10), (0, 126000), ckTop, ckTop, ckTop, ckTop, (0, 30), ckTop, ckTop, ckTop, (0, 1), ckTop, (0, 1), (318, 318), (1, 99), (0, 126000)]
noncomputable def dG238 : List ckG := [([(48, ckTop), (49, (0, 47)), (50, ckTop), (51, ckTop), (52, ckTop), (54, ckTop), (55, ckTop), (56, ckTop), (57, ckTop), (58, ckTop), (59, ckTop), (76, ckTop), (77, (0, 30)), (197, ckTop), (198, (0, 60)), (318, ckTop)], [(55, 20), (58, 21)], [])]
-- FarMachineModel.sent
noncomputable def k155 : ckCtr := (70, ([(0, (1, 0))], [], dC236, dT237, dG238, [], [], [(1, 0, 0, 0, [])], 0, 0), [([], [(0, 22)], [], [], [], [(0, 60)], [], [], [], [(1, 0, 0, 0, [])], 0, 0)], 1, 80, 0, 0)
noncomputable def k155_a : ckAs := []
noncomputable def k155_c : List (Nat × ckCtr) := []
theorem k155_ok (l : Launch) : ckCtrOk l ckMT ckTW ckCL k155 := mt_70 (as := k155_a) (cs := k155_c) (gx := []) (f := 200000) rfl (fun _ h => absurd h List.not_mem_nil) True.intro (by decide +kernel)
-- FarMachine$Bytes.at
noncomputable def k156 : ckCtr := (115, ([(0, (1, 0)), (1, (0, 0))], [], [.inl (0, [(1, 1), (0, 1)]), .inr (0, 2, 0)], [ckTop, ckTop, (60, 60)], [([(60, ckTop)], [], [])], [], [], [], 0, 0), [([], [(0, 3)], [], [], [(0, (0, 59))], [ckTop], [], [], [], [], 0, 0), ([], [(0, 3)], [], [], [], [(0, 0)], [], [], [], [], 0, 0)], 1, 80, 0, 0)
noncomputable def k156_a : ckAs := []
noncomputable def k156_c : List (Nat × ckCtr) := []
theorem k156_ok (l : Launch) : ckCtrOk l ckMT ckTW ckCL k156 := mt_115 (as := k156_a) (cs := k156_c) (gx := []) (f := 200000) rfl (fun _ h => absurd h List.not_mem_nil) True.intro (by decide +kernel)
noncomputable def dC239 : List ckC := [.inl (7, [(1, 1), (4, 10), (0, 1), (1, 2), (1, 3), (4, 11), (4, 12), (4, 13), (4, 14), (4, 15)]), .inl (2, [(4, 16), (4, 17), (4, 18), (0, 2), (0, 3), (0, 4), (0, 5), (0, 6), (0, 7), (0, 8), (0, 9), (0, 10), (0, 11), (0, 12), (0, 13), (0, 14)]), .inl (0, [(4, 19), (0, 15)]), .inl (0, [(1, 4), (0, 16)]), .inr (0, 17, 0)]
noncomputable def dT240 : List ckI := [ckTop, (0, 1), ckTop, ckTop, ckTop, ckTop, ckTop, ckTop, ckTop, ckTop, ckTop, ckTop, ckTop, ckTop, ckTop, ckTop, ckTop, (60, 60)]
-- FarMachine$World.placeOfHeard
noncomputable def k157 : ckCtr := (185, ([(0, (1, 0)), (1, (0, 0))], [], dC239, dT240, [([(60, ckTop)], [], [])], [], [], [], 0, 0), [([], [(0, 18)], [], [], [(0, (0, 2147483646)), (15, (1, 2147483647))], [(0, 2147483646)], [], [], [(0, 15, (-1)), (0, 18, 0), (18, 15, (-1))], [], 0, 0), ([], [(0, 18)], [], [], [], [(-1, -1)], [], [], [], [], 0, 0)], 2, 101, 0, 0)
noncomputable def k157_a : ckAs := [(4, [(424626, [(1, 0, 1, ([(0, (1, 0)), (1, (0, 0)), (2, (0, 20)), (3, (0, 21))], [], [], [], [], [(0, 2147483647), (0, 2147483647)], [], [], [(20, 21, 0)], [], 0, 0))])])]
noncomputable def k157_c : List (Nat × ckCtr) := [(20, k156)]
theorem k157_ok (l : Launch) : ckCtrOk l ckMT ckTW ckCL k157 := mt_185 (as := k157_a) (cs := k157_c) (gx := []) (f := 200000) rfl (ckHc (k156_ok l) (fun _ h => absurd h List.not_mem_nil)) True.intro (by decide +kernel)
-- FarMachine.refuseFar
noncomputable def k158 : ckCtr := (35, ([(0, (1, 0)), (1, (0, 0))], [], dC33, [(-1, -1), (0, 1), (7, 7)], [([(7, ckTop)], [], [])], [], [], [], 0, 0), [([], [(0, 3)], [(1, .inr (0, 2, 1))], [], [], [(1001, 1001), ckTop], [([(1, ckTop), (2, ckTop), (7, ckTop)], [(1, 4)], [])], [], [], [], 0, 0)], 2, 101, 0, 0)
noncomputable def k158_a : ckAs := []
noncomputable def k158_c : List (Nat × ckCtr) := [(5, k14)]
theorem k158_ok (l : Launch) : ckCtrOk l ckMT ckTW ckCL k158 := mt_35 (as := k158_a) (cs := k158_c) (gx := []) (f := 200000) rfl (ckHc (k14_ok l) (fun _ h => absurd h List.not_mem_nil)) True.intro (by decide +kernel)
noncomputable def dC241 : List ckC := [.inl (8, [(1, 1), (4, 10), (0, 1), (4, 11), (4, 12), (4, 13), (4, 14), (1, 2)]), .inl (7, [(1, 3), (4, 15), (0, 2), (1, 4), (1, 5), (4, 16), (4, 17), (4, 18), (4, 19), (4, 20)]), .inr (0, 3, 0), .inl (2, [(4, 21), (4, 22), (4, 23), (0, 4), (0, 5), (0, 6), (0, 7), (0, 8), (0, 9), (0, 10), (0, 11), (0, 12), (0, 13), (0, 14), (0, 15), (0, 16)]), .inl (0, [(1, 6), (0, 17)]), .inl (0, [(1, 7), (0, 18)]), .inr (0, 19, 1), .inr (0, 19, 2)]
noncomputable def dT242 : List ckI := [ckTop, (0, 1), (0, 1), (7, 7), ckTop, ckTop, ckTop, ckTop, ckTop, ckTop, ckTop, ckTop, ckTop, ckTop, ckTop, ckTop, ckTop, ckTop, ckTop, (60, 60)]
noncomputable def dG243 : List ckG := [([(7, ckTop)], [], []), ([(60, ckTop)], [], []), ([(60, ckTop)], [], [])]
-- FarMachine.heard
noncomputable def k159 : ckCtr := (10, ([(0, (1, 0)), (1, (0, 0))], [], dC241, dT242, dG243, [], [], [], 0, 0), [([], [(0, 20)], [(2, .inr (0, 3, 3))], [], [], [ckTop], [([(1, ckTop), (2, ckTop), (7, ckTop)], [], [])], [], [], [], 0, 0)], 3, 124, 0, 0)
noncomputable def k159_a : ckAs := []
noncomputable def k159_c : List (Nat × ckCtr) := [(5, k157), (15, k158), (29, k156)]
theorem k159_ok (l : Launch) : ckCtrOk l ckMT ckTW ckCL k159 := mt_10 (as := k159_a) (cs := k159_c) (gx := []) (f := 200000) rfl (ckHc (k157_ok l) (ckHc (k158_ok l) (ckHc (k156_ok l) (fun _ h => absurd h List.not_mem_nil)))) True.intro (by decide +kernel)
-- FarMachineModel.heard
noncomputable def k160 : ckCtr := (71, ([(0, (1, 0)), (1, (0, 0))], [], dC51, dT52, dG53, [], [], [(1, 1, 0, 0, [])], 0, 0), [([], [(0, 24)], [(1, .inr (0, 20, 2))], [], [], [ckTop], [([(1, ckTop), (2, ckTop), (7, ckTop)], [], [])], [], [], [(1, 1, 0, 0, [])], 0, 0)], 2, 101, 0, 0)
noncomputable def k160_a : ckAs := [(4, [(9520, [(1, 0, 1, ([(0, (1, 0)), (1, (0, 0)), (2, (0, 26)), (3, (0, 27))], [], [], [], [], [(0, 60), (0, 60)], [], [], [(26, 27, 0)], [(1, 1, 0, 0, [])], 0, 0))])])]
noncomputable def k160_c : List (Nat × ckCtr) := [(75, k22)]
theorem k160_ok (l : Launch) : ckCtrOk l ckMT ckTW ckCL k160 := mt_71 (as := k160_a) (cs := k160_c) (gx := []) (f := 200000) rfl (ckHc (k22_ok l) (fun _ h => absurd h List.not_mem_nil)) True.intro (by decide +kernel)
-- FarMachine.copyRow
noncomputable def k161 : ckCtr := (42, ([(0, (1, 0)), (1, (1, 1))], [], [.inr (0, 0, 0), .inr (0, 0, 1)], [(48, 48)], [([(48, ckTop)], [], []), ([(48, ckTop)], [], [])], [], [], [], 0, 0), [([], [], [(1, .inr (0, 0, 0))], [], [], [], [], [], [], [], 0, 0)], 1, 80, 0, 0)
noncomputable def k161_a : ckAs := []
noncomputable def k161_c : List (Nat × ckCtr) := []
theorem k161_ok (l : Launch) : ckCtrOk l ckMT ckTW ckCL k161 := mt_42 (as := k161_a) (cs := k161_c) (gx := []) (f := 200000) rfl (fun _ h => absurd h List.not_mem_nil) True.intro (by decide +kernel)
-- FarMachine.copyRow
noncomputable def k162 : ckCtr := (42, ([(0, (1, 0)), (1, (1, 1))], [], [.inr (0, 0, 0), .inr (0, 0, 1)], [(8, 8)], [([(8, ckTop)], [], []), ([(8, ckTop)], [], [])], [], [], [], 0, 0), [([], [], [(1, .inr (0, 0, 0))], [], [], [], [], [], [], [], 0, 0)], 1, 80, 0, 0)
noncomputable def k162_a : ckAs := []
noncomputable def k162_c : List (Nat × ckCtr) := []
theorem k162_ok (l : Launch) : ckCtrOk l ckMT ckTW ckCL k162 := mt_42 (as := k162_a) (cs := k162_c) (gx := []) (f := 200000) rfl (fun _ h => absurd h List.not_mem_nil) True.intro (by decide +kernel)
-- FarMachine.copyRow
noncomputable def k163 : ckCtr := (42, ([(0, (1, 0)), (1, (1, 1))], [], [.inr (0, 0, 0), .inr (0, 0, 1)], [(30, 30)], [([(30, ckTop)], [], []), ([(30, ckTop)], [], [])], [], [], [], 0, 0), [([], [], [(1, .inr (0, 0, 0))], [], [], [], [], [], [], [], 0, 0)], 1, 80, 0, 0)
noncomputable def k163_a : ckAs := []
noncomputable def k163_c : List (Nat × ckCtr) := []
theorem k163_ok (l : Launch) : ckCtrOk l ckMT ckTW ckCL k163 := mt_42 (as := k163_a) (cs := k163_c) (gx := []) (f := 200000) rfl (fun _ h => absurd h List.not_mem_nil) True.intro (by decide +kernel)
noncomputable def dC244 : List ckC := [.inl (1, [(1, 2), (1, 3), (1, 4), (1, 5), (0, 0)]), .inl (1, [(1, 6), (1, 7), (1, 8), (1, 9), (0, 1)]), .inr (0, 2, 0), .inr (0, 2, 1), .inr (0, 2, 2), .inr (0, 2, 3), .inr (0, 2, 4), .inr (0, 2, 5), .inr (0, 2, 6), .inr (0, 2, 7)]
noncomputable def dG245 : List ckG := [([(30, ckTop)], [], []), ([(30, ckTop)], [], []), ([(30, ckTop)], [], []), ([(30, ckTop)], [], []), ([(30, ckTop)], [], []), ([(30, ckTop)], [], []), ([(30, ckTop)], [], []), ([(30, ckTop)], [], [])]
noncomputable def dP246 : List (Nat × ckC) := [(0, .inl (1, [(1, 2), (1, 3), (1, 4), (1, 5), (0, 1)])), (2, .inr (0, 2, 4)), (3, .inr (0, 2, 5)), (4, .inr (0, 2, 6)), (5, .inr (0, 2, 7))]
-- FarMachine$Commands.copyFrom
noncomputable def k164 : ckCtr := (124, ([(0, (1, 0)), (1, (1, 1))], [], dC244, [ckTop, ckTop, (30, 30)], dG245, [], [], [], 0, 0), [([], [], dP246, [], [], [], [], [], [], [], 0, 0)], 2, 101, 0, 0)
noncomputable def k164_a : ckAs := []
noncomputable def k164_c : List (Nat × ckCtr) := [(8, k163), (19, k163), (30, k163), (41, k163)]
theorem k164_ok (l : Launch) : ckCtrOk l ckMT ckTW ckCL k164 := mt_124 (as := k164_a) (cs := k164_c) (gx := []) (f := 200000) rfl (ckHc (k163_ok l) (ckHc (k163_ok l) (ckHc (k163_ok l) (ckHc (k163_ok l) (fun _ h => absurd h List.not_mem_nil))))) True.intro (by decide +kernel)
