/-! THE CHECKER: contracts with their certificates (printed by wip/gen2/p14gen.py) -/
noncomputable def dC340 : List ckC := [.inl (4, [(3, 0), (3, 0), (0, 0), (0, 1)]), .inl (0, [(4, 10), (0, 2)]), .inl (5, [(4, 11), (4, 12), (4, 13), (4, 14), (4, 15), (0, 3)])]
-- FarMachine$RuleReader.<init>
noncomputable def k183 : ckCtr := (158, ([(0, (1, 0)), (1, (1, 1)), (2, (1, 2))], [], dC340, [(0, 1), ckTop, (0, 30), (0, 9)], [], [], [], [], 0, 0), [([], [], [(0, .inl (4, [(1, 1), (1, 2), (0, 0), (0, 1)]))], [], [], [], [], [], [], [], 0, 0)], 1, 80, 0, 0)
noncomputable def k183_a : ckAs := []
noncomputable def k183_c : List (Nat × ckCtr) := []
theorem k183_ok (l : Launch) : ckCtrOk l ckMT ckTW ckCL k183 := mt_158 (as := k183_a) (cs := k183_c) (gx := []) (f := 200000) rfl (fun _ h => absurd h List.not_mem_nil) True.intro (by decide +kernel)
noncomputable def dC341 : List ckC := [.inl (5, [(4, 10), (4, 11), (4, 12), (4, 13), (1, 1), (0, 0)]), .inr (0, 1, 0)]
-- FarMachine$Rules.begin
noncomputable def k184 : ckCtr := (169, ([(0, (1, 0))], [], dC341, [(0, 9), (10, 10)], [([(10, ckTop)], [], [])], [], [], [], 0, 0), [([], [], [(1, .inr (0, 1, 1))], [], [], [], [([(10, ckTop)], [], [])], [], [], [], 0, 0)], 1, 80, 0, 0)
noncomputable def k184_a : ckAs := []
noncomputable def k184_c : List (Nat × ckCtr) := []
theorem k184_ok (l : Launch) : ckCtrOk l ckMT ckTW ckCL k184 := mt_169 (as := k184_a) (cs := k184_c) (gx := []) (f := 200000) rfl (fun _ h => absurd h List.not_mem_nil) True.intro (by decide +kernel)
-- FarMachine$Bytes.at
noncomputable def k185 : ckCtr := (115, ([(0, (1, 0)), (1, (0, 0))], [], [.inl (0, [(1, 1), (0, 1)]), .inr (0, 2, 0)], [ckTop, (0, 30), (30, 30)], [([(30, ckTop)], [], [])], [], [], [], 0, 0), [([], [(0, 3)], [], [], [(0, (0, 29))], [ckTop], [], [], [], [], 0, 0), ([], [(0, 3)], [], [], [], [(0, 0)], [], [], [], [], 0, 0)], 1, 80, 0, 0)
noncomputable def k185_a : ckAs := []
noncomputable def k185_c : List (Nat × ckCtr) := []
theorem k185_ok (l : Launch) : ckCtrOk l ckMT ckTW ckCL k185 := mt_115 (as := k185_a) (cs := k185_c) (gx := []) (f := 200000) rfl (fun _ h => absurd h List.not_mem_nil) True.intro (by decide +kernel)
noncomputable def dC342 : List ckC := [.inl (4, [(1, 1), (4, 10), (0, 0), (0, 1)]), .inl (0, [(1, 2), (0, 2)]), .inr (0, 3, 0)]
-- FarMachine$RuleReader.next
noncomputable def k186 : ckCtr := (164, ([(0, (1, 0))], [], dC342, [(0, 1), ckTop, (0, 30), (30, 30)], [([(30, ckTop)], [], [])], [], [], [], 0, 0), [([], [(0, 4)], [], [], [], [ckTop], [], [], [], [], 0, 0)], 2, 101, 0, 0)
noncomputable def k186_a : ckAs := []
noncomputable def k186_c : List (Nat × ckCtr) := [(22, k185)]
theorem k186_ok (l : Launch) : ckCtrOk l ckMT ckTW ckCL k186 := mt_164 (as := k186_a) (cs := k186_c) (gx := []) (f := 200000) rfl (ckHc (k185_ok l) (fun _ h => absurd h List.not_mem_nil)) True.intro (by decide +kernel)
-- java/lang/String.isLatin1
noncomputable def k187 : ckCtr := (201, ([(0, (4, 5))], [], [], [], [], [], [], [], 0, 0), [([], [(0, 0)], [], [], [], [(1, 1)], [], [], [], [], 0, 0)], 1, 80, 0, 0)
noncomputable def k187_a : ckAs := []
noncomputable def k187_c : List (Nat × ckCtr) := []
theorem k187_ok (l : Launch) : ckCtrOk l ckMT ckTW ckCL k187 := mt_201 (as := k187_a) (cs := k187_c) (gx := []) (f := 200000) rfl (fun _ h => absurd h List.not_mem_nil) True.intro (by decide +kernel)
-- java/lang/String.coder
noncomputable def k188 : ckCtr := (198, ([(0, (4, 5))], [], [], [], [], [], [], [], 0, 0), [([], [(0, 0)], [], [], [], [(0, 0)], [], [], [], [], 0, 0)], 1, 80, 0, 0)
noncomputable def k188_a : ckAs := []
noncomputable def k188_c : List (Nat × ckCtr) := []
theorem k188_ok (l : Launch) : ckCtrOk l ckMT ckTW ckCL k188 := mt_198 (as := k188_a) (cs := k188_c) (gx := []) (f := 200000) rfl (fun _ h => absurd h List.not_mem_nil) True.intro (by decide +kernel)
-- java/lang/String.length
noncomputable def k189 : ckCtr := (202, ([(0, (4, 5))], [], [], [], [], [], [], [], 0, 0), [([], [(0, 0)], [], [], [], [(8, 8)], [], [], [], [], 0, 0)], 2, 100, 0, 0)
noncomputable def k189_a : ckAs := []
noncomputable def k189_c : List (Nat × ckCtr) := [(6, k188)]
theorem k189_ok (l : Launch) : ckCtrOk l ckMT ckTW ckCL k189 := mt_202 (as := k189_a) (cs := k189_c) (gx := []) (f := 200000) rfl (ckHc (k188_ok l) (fun _ h => absurd h List.not_mem_nil)) True.intro (by decide +kernel)
-- java/lang/StringLatin1.canEncode
noncomputable def k190 : ckCtr := (203, ([(0, (0, 0))], [], [], [(0, 65535)], [], [], [], [], 0, 0), [([], [(0, 1)], [], [], [(0, (0, 255))], [(1, 1)], [], [], [], [], 0, 0), ([], [(0, 1)], [], [], [(0, (256, 65535))], [(0, 0)], [], [], [], [], 0, 0)], 1, 80, 0, 0)
noncomputable def k190_a : ckAs := []
noncomputable def k190_c : List (Nat × ckCtr) := []
theorem k190_ok (l : Launch) : ckCtrOk l ckMT ckTW ckCL k190 := mt_203 (as := k190_a) (cs := k190_c) (gx := []) (f := 200000) rfl (fun _ h => absurd h List.not_mem_nil) True.intro (by decide +kernel)
-- java/lang/StringLatin1.indexOfChar
noncomputable def k191 : ckCtr := (205, ([(0, (4, 6)), (1, (0, 0)), (2, (0, 1)), (3, (0, 2))], [], [], [(0, 255), (0, 0), (8, 8)], [], [], [], [], 0, 0), [([], [(0, 3)], [], [], [], [(0, 7)], [], [], [], [], 0, 0), ([], [(0, 3)], [], [], [], [(-1, -1)], [], [], [], [], 0, 0)], 1, 80, 0, 0)
noncomputable def k191_a : ckAs := [(7, [(967637, [(1, 0, 0, ([(0, (4, 6)), (1, (0, 0)), (2, (0, 1)), (3, (0, 2)), (4, (0, 3)), (5, (0, 4))], [], [], [], [], [(0, 8)], [], [], [], [], 0, 0))])])]
noncomputable def k191_c : List (Nat × ckCtr) := []
theorem k191_ok (l : Launch) : ckCtrOk l ckMT ckTW ckCL k191 := mt_205 (as := k191_a) (cs := k191_c) (gx := []) (f := 200000) rfl (fun _ h => absurd h List.not_mem_nil) True.intro (by decide +kernel)
-- java/lang/StringLatin1.indexOf
noncomputable def k192 : ckCtr := (204, ([(0, (4, 6)), (1, (0, 0)), (2, (0, 1)), (3, (0, 2))], [], [], [(0, 65535), (0, 0), (8, 8)], [], [], [], [], 0, 0), [([], [(0, 3)], [], [], [(0, (256, 65535))], [(-1, -1)], [], [], [], [], 0, 0), ([], [(0, 3)], [], [], [(0, (0, 255))], [(-1, -1)], [], [], [], [], 0, 0), ([], [(0, 3)], [], [], [(0, (0, 255))], [(0, 7)], [], [], [], [], 0, 0)], 2, 105, 0, 0)
noncomputable def k192_a : ckAs := []
noncomputable def k192_c : List (Nat × ckCtr) := [(1, k190), (33, k191)]
theorem k192_ok (l : Launch) : ckCtrOk l ckMT ckTW ckCL k192 := mt_204 (as := k192_a) (cs := k192_c) (gx := []) (f := 200000) rfl (ckHc (k190_ok l) (ckHc (k191_ok l) (fun _ h => absurd h List.not_mem_nil))) True.intro (by decide +kernel)
-- java/lang/String.indexOf
noncomputable def k193 : ckCtr := (200, ([(0, (4, 5)), (1, (0, 0)), (2, (0, 1))], [], [], [(0, 65535), (0, 0)], [], [], [], [], 0, 0), [([], [(0, 2)], [], [], [(0, (0, 255))], [(-1, -1)], [], [], [], [], 0, 0), ([], [(0, 2)], [], [], [(0, (0, 255))], [(0, 7)], [], [], [], [], 0, 0), ([], [(0, 2)], [], [], [(0, (256, 65535))], [(-1, -1)], [], [], [], [], 0, 0)], 3, 128, 0, 0)
noncomputable def k193_a : ckAs := []
noncomputable def k193_c : List (Nat × ckCtr) := [(1, k187), (14, k189), (17, k192)]
theorem k193_ok (l : Launch) : ckCtrOk l ckMT ckTW ckCL k193 := mt_200 (as := k193_a) (cs := k193_c) (gx := []) (f := 200000) rfl (ckHc (k187_ok l) (ckHc (k189_ok l) (ckHc (k192_ok l) (fun _ h => absurd h List.not_mem_nil)))) True.intro (by decide +kernel)
-- java/lang/String.indexOf
noncomputable def k194 : ckCtr := (199, ([(0, (4, 5)), (1, (0, 0))], [], [], [(0, 65535)], [], [], [], [], 0, 0), [([], [(0, 1)], [], [], [(0, (0, 255))], [(0, 7)], [], [], [], [], 0, 0), ([], [(0, 1)], [], [], [(0, (256, 65535))], [(-1, -1)], [], [], [], [], 0, 0), ([], [(0, 1)], [], [], [(0, (0, 255))], [(-1, -1)], [], [], [], [], 0, 0)], 4, 150, 0, 0)
noncomputable def k194_a : ckAs := []
noncomputable def k194_c : List (Nat × ckCtr) := [(3, k193)]
theorem k194_ok (l : Launch) : ckCtrOk l ckMT ckTW ckCL k194 := mt_199 (as := k194_a) (cs := k194_c) (gx := []) (f := 200000) rfl (ckHc (k193_ok l) (fun _ h => absurd h List.not_mem_nil)) True.intro (by decide +kernel)
-- FarMachine$RuleReader.isDigit
noncomputable def k195 : ckCtr := (163, ([(0, (0, 0))], [], [], [ckTop], [], [], [], [], 0, 0), [([], [(0, 1)], [], [], [(0, (48, 57))], [(1, 1)], [], [], [], [], 0, 0), ([], [(0, 1)], [], [], [], [(0, 0)], [], [], [], [], 0, 0)], 1, 80, 0, 0)
noncomputable def k195_a : ckAs := []
noncomputable def k195_c : List (Nat × ckCtr) := []
theorem k195_ok (l : Launch) : ckCtrOk l ckMT ckTW ckCL k195 := mt_163 (as := k195_a) (cs := k195_c) (gx := []) (f := 200000) rfl (fun _ h => absurd h List.not_mem_nil) True.intro (by decide +kernel)
-- FarMachine$RuleReader.take
noncomputable def k196 : ckCtr := (165, ([(0, (1, 0)), (1, (0, 0))], [], [.inl (4, [(4, 10), (4, 11), (0, 1), (0, 2)])], [(0, 1), (0, 1), ckTop], [], [], [], [], 0, 0), [([], [], [(0, .inl (4, [(4, 10), (4, 11), (0, 3), (0, 4)]))], [], [], [(0, 1), ckTop], [], [], [(1, 3, 0)], [], 0, 0)], 1, 80, 0, 0)
noncomputable def k196_a : ckAs := []
noncomputable def k196_c : List (Nat × ckCtr) := []
theorem k196_ok (l : Launch) : ckCtrOk l ckMT ckTW ckCL k196 := mt_165 (as := k196_a) (cs := k196_c) (gx := []) (f := 200000) rfl (fun _ h => absurd h List.not_mem_nil) True.intro (by decide +kernel)
-- FarMachine$RuleReader.readDigits
noncomputable def k197 : ckCtr := (162, ([(0, (1, 0))], [], dC342, [(0, 1), ckTop, (0, 30), (30, 30)], [([(30, ckTop)], [], [])], [], [], [], 0, 0), [([], [(0, 4)], [(0, .inl (4, [(1, 1), (4, 10), (0, 5), (0, 6)]))], [], [], [ckTop, (0, 1), ckTop], [], [], [(0, 5, 0)], [], 0, 0)], 3, 121, 0, 0)
noncomputable def k197_a : ckAs := [(4, [(147875, [(1, 0, 1, ([(0, (1, 0)), (1, (0, 6)), (2, (0, 7))], [], [(0, .inl (4, [(1, 1), (4, 10), (0, 8), (0, 9)]))], [], [], [ckTop, (0, 3), (0, 1), ckTop], [], [], [(0, 8, 0)], [], 0, 0))])])]
noncomputable def k197_c : List (Nat × ckCtr) := [(14, k186), (17, k195), (24, k186), (33, k186), (36, k195), (39, k196)]
theorem k197_ok (l : Launch) : ckCtrOk l ckMT ckTW ckCL k197 := mt_162 (as := k197_a) (cs := k197_c) (gx := []) (f := 200000) rfl (ckHc (k186_ok l) (ckHc (k195_ok l) (ckHc (k186_ok l) (ckHc (k186_ok l) (ckHc (k195_ok l) (ckHc (k196_ok l) (fun _ h => absurd h List.not_mem_nil))))))) True.intro (by decide +kernel)
-- FarMachine$RuleReader.readUnit
noncomputable def k198 : ckCtr := (161, ([(0, (1, 0))], [], dC342, [(0, 1), ckTop, (0, 30), (30, 30)], [([(30, ckTop)], [], [])], [], [], [], 0, 0), [([], [(0, 4)], [(0, .inl (4, [(1, 1), (4, 10), (0, 5), (0, 6)]))], [], [], [ckTop, (0, 1), ckTop], [], [], [(0, 5, 0)], [], 0, 0)], 5, 171, 0, 0)
noncomputable def k198_a : ckAs := []
noncomputable def k198_c : List (Nat × ckCtr) := [(3, k186), (11, k194), (43, k186), (59, k197), (74, k197)]
theorem k198_ok (l : Launch) : ckCtrOk l ckMT ckTW ckCL k198 := mt_161 (as := k198_a) (cs := k198_c) (gx := []) (f := 200000) rfl (ckHc (k186_ok l) (ckHc (k194_ok l) (ckHc (k186_ok l) (ckHc (k197_ok l) (ckHc (k197_ok l) (fun _ h => absurd h List.not_mem_nil)))))) True.intro (by decide +kernel)
noncomputable def dC343 : List ckC := [.inl (5, [(4, 10), (4, 11), (4, 12), (4, 13), (1, 1), (0, 1)]), .inr (0, 2, 0)]
-- FarMachine$Rules.sizeOf
noncomputable def k199 : ckCtr := (168, ([(0, (1, 0)), (1, (0, 0))], [], dC343, [ckTop, (0, 9), (10, 10)], [([(10, ckTop)], [], [])], [], [], [], 0, 0), [([], [(0, 3)], [], [], [(0, (0, 9))], [ckTop], [], [], [], [], 0, 0), ([], [(0, 3)], [], [], [], [(0, 0)], [], [], [], [], 0, 0)], 1, 80, 0, 0)
noncomputable def k199_a : ckAs := []
noncomputable def k199_c : List (Nat × ckCtr) := []
theorem k199_ok (l : Launch) : ckCtrOk l ckMT ckTW ckCL k199 := mt_168 (as := k199_a) (cs := k199_c) (gx := []) (f := 200000) rfl (fun _ h => absurd h List.not_mem_nil) True.intro (by decide +kernel)
noncomputable def dC344 : List ckC := [.inl (5, [(1, 1), (1, 2), (1, 3), (1, 4), (1, 5), (0, 4)]), .inr (0, 5, 0), .inr (0, 5, 1), .inr (0, 5, 2), .inr (0, 5, 3), .inr (0, 6, 4)]
noncomputable def dG345 : List ckG := [([(70, ckTop)], [], []), ([(70, ckTop)], [], []), ([(70, ckTop)], [], []), ([(70, ckTop)], [], []), ([(10, ckTop)], [], [])]
noncomputable def dP346 : List (Nat × ckC) := [(1, .inr (0, 5, 5)), (2, .inr (0, 5, 6)), (3, .inr (0, 5, 7)), (4, .inr (0, 5, 8)), (5, .inr (0, 6, 9))]
-- FarMachine$Rules.addTest
noncomputable def k200 : ckCtr := (170, ([(0, (1, 0)), (1, (0, 0)), (2, (0, 1)), (3, (0, 2)), (4, (0, 3))], [], dC344, [ckTop, ckTop, ckTop, ckTop, (0, 9), (70, 70), (10, 10)], dG345, [], [], [], 0, 0), [([], [], dP346, [], [], [], dG345, [], [], [], 0, 0)], 2, 101, 0, 0)
noncomputable def k200_a : ckAs := []
noncomputable def k200_c : List (Nat × ckCtr) := [(5, k199)]
theorem k200_ok (l : Launch) : ckCtrOk l ckMT ckTW ckCL k200 := mt_170 (as := k200_a) (cs := k200_c) (gx := []) (f := 200000) rfl (ckHc (k199_ok l) (fun _ h => absurd h List.not_mem_nil)) True.intro (by decide +kernel)
noncomputable def dC347 : List ckC := [.inl (4, [(1, 1), (1, 2), (0, 0), (0, 1)]), .inl (0, [(1, 3), (0, 2)]), .inl (5, [(1, 4), (1, 5), (1, 6), (1, 7), (1, 8), (0, 3)]), .inr (0, 4, 0), .inr (0, 5, 1), .inr (0, 5, 2), .inr (0, 5, 3), .inr (0, 5, 4), .inr (0, 6, 5)]
noncomputable def dT348 : List ckI := [(0, 1), ckTop, (0, 30), (0, 9), (30, 30), (70, 70), (10, 10)]
noncomputable def dG349 : List ckG := [([(30, ckTop)], [], []), ([(70, ckTop)], [], []), ([(70, ckTop)], [], []), ([(70, ckTop)], [], []), ([(70, ckTop)], [], []), ([(10, ckTop)], [], [])]
noncomputable def dP350 : List (Nat × ckC) := [(0, .inl (4, [(1, 1), (1, 2), (0, 7), (0, 8)])), (4, .inr (0, 5, 6)), (5, .inr (0, 5, 7)), (6, .inr (0, 5, 8)), (7, .inr (0, 5, 9)), (8, .inr (0, 6, 10))]
-- FarMachine$RuleReader.readTest
noncomputable def k201 : ckCtr := (160, ([(0, (1, 0))], [], dC347, dT348, dG349, [], [], [], 0, 0), [([], [], dP350, [], [(2, (1, 30))], [(0, 1), ckTop], dG345, [], [(0, 7, 0)], [], 0, 0), ([], [], dP350, [], [], [(0, 1), ckTop], dG345, [], [(0, 7, 0)], [], 0, 0)], 6, 192, 0, 0)
noncomputable def k201_a : ckAs := [(4, [(554439, [(1, 0, 1, ([(0, (1, 0)), (1, (0, 9)), (2, (0, 10))], [], [(0, .inl (4, [(1, 1), (1, 2), (0, 0), (0, 11)]))], [], [], [(0, 1), (0, 30), ckTop], [], [], [(9, 2, 0), (9, 10, 0), (10, 2, 0)], [], 0, 0))])])]
noncomputable def k201_c : List (Nat × ckCtr) := [(16, k186), (45, k198), (50, k186), (78, k196), (82, k198), (103, k200)]
theorem k201_ok (l : Launch) : ckCtrOk l ckMT ckTW ckCL k201 := mt_160 (as := k201_a) (cs := k201_c) (gx := []) (f := 200000) rfl (ckHc (k186_ok l) (ckHc (k198_ok l) (ckHc (k186_ok l) (ckHc (k196_ok l) (ckHc (k198_ok l) (ckHc (k200_ok l) (fun _ h => absurd h List.not_mem_nil))))))) True.intro (by decide +kernel)
noncomputable def dC351 : List ckC := [.inl (5, [(4, 10), (4, 11), (4, 12), (4, 13), (4, 14), (0, 0)])]
noncomputable def dP352 : List (Nat × ckC) := [(0, .inl (5, [(4, 10), (4, 11), (4, 12), (4, 13), (4, 14), (0, 1)]))]
-- FarMachine$Rules.finish
noncomputable def k202 : ckCtr := (171, ([(0, (1, 0))], [], dC351, [(0, 9)], [], [], [], [], 0, 0), [([], [], dP352, [], [], [(1, 10)], [], [], [(0, 1, (-1)), (1, 0, 1)], [], 0, 0)], 1, 80, 0, 0)
noncomputable def k202_a : ckAs := []
noncomputable def k202_c : List (Nat × ckCtr) := []
theorem k202_ok (l : Launch) : ckCtrOk l ckMT ckTW ckCL k202 := mt_171 (as := k202_a) (cs := k202_c) (gx := []) (f := 200000) rfl (fun _ h => absurd h List.not_mem_nil) True.intro (by decide +kernel)
noncomputable def dP353 : List (Nat × ckC) := [(0, .inl (4, [(1, 1), (1, 2), (0, 8), (0, 9)])), (4, .inr (0, 5, 6)), (5, .inr (0, 5, 7)), (6, .inr (0, 5, 8)), (7, .inr (0, 5, 9)), (8, .inr (0, 6, 10))]
noncomputable def dP354 : List (Nat × ckC) := [(0, .inl (4, [(1, 1), (1, 2), (0, 8), (0, 9)])), (2, .inl (5, [(1, 4), (1, 5), (1, 6), (1, 7), (1, 8), (0, 10)])), (4, .inr (0, 5, 6)), (5, .inr (0, 5, 7)), (6, .inr (0, 5, 8)), (7, .inr (0, 5, 9)), (8, .inr (0, 6, 10))]
noncomputable def dP355 : List (Nat × ckC) := [(0, .inl (4, [(1, 1), (1, 2), (0, 11), (0, 12)])), (4, .inr (0, 5, 7)), (5, .inr (0, 5, 8)), (6, .inr (0, 5, 9)), (7, .inr (0, 5, 10)), (8, .inr (0, 6, 11))]
-- FarMachine$RuleReader.readRule
noncomputable def k203 : ckCtr := (159, ([(0, (1, 0))], [], dC347, dT348, dG349, [], [], [], 0, 0), [([], [(0, 7)], dP353, [], [], [(0, 0), (1, 1), ckTop], dG345, [], [], [], 0, 0), ([], [(0, 7)], dP354, [], [(0, (0, 0))], [(1, 1), (0, 0), ckTop, (1, 10)], dG345, [], [(3, 10, (-1)), (10, 3, 1)], [], 0, 0)], 7, 216, 0, 0)
noncomputable def k203_a : ckAs := [(11, [(597161, [(1, 0, 1, ([(0, (1, 0)), (1, (0, 9)), (2, (0, 10))], [], dP355, [], [], [(0, 1), (0, 31), (0, 1), ckTop], dG345, [], [(0, 9, 0), (0, 11, 0), (10, 2, 1)], [], 0, 0))])])]
noncomputable def k203_c : List (Nat × ckCtr) := [(4, k184), (34, k201), (45, k186), (64, k186), (77, k196), (97, k202)]
theorem k203_ok (l : Launch) : ckCtrOk l ckMT ckTW ckCL k203 := mt_159 (as := k203_a) (cs := k203_c) (gx := []) (f := 200000) rfl (ckHc (k184_ok l) (ckHc (k201_ok l) (ckHc (k186_ok l) (ckHc (k186_ok l) (ckHc (k196_ok l) (ckHc (k202_ok l) (fun _ h => absurd h List.not_mem_nil))))))) True.intro (by decide +kernel)
noncomputable def dC356 : List ckC := [.inl (8, [(1, 1), (4, 10), (0, 0), (4, 11), (1, 2), (4, 12), (4, 13), (1, 3)]), .inl (7, [(4, 14), (4, 15), (0, 1), (4, 16), (4, 17), (4, 18), (4, 19), (1, 4), (4, 20), (4, 21)]), .inl (0, [(1, 5), (0, 2)]), .inr (0, 3, 0), .inl (5, [(1, 6), (1, 7), (1, 8), (1, 9), (1, 10), (0, 4)]), .inr (0, 5, 1), .inr (0, 6, 2), .inr (0, 6, 3), .inr (0, 6, 4), .inr (0, 6, 5), .inr (0, 7, 6)]
noncomputable def dT357 : List ckI := [(0, 1), (0, 1), (0, 30), (7, 7), (0, 10), (30, 30), (70, 70), (10, 10)]
noncomputable def dG358 : List ckG := [([(7, ckTop)], [], []), ([(30, ckTop)], [], []), ([(70, ckTop)], [], []), ([(70, ckTop)], [], []), ([(70, ckTop)], [], []), ([(70, ckTop)], [], []), ([(10, ckTop)], [], [])]
noncomputable def dP359 : List (Nat × ckC) := [(2, .inl (0, [(1, 5), (0, 9)])), (3, .inr (0, 3, 7)), (4, .inl (5, [(1, 6), (1, 7), (1, 8), (1, 9), (1, 10), (0, 10)])), (6, .inr (0, 6, 8)), (7, .inr (0, 6, 9)), (8, .inr (0, 6, 10)), (9, .inr (0, 6, 11)), (10, .inr (0, 7, 12))]
noncomputable def dG360 : List ckG := [([(6, ckTop), (7, ckTop)], [], []), ([(70, ckTop)], [], []), ([(70, ckTop)], [], []), ([(70, ckTop)], [], []), ([(70, ckTop)], [], []), ([(10, ckTop)], [], [])]
noncomputable def dZ361 : List ckZ := [(4, 10, 0), (9, 2, 0), (9, 4, 20), (9, 10, 20), (10, 4, 1)]
-- FarMachine.rule
noncomputable def k204 : ckCtr := (18, ([(0, (1, 0))], [], dC356, dT357, dG358, [], [], [], 0, 0), [([], [(0, 8)], dP359, [], [], [ckTop, (0, 30), (0, 10)], dG360, [], dZ361, [], 1, 4)], 8, 238, 1, 4)
noncomputable def k204_a : ckAs := []
noncomputable def k204_c : List (Nat × ckCtr) := [(18, k16), (37, k183), (42, k203)]
theorem k204_ok (l : Launch) : ckCtrOk l ckMT ckTW ckCL k204 := mt_18 (as := k204_a) (cs := k204_c) (gx := []) (f := 200000) rfl (ckHc (k16_ok l) (ckHc (k183_ok l) (ckHc (k203_ok l) (fun _ h => absurd h List.not_mem_nil)))) True.intro (by decide +kernel)
noncomputable def dC362 : List ckC := [.inl (9, [(4, 10), (4, 11), (4, 12), (4, 13), (4, 14), (4, 15), (4, 16), (4, 17), (4, 18), (4, 19), (4, 20), (4, 21), (4, 22), (4, 23), (4, 24), (4, 25), (0, 0), (0, 1), (0, 2), (0, 3), (0, 4), (0, 5), (0, 6), (4, 26), (0, 7), (4, 27), (0, 8), (0, 9), (0, 10), (0, 11), (1, 1), (0, 12), (0, 13), (0, 14), (0, 15), (1, 1), (4, 11), (0, 16), (4, 28), (4, 29), (0, 17), (0, 18)]), .inr (0, 19, 0)]
noncomputable def dT363 : List ckI := [(0, 1), (0, 1), ckTop, ckTop, ckTop, ckTop, ckTop, ckTop, ckTop, ckTop, ckTop, ckTop, ckTop, (0, 30), (0, 0), (0, 30), (0, 1), ckTop, (0, 1), (30, 30)]
-- FarMachineModel.sign
noncomputable def k205 : ckCtr := (83, ([(0, (1, 0))], [], dC362, dT363, [([(30, ckTop)], [], [])], [], [], [], 0, 0), [([], [(0, 20)], [], [], [], [(-1, -1)], [], [], [(15, 13, 0)], [], 0, 0), ([], [(0, 20)], [], [], [(13, (0, 29)), (15, (1, 30))], [ckTop], [], [], [(13, 15, (-1))], [], 0, 0)], 1, 80, 0, 0)
noncomputable def k205_a : ckAs := []
noncomputable def k205_c : List (Nat × ckCtr) := []
theorem k205_ok (l : Launch) : ckCtrOk l ckMT ckTW ckCL k205 := mt_83 (as := k205_a) (cs := k205_c) (gx := []) (f := 200000) rfl (fun _ h => absurd h List.not_mem_nil) True.intro (by decide +kernel)
noncomputable def dC364 : List ckC := [.inl (9, [(4, 10), (4, 11), (4, 12), (4, 13), (4, 14), (4, 15), (4, 16), (4, 17), (4, 18), (4, 19), (4, 20), (4, 21), (4, 22), (4, 23), (4, 24), (4, 25), (0, 1), (0, 2), (0, 3), (0, 4), (0, 5), (0, 6), (0, 7), (4, 26), (0, 8), (4, 27), (0, 9), (0, 10), (0, 11), (0, 12), (1, 1), (0, 13), (0, 14), (0, 15), (0, 16), (1, 1), (4, 11), (0, 17), (4, 28), (4, 29), (0, 18), (0, 19)]), .inr (0, 20, 0)]
noncomputable def dT365 : List ckI := [(33, 33), (0, 1), (0, 1), ckTop, ckTop, ckTop, ckTop, ckTop, ckTop, ckTop, ckTop, ckTop, ckTop, ckTop, (0, 30), (0, 0), (0, 30), (0, 1), ckTop, (0, 1), (30, 30)]
noncomputable def dP366 : List (Nat × ckC) := [(0, .inl (9, [(4, 10), (4, 11), (4, 12), (4, 13), (4, 14), (4, 15), (4, 16), (4, 17), (4, 18), (4, 19), (4, 20), (4, 21), (4, 22), (4, 23), (4, 24), (4, 25), (0, 1), (0, 2), (0, 3), (0, 4), (0, 5), (0, 6), (0, 7), (4, 26), (0, 8), (4, 27), (0, 9), (0, 10), (0, 11), (0, 12), (1, 1), (0, 13), (0, 22), (0, 15), (0, 16), (1, 1), (4, 11), (0, 17), (4, 28), (4, 29), (0, 18), (0, 19)]))]
-- FarMachineModel.takes
noncomputable def k206 : ckCtr := (84, ([(0, (1, 0)), (1, (0, 0))], [], dC364, dT365, [([(30, ckTop)], [], [])], [], [], [], 0, 0), [([], [(0, 15)], [], [], [], [], [], [], [], [], 0, 0), ([], [(0, 21)], dP366, [], [(14, (0, 29)), (16, (1, 30)), (17, (1, 1))], [(1, 1), (1, 30)], [], [], [(14, 16, (-1)), (14, 22, (-1)), (22, 14, 1), (22, 16, 0)], [], 0, 0)], 2, 100, 0, 0)
noncomputable def k206_a : ckAs := []
noncomputable def k206_c : List (Nat × ckCtr) := [(8, k205)]
theorem k206_ok (l : Launch) : ckCtrOk l ckMT ckTW ckCL k206 := mt_84 (as := k206_a) (cs := k206_c) (gx := []) (f := 200000) rfl (ckHc (k205_ok l) (fun _ h => absurd h List.not_mem_nil)) True.intro (by decide +kernel)
-- FarMachineModel.isDigit
noncomputable def k207 : ckCtr := (87, ([(0, (0, 0))], [], [], [ckTop], [], [], [], [], 0, 0), [([], [(0, 1)], [], [], [(0, (48, 57))], [(1, 1)], [], [], [], [], 0, 0), ([], [(0, 1)], [], [], [], [(0, 0)], [], [], [], [], 0, 0)], 1, 80, 0, 0)
noncomputable def k207_a : ckAs := []
noncomputable def k207_c : List (Nat × ckCtr) := []
theorem k207_ok (l : Launch) : ckCtrOk l ckMT ckTW ckCL k207 := mt_87 (as := k207_a) (cs := k207_c) (gx := []) (f := 200000) rfl (fun _ h => absurd h List.not_mem_nil) True.intro (by decide +kernel)
noncomputable def dC367 : List ckC := [.inl (9, [(4, 10), (1, 1), (4, 11), (4, 12), (4, 13), (4, 14), (4, 15), (4, 16), (4, 17), (4, 18), (4, 19), (4, 20), (4, 21), (4, 22), (4, 23), (4, 24), (0, 1), (0, 2), (0, 3), (0, 4), (0, 5), (0, 6), (0, 7), (4, 25), (0, 8), (4, 26), (0, 9), (0, 10), (0, 11), (0, 12), (4, 27), (0, 13), (0, 14), (0, 15), (0, 16), (4, 27), (1, 1), (0, 17), (4, 28), (4, 29), (0, 18), (0, 19)]), .inr (0, 20, 0)]
noncomputable def dT368 : List ckI := [(-1, -1), (0, 1), (0, 1), ckTop, ckTop, ckTop, ckTop, ckTop, ckTop, ckTop, ckTop, ckTop, ckTop, ckTop, (0, 30), (0, 0), (0, 30), (0, 1), ckTop, (0, 1), (318, 318)]
noncomputable def dG369 : List ckG := [([(48, ckTop), (49, (0, 47)), (55, ckTop), (56, ckTop), (58, ckTop), (59, ckTop), (76, ckTop), (77, (0, 30)), (197, ckTop), (198, (0, 60)), (318, ckTop)], [], [])]
noncomputable def dP370 : List (Nat × ckC) := [(0, .inl (9, [(4, 10), (1, 1), (4, 11), (4, 12), (4, 13), (4, 14), (4, 15), (4, 16), (4, 17), (4, 18), (4, 19), (4, 20), (4, 21), (4, 22), (4, 23), (4, 24), (0, 1), (0, 2), (0, 3), (0, 4), (0, 5), (0, 6), (0, 7), (4, 25), (0, 8), (4, 26), (0, 9), (0, 10), (0, 11), (0, 12), (4, 27), (0, 13), (0, 21), (0, 15), (0, 16), (4, 27), (1, 1), (0, 15), (4, 28), (4, 29), (0, 18), (0, 19)]))]
-- FarMachineModel.letter
noncomputable def k208 : ckCtr := (89, ([(0, (1, 0)), (1, (0, 0))], [], dC367, dT368, dG369, [], [], [(1, 0, 0, 0, [])], 0, 0), [([], [(0, 15)], dP370, [], [], [(0, 30)], [], [], [(14, 21, 0), (21, 14, 0)], [(1, 0, 0, 0, [])], 0, 0)], 1, 80, 0, 0)
noncomputable def k208_a : ckAs := []
noncomputable def k208_c : List (Nat × ckCtr) := []
theorem k208_ok (l : Launch) : ckCtrOk l ckMT ckTW ckCL k208 := mt_89 (as := k208_a) (cs := k208_c) (gx := []) (f := 200000) rfl (fun _ h => absurd h List.not_mem_nil) True.intro (by decide +kernel)
-- FarMachineModel.power
noncomputable def k209 : ckCtr := (50, ([(0, (1, 0))], [], [.inr (0, 0, 0)], [(318, 318)], dG369, [], [], [(1, 0, 0, 0, [])], 0, 0), [([], [(0, 1)], [], [], [], [ckTop], [], [], [], [(1, 0, 0, 0, [])], 0, 0)], 2, 100, 0, 0)
noncomputable def k209_a : ckAs := [(4, [(156723, [(1, 0, 1, ([(0, (1, 0)), (1, (0, 3)), (2, (0, 4))], [], [], [], [], [ckTop, (0, 8)], [], [], [], [(1, 0, 0, 0, [])], 0, 0))])])]
noncomputable def k209_c : List (Nat × ckCtr) := [(23, k52)]
theorem k209_ok (l : Launch) : ckCtrOk l ckMT ckTW ckCL k209 := mt_50 (as := k209_a) (cs := k209_c) (gx := []) (f := 200000) rfl (ckHc (k52_ok l) (fun _ h => absurd h List.not_mem_nil)) True.intro (by decide +kernel)
-- FarMachineModel.ons
noncomputable def k210 : ckCtr := (52, ([(0, (1, 0))], [], [.inr (0, 0, 0)], [(318, 318)], dG369, [], [], [(1, 0, 0, 0, [])], 0, 0), [([], [(0, 1)], [], [], [], [ckTop], [], [], [], [(1, 0, 0, 0, [])], 0, 0)], 1, 80, 0, 0)
noncomputable def k210_a : ckAs := [(4, [(156723, [(1, 0, 1, ([(0, (1, 0)), (1, (0, 3)), (2, (0, 4))], [], [], [], [], [ckTop, (0, 8)], [], [], [], [(1, 0, 0, 0, [])], 0, 0))])])]
noncomputable def k210_c : List (Nat × ckCtr) := []
theorem k210_ok (l : Launch) : ckCtrOk l ckMT ckTW ckCL k210 := mt_52 (as := k210_a) (cs := k210_c) (gx := []) (f := 200000) rfl (fun _ h => absurd h List.not_mem_nil) True.intro (by decide +kernel)
noncomputable def dT371 : List ckI := [ckTop, (0, 1), (0, 1), ckTop, ckTop, ckTop, ckTop, ckTop, ckTop, ckTop, ckTop, ckTop, ckTop, ckTop, (0, 29), (0, 0), (0, 30), (0, 1), ckTop, (0, 1), (318, 318)]
noncomputable def dP372 : List (Nat × ckC) := [(0, .inl (9, [(4, 10), (1, 1), (4, 11), (4, 12), (4, 13), (4, 14), (4, 15), (4, 16), (4, 17), (4, 18), (4, 19), (4, 20), (4, 21), (4, 22), (4, 23), (4, 24), (0, 1), (0, 2), (0, 3), (0, 4), (0, 5), (0, 6), (0, 7), (4, 25), (0, 8), (4, 26), (0, 9), (0, 10), (0, 11), (0, 12), (4, 27), (0, 13), (0, 22), (0, 15), (0, 16), (4, 27), (1, 1), (0, 23), (4, 28), (4, 29), (0, 18), (0, 19)]))]
-- FarMachineModel.letter
noncomputable def k211 : ckCtr := (89, ([(0, (1, 0)), (1, (0, 0))], [], dC367, dT371, dG369, [], [], [(1, 0, 0, 0, [])], 0, 0), [([], [(0, 21)], dP372, [], [], [ckTop, (0, 30), (0, 1)], [], [], [(14, 22, 0), (22, 14, 1), (23, 17, 0), (23, 22, 0)], [(1, 0, 0, 0, [])], 0, 0)], 3, 122, 0, 0)
noncomputable def k211_a : ckAs := []
noncomputable def k211_c : List (Nat × ckCtr) := [(171, k209), (179, k210), (182, k64)]
theorem k211_ok (l : Launch) : ckCtrOk l ckMT ckTW ckCL k211 := mt_89 (as := k211_a) (cs := k211_c) (gx := []) (f := 200000) rfl (ckHc (k209_ok l) (ckHc (k210_ok l) (ckHc (k64_ok l) (fun _ h => absurd h List.not_mem_nil)))) True.intro (by decide +kernel)
noncomputable def dT373 : List ckI := [(0, 1), (0, 1), ckTop, ckTop, ckTop, ckTop, ckTop, ckTop, ckTop, ckTop, ckTop, ckTop, ckTop, (0, 29), (0, 0), (0, 30), (0, 1), ckTop, (0, 1), (30, 30)]
-- FarMachineModel.sign
noncomputable def k212 : ckCtr := (83, ([(0, (1, 0))], [], dC362, dT373, [([(30, ckTop)], [], [])], [], [], [], 0, 0), [([], [(0, 20)], [], [], [(15, (0, 29))], [(-1, -1)], [], [], [(15, 13, 0)], [], 0, 0), ([], [(0, 20)], [], [], [(15, (1, 30))], [ckTop], [], [], [(13, 15, (-1))], [], 0, 0)], 1, 80, 0, 0)
noncomputable def k212_a : ckAs := []
noncomputable def k212_c : List (Nat × ckCtr) := []
theorem k212_ok (l : Launch) : ckCtrOk l ckMT ckTW ckCL k212 := mt_83 (as := k212_a) (cs := k212_c) (gx := []) (f := 200000) rfl (fun _ h => absurd h List.not_mem_nil) True.intro (by decide +kernel)
noncomputable def dC374 : List ckC := [.inl (9, [(4, 10), (1, 1), (4, 11), (4, 12), (4, 13), (4, 14), (4, 15), (4, 16), (4, 17), (4, 18), (4, 19), (4, 20), (4, 21), (4, 22), (4, 23), (4, 24), (0, 0), (0, 1), (0, 2), (0, 3), (0, 4), (0, 5), (0, 6), (4, 25), (0, 7), (4, 26), (0, 8), (0, 9), (0, 10), (0, 11), (1, 2), (0, 12), (0, 13), (0, 14), (0, 15), (1, 2), (1, 1), (0, 16), (4, 27), (4, 28), (0, 17), (0, 18)]), .inr (0, 19, 0), .inr (0, 20, 1)]
noncomputable def dT375 : List ckI := [(0, 1), (0, 1), ckTop, ckTop, ckTop, ckTop, ckTop, ckTop, ckTop, ckTop, ckTop, ckTop, ckTop, (0, 30), (0, 0), (0, 30), (0, 1), ckTop, (0, 1), (318, 318), (30, 30)]
noncomputable def dG376 : List ckG := [([(48, ckTop), (49, (0, 47)), (55, ckTop), (56, ckTop), (58, ckTop), (59, ckTop), (76, ckTop), (77, (0, 30)), (197, ckTop), (198, (0, 60)), (318, ckTop)], [], []), ([(30, ckTop)], [], [])]
noncomputable def dP377 : List (Nat × ckC) := [(0, .inl (9, [(4, 10), (1, 1), (4, 11), (4, 12), (4, 13), (4, 14), (4, 15), (4, 16), (4, 17), (4, 18), (4, 19), (4, 20), (4, 21), (4, 22), (4, 23), (4, 24), (0, 0), (0, 1), (0, 2), (0, 3), (0, 4), (0, 5), (0, 6), (4, 25), (0, 7), (4, 26), (0, 8), (0, 9), (0, 10), (0, 11), (1, 2), (0, 12), (0, 22), (0, 14), (0, 15), (1, 2), (1, 1), (0, 23), (4, 27), (4, 28), (0, 17), (0, 18)]))]
noncomputable def dP378 : List (Nat × ckC) := [(0, .inl (9, [(4, 10), (1, 1), (4, 11), (4, 12), (4, 13), (4, 14), (4, 15), (4, 16), (4, 17), (4, 18), (4, 19), (4, 20), (4, 21), (4, 22), (4, 23), (4, 24), (0, 0), (0, 1), (0, 2), (0, 3), (0, 4), (0, 5), (0, 6), (4, 25), (0, 7), (4, 26), (0, 8), (0, 9), (0, 10), (0, 11), (1, 2), (0, 12), (0, 29), (0, 14), (0, 15), (1, 2), (1, 1), (0, 16), (4, 27), (4, 28), (0, 17), (0, 18)]))]
noncomputable def dZ379 : List ckZ := [(13, 15, (-1)), (13, 29, 0), (28, 15, 0), (28, 29, 0), (29, 15, 0), (29, 28, 29)]
noncomputable def dP380 : List (Nat × ckC) := [(0, .inl (9, [(4, 10), (1, 1), (4, 11), (4, 12), (4, 13), (4, 14), (4, 15), (4, 16), (4, 17), (4, 18), (4, 19), (4, 20), (4, 21), (4, 22), (4, 23), (4, 24), (0, 0), (0, 1), (0, 2), (0, 3), (0, 4), (0, 5), (0, 6), (4, 25), (0, 7), (4, 26), (0, 8), (0, 9), (0, 10), (0, 11), (1, 2), (0, 12), (0, 30), (0, 14), (0, 15), (1, 2), (1, 1), (0, 16), (4, 27), (4, 28), (0, 17), (0, 18)]))]
noncomputable def dZ381 : List ckZ := [(13, 15, (-1)), (13, 25, (-1)), (13, 30, (-1)), (25, 13, 1), (25, 15, 0), (25, 30, 0), (29, 15, (-1)), (29, 30, (-1)), (30, 15, 0)]
-- FarMachineModel.unit
noncomputable def k213 : ckCtr := (88, ([(0, (1, 0))], [], dC374, dT375, dG376, [], [], [(1, 0, 0, 0, [])], 0, 0), [([], [(0, 21)], dP377, [], [], [ckTop, (0, 30), (0, 1)], [], [], [(13, 22, 0), (23, 15, 0), (23, 16, 0), (23, 22, 0)], [(1, 0, 0, 0, [])], 0, 0)], 4, 143, 0, 0)
noncomputable def k213_a : ckAs := [(53, [(480548, [(1, 0, 1, ([(0, (1, 0)), (1, (0, 21)), (2, (0, 27)), (3, (0, 28))], [], dP378, [], [], [ckTop, (0, 3), (0, 30)], [], [], dZ379, [(1, 0, 0, 0, [])], 0, 0))]), (89035, [(1, 0, 1, ([(0, (1, 0)), (1, (0, 21)), (2, (0, 28)), (3, (0, 29))], [], dP380, [], [], [ckTop, (0, 3), (1, 30)], [], [], dZ381, [(1, 0, 0, 0, [])], 0, 0))])])]
noncomputable def k213_c : List (Nat × ckCtr) := [(10, k205), (21, k207), (29, k208), (29, k211), (59, k205), (62, k207), (73, k212)]
theorem k213_ok (l : Launch) : ckCtrOk l ckMT ckTW ckCL k213 := mt_88 (as := k213_a) (cs := k213_c) (gx := []) (f := 200000) rfl (ckHc (k205_ok l) (ckHc (k207_ok l) (ckHc (k208_ok l) (ckHc (k211_ok l) (ckHc (k205_ok l) (ckHc (k207_ok l) (ckHc (k212_ok l) (fun _ h => absurd h List.not_mem_nil)))))))) True.intro (by decide +kernel)
noncomputable def dT382 : List ckI := [(0, 1), (0, 1), ckTop, ckTop, ckTop, ckTop, ckTop, ckTop, ckTop, ckTop, ckTop, ckTop, ckTop, (30, 30), (0, 0), (0, 30), (0, 1), ckTop, (0, 1), (318, 318), (30, 30)]
noncomputable def dP383 : List (Nat × ckC) := [(0, .inl (9, [(4, 10), (1, 1), (4, 11), (4, 12), (4, 13), (4, 14), (4, 15), (4, 16), (4, 17), (4, 18), (4, 19), (4, 20), (4, 21), (4, 22), (4, 23), (4, 24), (0, 0), (0, 1), (0, 2), (0, 3), (0, 4), (0, 5), (0, 6), (4, 25), (0, 7), (4, 26), (0, 8), (0, 9), (0, 10), (0, 11), (1, 2), (0, 12), (0, 13), (0, 14), (0, 15), (1, 2), (1, 1), (0, 14), (4, 27), (4, 28), (0, 17), (0, 18)]))]
-- FarMachineModel.test
noncomputable def k214 : ckCtr := (86, ([(0, (1, 0))], [], dC374, dT382, dG376, [], [], [(1, 0, 0, 0, [])], 0, 0), [([], [(0, 14)], dP383, [], [], [], [], [], [], [(1, 0, 0, 0, [])], 0, 0)], 5, 166, 0, 0)
noncomputable def k214_a : ckAs := []
noncomputable def k214_c : List (Nat × ckCtr) := [(3, k206), (23, k213), (28, k205)]
theorem k214_ok (l : Launch) : ckCtrOk l ckMT ckTW ckCL k214 := mt_86 (as := k214_a) (cs := k214_c) (gx := []) (f := 200000) rfl (ckHc (k206_ok l) (ckHc (k213_ok l) (ckHc (k205_ok l) (fun _ h => absurd h List.not_mem_nil)))) True.intro (by decide +kernel)
noncomputable def dT384 : List ckI := [(0, 1), (0, 1), ckTop, ckTop, ckTop, ckTop, ckTop, ckTop, ckTop, ckTop, ckTop, ckTop, ckTop, (29, 30), (0, 0), (0, 30), (0, 1), ckTop, (0, 1), (318, 318), (30, 30)]
noncomputable def dZ385 : List ckZ := [(13, 22, 0), (21, 15, 0), (21, 16, 0), (21, 22, (-29)), (23, 15, 0), (23, 16, 0), (23, 22, (-29))]
-- FarMachineModel.test
noncomputable def k215 : ckCtr := (86, ([(0, (1, 0))], [], dC374, dT384, dG376, [], [], [(1, 0, 0, 0, [])], 0, 0), [([], [(0, 21)], dP377, [], [], [(0, 1), (29, 30), (0, 1)], [], [], dZ385, [(1, 0, 0, 0, [])], 0, 0)], 6, 189, 0, 0)
noncomputable def k215_a : ckAs := []
noncomputable def k215_c : List (Nat × ckCtr) := [(3, k206), (10, k214), (23, k213), (28, k205), (75, k213)]
theorem k215_ok (l : Launch) : ckCtrOk l ckMT ckTW ckCL k215 := mt_86 (as := k215_a) (cs := k215_c) (gx := []) (f := 200000) rfl (ckHc (k206_ok l) (ckHc (k214_ok l) (ckHc (k213_ok l) (ckHc (k205_ok l) (ckHc (k213_ok l) (fun _ h => absurd h List.not_mem_nil)))))) True.intro (by decide +kernel)
noncomputable def dT386 : List ckI := [(0, 1), (0, 1), ckTop, ckTop, ckTop, ckTop, ckTop, ckTop, ckTop, ckTop, ckTop, ckTop, ckTop, (28, 30), (0, 0), (0, 30), (0, 1), ckTop, (0, 1), (318, 318), (30, 30)]
noncomputable def dZ387 : List ckZ := [(13, 22, 0), (21, 15, 0), (21, 16, 0), (21, 22, (-28)), (23, 15, 0), (23, 16, 0), (23, 22, (-28))]
-- FarMachineModel.test
noncomputable def k216 : ckCtr := (86, ([(0, (1, 0))], [], dC374, dT386, dG376, [], [], [(1, 0, 0, 0, [])], 0, 0), [([], [(0, 21)], dP377, [], [], [(0, 1), (28, 30), (0, 1)], [], [], dZ387, [(1, 0, 0, 0, [])], 0, 0)], 7, 212, 0, 0)
noncomputable def k216_a : ckAs := []
noncomputable def k216_c : List (Nat × ckCtr) := [(3, k206), (10, k215), (23, k213), (28, k205), (75, k213)]
theorem k216_ok (l : Launch) : ckCtrOk l ckMT ckTW ckCL k216 := mt_86 (as := k216_a) (cs := k216_c) (gx := []) (f := 200000) rfl (ckHc (k206_ok l) (ckHc (k215_ok l) (ckHc (k213_ok l) (ckHc (k205_ok l) (ckHc (k213_ok l) (fun _ h => absurd h List.not_mem_nil)))))) True.intro (by decide +kernel)
noncomputable def dT388 : List ckI := [(0, 1), (0, 1), ckTop, ckTop, ckTop, ckTop, ckTop, ckTop, ckTop, ckTop, ckTop, ckTop, ckTop, (27, 30), (0, 0), (0, 30), (0, 1), ckTop, (0, 1), (318, 318), (30, 30)]
noncomputable def dZ389 : List ckZ := [(13, 22, 0), (21, 15, 0), (21, 16, 0), (21, 22, (-27)), (23, 15, 0), (23, 16, 0), (23, 22, (-27))]
-- FarMachineModel.test
noncomputable def k217 : ckCtr := (86, ([(0, (1, 0))], [], dC374, dT388, dG376, [], [], [(1, 0, 0, 0, [])], 0, 0), [([], [(0, 21)], dP377, [], [], [(0, 1), (27, 30), (0, 1)], [], [], dZ389, [(1, 0, 0, 0, [])], 0, 0)], 8, 235, 0, 0)
noncomputable def k217_a : ckAs := []
noncomputable def k217_c : List (Nat × ckCtr) := [(3, k206), (10, k216), (23, k213), (28, k205), (75, k213)]
theorem k217_ok (l : Launch) : ckCtrOk l ckMT ckTW ckCL k217 := mt_86 (as := k217_a) (cs := k217_c) (gx := []) (f := 200000) rfl (ckHc (k206_ok l) (ckHc (k216_ok l) (ckHc (k213_ok l) (ckHc (k205_ok l) (ckHc (k213_ok l) (fun _ h => absurd h List.not_mem_nil)))))) True.intro (by decide +kernel)
noncomputable def dT390 : List ckI := [(0, 1), (0, 1), ckTop, ckTop, ckTop, ckTop, ckTop, ckTop, ckTop, ckTop, ckTop, ckTop, ckTop, (26, 30), (0, 0), (0, 30), (0, 1), ckTop, (0, 1), (318, 318), (30, 30)]
noncomputable def dZ391 : List ckZ := [(13, 22, 0), (21, 15, 0), (21, 16, 0), (21, 22, (-26)), (23, 15, 0), (23, 16, 0), (23, 22, (-26))]
-- FarMachineModel.test
noncomputable def k218 : ckCtr := (86, ([(0, (1, 0))], [], dC374, dT390, dG376, [], [], [(1, 0, 0, 0, [])], 0, 0), [([], [(0, 21)], dP377, [], [], [(0, 1), (26, 30), (0, 1)], [], [], dZ391, [(1, 0, 0, 0, [])], 0, 0)], 9, 258, 0, 0)
noncomputable def k218_a : ckAs := []
noncomputable def k218_c : List (Nat × ckCtr) := [(3, k206), (10, k217), (23, k213), (28, k205), (75, k213)]
theorem k218_ok (l : Launch) : ckCtrOk l ckMT ckTW ckCL k218 := mt_86 (as := k218_a) (cs := k218_c) (gx := []) (f := 200000) rfl (ckHc (k206_ok l) (ckHc (k217_ok l) (ckHc (k213_ok l) (ckHc (k205_ok l) (ckHc (k213_ok l) (fun _ h => absurd h List.not_mem_nil)))))) True.intro (by decide +kernel)
noncomputable def dT392 : List ckI := [(0, 1), (0, 1), ckTop, ckTop, ckTop, ckTop, ckTop, ckTop, ckTop, ckTop, ckTop, ckTop, ckTop, (25, 30), (0, 0), (0, 30), (0, 1), ckTop, (0, 1), (318, 318), (30, 30)]
noncomputable def dZ393 : List ckZ := [(13, 22, 0), (21, 15, 0), (21, 16, 0), (21, 22, (-25)), (23, 15, 0), (23, 16, 0), (23, 22, (-25))]
-- FarMachineModel.test
noncomputable def k219 : ckCtr := (86, ([(0, (1, 0))], [], dC374, dT392, dG376, [], [], [(1, 0, 0, 0, [])], 0, 0), [([], [(0, 21)], dP377, [], [], [(0, 1), (25, 30), (0, 1)], [], [], dZ393, [(1, 0, 0, 0, [])], 0, 0)], 10, 281, 0, 0)
noncomputable def k219_a : ckAs := []
noncomputable def k219_c : List (Nat × ckCtr) := [(3, k206), (10, k218), (23, k213), (28, k205), (75, k213)]
theorem k219_ok (l : Launch) : ckCtrOk l ckMT ckTW ckCL k219 := mt_86 (as := k219_a) (cs := k219_c) (gx := []) (f := 200000) rfl (ckHc (k206_ok l) (ckHc (k218_ok l) (ckHc (k213_ok l) (ckHc (k205_ok l) (ckHc (k213_ok l) (fun _ h => absurd h List.not_mem_nil)))))) True.intro (by decide +kernel)
noncomputable def dT394 : List ckI := [(0, 1), (0, 1), ckTop, ckTop, ckTop, ckTop, ckTop, ckTop, ckTop, ckTop, ckTop, ckTop, ckTop, (24, 30), (0, 0), (0, 30), (0, 1), ckTop, (0, 1), (318, 318), (30, 30)]
noncomputable def dZ395 : List ckZ := [(13, 22, 0), (21, 15, 0), (21, 16, 0), (21, 22, (-24)), (23, 15, 0), (23, 16, 0), (23, 22, (-24))]
-- FarMachineModel.test
noncomputable def k220 : ckCtr := (86, ([(0, (1, 0))], [], dC374, dT394, dG376, [], [], [(1, 0, 0, 0, [])], 0, 0), [([], [(0, 21)], dP377, [], [], [(0, 1), (24, 30), (0, 1)], [], [], dZ395, [(1, 0, 0, 0, [])], 0, 0)], 11, 304, 0, 0)
noncomputable def k220_a : ckAs := []
noncomputable def k220_c : List (Nat × ckCtr) := [(3, k206), (10, k219), (23, k213), (28, k205), (75, k213)]
theorem k220_ok (l : Launch) : ckCtrOk l ckMT ckTW ckCL k220 := mt_86 (as := k220_a) (cs := k220_c) (gx := []) (f := 200000) rfl (ckHc (k206_ok l) (ckHc (k219_ok l) (ckHc (k213_ok l) (ckHc (k205_ok l) (ckHc (k213_ok l) (fun _ h => absurd h List.not_mem_nil)))))) True.intro (by decide +kernel)
noncomputable def dT396 : List ckI := [(0, 1), (0, 1), ckTop, ckTop, ckTop, ckTop, ckTop, ckTop, ckTop, ckTop, ckTop, ckTop, ckTop, (23, 30), (0, 0), (0, 30), (0, 1), ckTop, (0, 1), (318, 318), (30, 30)]
noncomputable def dZ397 : List ckZ := [(13, 22, 0), (21, 15, 0), (21, 16, 0), (21, 22, (-23)), (23, 15, 0), (23, 16, 0), (23, 22, (-23))]
-- FarMachineModel.test
noncomputable def k221 : ckCtr := (86, ([(0, (1, 0))], [], dC374, dT396, dG376, [], [], [(1, 0, 0, 0, [])], 0, 0), [([], [(0, 21)], dP377, [], [], [(0, 1), (23, 30), (0, 1)], [], [], dZ397, [(1, 0, 0, 0, [])], 0, 0)], 12, 327, 0, 0)
noncomputable def k221_a : ckAs := []
noncomputable def k221_c : List (Nat × ckCtr) := [(3, k206), (10, k220), (23, k213), (28, k205), (75, k213)]
theorem k221_ok (l : Launch) : ckCtrOk l ckMT ckTW ckCL k221 := mt_86 (as := k221_a) (cs := k221_c) (gx := []) (f := 200000) rfl (ckHc (k206_ok l) (ckHc (k220_ok l) (ckHc (k213_ok l) (ckHc (k205_ok l) (ckHc (k213_ok l) (fun _ h => absurd h List.not_mem_nil)))))) True.intro (by decide +kernel)
noncomputable def dT398 : List ckI := [(0, 1), (0, 1), ckTop, ckTop, ckTop, ckTop, ckTop, ckTop, ckTop, ckTop, ckTop, ckTop, ckTop, (22, 30), (0, 0), (0, 30), (0, 1), ckTop, (0, 1), (318, 318), (30, 30)]
noncomputable def dZ399 : List ckZ := [(13, 22, 0), (21, 15, 0), (21, 16, 0), (21, 22, (-22)), (23, 15, 0), (23, 16, 0), (23, 22, (-22))]
-- FarMachineModel.test
noncomputable def k222 : ckCtr := (86, ([(0, (1, 0))], [], dC374, dT398, dG376, [], [], [(1, 0, 0, 0, [])], 0, 0), [([], [(0, 21)], dP377, [], [], [(0, 1), (22, 30), (0, 1)], [], [], dZ399, [(1, 0, 0, 0, [])], 0, 0)], 13, 350, 0, 0)
noncomputable def k222_a : ckAs := []
noncomputable def k222_c : List (Nat × ckCtr) := [(3, k206), (10, k221), (23, k213), (28, k205), (75, k213)]
theorem k222_ok (l : Launch) : ckCtrOk l ckMT ckTW ckCL k222 := mt_86 (as := k222_a) (cs := k222_c) (gx := []) (f := 200000) rfl (ckHc (k206_ok l) (ckHc (k221_ok l) (ckHc (k213_ok l) (ckHc (k205_ok l) (ckHc (k213_ok l) (fun _ h => absurd h List.not_mem_nil)))))) True.intro (by decide +kernel)
noncomputable def dT400 : List ckI := [(0, 1), (0, 1), ckTop, ckTop, ckTop, ckTop, ckTop, ckTop, ckTop, ckTop, ckTop, ckTop, ckTop, (21, 30), (0, 0), (0, 30), (0, 1), ckTop, (0, 1), (318, 318), (30, 30)]
noncomputable def dZ401 : List ckZ := [(13, 22, 0), (21, 15, 0), (21, 16, 0), (21, 22, (-21)), (23, 15, 0), (23, 16, 0), (23, 22, (-21))]
-- FarMachineModel.test
noncomputable def k223 : ckCtr := (86, ([(0, (1, 0))], [], dC374, dT400, dG376, [], [], [(1, 0, 0, 0, [])], 0, 0), [([], [(0, 21)], dP377, [], [], [(0, 1), (21, 30), (0, 1)], [], [], dZ401, [(1, 0, 0, 0, [])], 0, 0)], 14, 373, 0, 0)
noncomputable def k223_a : ckAs := []
noncomputable def k223_c : List (Nat × ckCtr) := [(3, k206), (10, k222), (23, k213), (28, k205), (75, k213)]
theorem k223_ok (l : Launch) : ckCtrOk l ckMT ckTW ckCL k223 := mt_86 (as := k223_a) (cs := k223_c) (gx := []) (f := 200000) rfl (ckHc (k206_ok l) (ckHc (k222_ok l) (ckHc (k213_ok l) (ckHc (k205_ok l) (ckHc (k213_ok l) (fun _ h => absurd h List.not_mem_nil)))))) True.intro (by decide +kernel)
noncomputable def dT402 : List ckI := [(0, 1), (0, 1), ckTop, ckTop, ckTop, ckTop, ckTop, ckTop, ckTop, ckTop, ckTop, ckTop, ckTop, (20, 30), (0, 0), (0, 30), (0, 1), ckTop, (0, 1), (318, 318), (30, 30)]
noncomputable def dZ403 : List ckZ := [(13, 22, 0), (21, 15, 0), (21, 16, 0), (21, 22, (-20)), (23, 15, 0), (23, 16, 0), (23, 22, (-20))]
-- FarMachineModel.test
noncomputable def k224 : ckCtr := (86, ([(0, (1, 0))], [], dC374, dT402, dG376, [], [], [(1, 0, 0, 0, [])], 0, 0), [([], [(0, 21)], dP377, [], [], [(0, 1), (20, 30), (0, 1)], [], [], dZ403, [(1, 0, 0, 0, [])], 0, 0)], 15, 396, 0, 0)
noncomputable def k224_a : ckAs := []
noncomputable def k224_c : List (Nat × ckCtr) := [(3, k206), (10, k223), (23, k213), (28, k205), (75, k213)]
theorem k224_ok (l : Launch) : ckCtrOk l ckMT ckTW ckCL k224 := mt_86 (as := k224_a) (cs := k224_c) (gx := []) (f := 200000) rfl (ckHc (k206_ok l) (ckHc (k223_ok l) (ckHc (k213_ok l) (ckHc (k205_ok l) (ckHc (k213_ok l) (fun _ h => absurd h List.not_mem_nil)))))) True.intro (by decide +kernel)
noncomputable def dT404 : List ckI := [(0, 1), (0, 1), ckTop, ckTop, ckTop, ckTop, ckTop, ckTop, ckTop, ckTop, ckTop, ckTop, ckTop, (19, 30), (0, 0), (0, 30), (0, 1), ckTop, (0, 1), (318, 318), (30, 30)]
noncomputable def dZ405 : List ckZ := [(13, 22, 0), (21, 15, 0), (21, 16, 0), (21, 22, (-19)), (23, 15, 0), (23, 16, 0), (23, 22, (-19))]
-- FarMachineModel.test
noncomputable def k225 : ckCtr := (86, ([(0, (1, 0))], [], dC374, dT404, dG376, [], [], [(1, 0, 0, 0, [])], 0, 0), [([], [(0, 21)], dP377, [], [], [(0, 1), (19, 30), (0, 1)], [], [], dZ405, [(1, 0, 0, 0, [])], 0, 0)], 16, 419, 0, 0)
noncomputable def k225_a : ckAs := []
noncomputable def k225_c : List (Nat × ckCtr) := [(3, k206), (10, k224), (23, k213), (28, k205), (75, k213)]
theorem k225_ok (l : Launch) : ckCtrOk l ckMT ckTW ckCL k225 := mt_86 (as := k225_a) (cs := k225_c) (gx := []) (f := 200000) rfl (ckHc (k206_ok l) (ckHc (k224_ok l) (ckHc (k213_ok l) (ckHc (k205_ok l) (ckHc (k213_ok l) (fun _ h => absurd h List.not_mem_nil)))))) True.intro (by decide +kernel)
noncomputable def dT406 : List ckI := [(0, 1), (0, 1), ckTop, ckTop, ckTop, ckTop, ckTop, ckTop, ckTop, ckTop, ckTop, ckTop, ckTop, (18, 30), (0, 0), (0, 30), (0, 1), ckTop, (0, 1), (318, 318), (30, 30)]
noncomputable def dZ407 : List ckZ := [(13, 22, 0), (21, 15, 0), (21, 16, 0), (21, 22, (-18)), (23, 15, 0), (23, 16, 0), (23, 22, (-18))]
-- FarMachineModel.test
noncomputable def k226 : ckCtr := (86, ([(0, (1, 0))], [], dC374, dT406, dG376, [], [], [(1, 0, 0, 0, [])], 0, 0), [([], [(0, 21)], dP377, [], [], [(0, 1), (18, 30), (0, 1)], [], [], dZ407, [(1, 0, 0, 0, [])], 0, 0)], 17, 442, 0, 0)
noncomputable def k226_a : ckAs := []
noncomputable def k226_c : List (Nat × ckCtr) := [(3, k206), (10, k225), (23, k213), (28, k205), (75, k213)]
theorem k226_ok (l : Launch) : ckCtrOk l ckMT ckTW ckCL k226 := mt_86 (as := k226_a) (cs := k226_c) (gx := []) (f := 200000) rfl (ckHc (k206_ok l) (ckHc (k225_ok l) (ckHc (k213_ok l) (ckHc (k205_ok l) (ckHc (k213_ok l) (fun _ h => absurd h List.not_mem_nil)))))) True.intro (by decide +kernel)
noncomputable def dT408 : List ckI := [(0, 1), (0, 1), ckTop, ckTop, ckTop, ckTop, ckTop, ckTop, ckTop, ckTop, ckTop, ckTop, ckTop, (17, 30), (0, 0), (0, 30), (0, 1), ckTop, (0, 1), (318, 318), (30, 30)]
noncomputable def dZ409 : List ckZ := [(13, 22, 0), (21, 15, 0), (21, 16, 0), (21, 22, (-17)), (23, 15, 0), (23, 16, 0), (23, 22, (-17))]
-- FarMachineModel.test
noncomputable def k227 : ckCtr := (86, ([(0, (1, 0))], [], dC374, dT408, dG376, [], [], [(1, 0, 0, 0, [])], 0, 0), [([], [(0, 21)], dP377, [], [], [(0, 1), (17, 30), (0, 1)], [], [], dZ409, [(1, 0, 0, 0, [])], 0, 0)], 18, 465, 0, 0)
noncomputable def k227_a : ckAs := []
noncomputable def k227_c : List (Nat × ckCtr) := [(3, k206), (10, k226), (23, k213), (28, k205), (75, k213)]
theorem k227_ok (l : Launch) : ckCtrOk l ckMT ckTW ckCL k227 := mt_86 (as := k227_a) (cs := k227_c) (gx := []) (f := 200000) rfl (ckHc (k206_ok l) (ckHc (k226_ok l) (ckHc (k213_ok l) (ckHc (k205_ok l) (ckHc (k213_ok l) (fun _ h => absurd h List.not_mem_nil)))))) True.intro (by decide +kernel)
noncomputable def dT410 : List ckI := [(0, 1), (0, 1), ckTop, ckTop, ckTop, ckTop, ckTop, ckTop, ckTop, ckTop, ckTop, ckTop, ckTop, (16, 30), (0, 0), (0, 30), (0, 1), ckTop, (0, 1), (318, 318), (30, 30)]
noncomputable def dZ411 : List ckZ := [(13, 22, 0), (21, 15, 0), (21, 16, 0), (21, 22, (-16)), (23, 15, 0), (23, 16, 0), (23, 22, (-16))]
-- FarMachineModel.test
noncomputable def k228 : ckCtr := (86, ([(0, (1, 0))], [], dC374, dT410, dG376, [], [], [(1, 0, 0, 0, [])], 0, 0), [([], [(0, 21)], dP377, [], [], [(0, 1), (16, 30), (0, 1)], [], [], dZ411, [(1, 0, 0, 0, [])], 0, 0)], 19, 488, 0, 0)
noncomputable def k228_a : ckAs := []
noncomputable def k228_c : List (Nat × ckCtr) := [(3, k206), (10, k227), (23, k213), (28, k205), (75, k213)]
theorem k228_ok (l : Launch) : ckCtrOk l ckMT ckTW ckCL k228 := mt_86 (as := k228_a) (cs := k228_c) (gx := []) (f := 200000) rfl (ckHc (k206_ok l) (ckHc (k227_ok l) (ckHc (k213_ok l) (ckHc (k205_ok l) (ckHc (k213_ok l) (fun _ h => absurd h List.not_mem_nil)))))) True.intro (by decide +kernel)
noncomputable def dT412 : List ckI := [(0, 1), (0, 1), ckTop, ckTop, ckTop, ckTop, ckTop, ckTop, ckTop, ckTop, ckTop, ckTop, ckTop, (15, 30), (0, 0), (0, 30), (0, 1), ckTop, (0, 1), (318, 318), (30, 30)]
noncomputable def dZ413 : List ckZ := [(13, 22, 0), (21, 15, 0), (21, 16, 0), (21, 22, (-15)), (23, 15, 0), (23, 16, 0), (23, 22, (-15))]
-- FarMachineModel.test
noncomputable def k229 : ckCtr := (86, ([(0, (1, 0))], [], dC374, dT412, dG376, [], [], [(1, 0, 0, 0, [])], 0, 0), [([], [(0, 21)], dP377, [], [], [(0, 1), (15, 30), (0, 1)], [], [], dZ413, [(1, 0, 0, 0, [])], 0, 0)], 20, 511, 0, 0)
noncomputable def k229_a : ckAs := []
noncomputable def k229_c : List (Nat × ckCtr) := [(3, k206), (10, k228), (23, k213), (28, k205), (75, k213)]
theorem k229_ok (l : Launch) : ckCtrOk l ckMT ckTW ckCL k229 := mt_86 (as := k229_a) (cs := k229_c) (gx := []) (f := 200000) rfl (ckHc (k206_ok l) (ckHc (k228_ok l) (ckHc (k213_ok l) (ckHc (k205_ok l) (ckHc (k213_ok l) (fun _ h => absurd h List.not_mem_nil)))))) True.intro (by decide +kernel)
noncomputable def dT414 : List ckI := [(0, 1), (0, 1), ckTop, ckTop, ckTop, ckTop, ckTop, ckTop, ckTop, ckTop, ckTop, ckTop, ckTop, (14, 30), (0, 0), (0, 30), (0, 1), ckTop, (0, 1), (318, 318), (30, 30)]
noncomputable def dZ415 : List ckZ := [(13, 22, 0), (21, 15, 0), (21, 16, 0), (21, 22, (-14)), (23, 15, 0), (23, 16, 0), (23, 22, (-14))]
-- FarMachineModel.test
noncomputable def k230 : ckCtr := (86, ([(0, (1, 0))], [], dC374, dT414, dG376, [], [], [(1, 0, 0, 0, [])], 0, 0), [([], [(0, 21)], dP377, [], [], [(0, 1), (14, 30), (0, 1)], [], [], dZ415, [(1, 0, 0, 0, [])], 0, 0)], 21, 534, 0, 0)
noncomputable def k230_a : ckAs := []
noncomputable def k230_c : List (Nat × ckCtr) := [(3, k206), (10, k229), (23, k213), (28, k205), (75, k213)]
theorem k230_ok (l : Launch) : ckCtrOk l ckMT ckTW ckCL k230 := mt_86 (as := k230_a) (cs := k230_c) (gx := []) (f := 200000) rfl (ckHc (k206_ok l) (ckHc (k229_ok l) (ckHc (k213_ok l) (ckHc (k205_ok l) (ckHc (k213_ok l) (fun _ h => absurd h List.not_mem_nil)))))) True.intro (by decide +kernel)
noncomputable def dT416 : List ckI := [(0, 1), (0, 1), ckTop, ckTop, ckTop, ckTop, ckTop, ckTop, ckTop, ckTop, ckTop, ckTop, ckTop, (13, 30), (0, 0), (0, 30), (0, 1), ckTop, (0, 1), (318, 318), (30, 30)]
noncomputable def dZ417 : List ckZ := [(13, 22, 0), (21, 15, 0), (21, 16, 0), (21, 22, (-13)), (23, 15, 0), (23, 16, 0), (23, 22, (-13))]
-- FarMachineModel.test
noncomputable def k231 : ckCtr := (86, ([(0, (1, 0))], [], dC374, dT416, dG376, [], [], [(1, 0, 0, 0, [])], 0, 0), [([], [(0, 21)], dP377, [], [], [(0, 1), (13, 30), (0, 1)], [], [], dZ417, [(1, 0, 0, 0, [])], 0, 0)], 22, 557, 0, 0)
noncomputable def k231_a : ckAs := []
noncomputable def k231_c : List (Nat × ckCtr) := [(3, k206), (10, k230), (23, k213), (28, k205), (75, k213)]
theorem k231_ok (l : Launch) : ckCtrOk l ckMT ckTW ckCL k231 := mt_86 (as := k231_a) (cs := k231_c) (gx := []) (f := 200000) rfl (ckHc (k206_ok l) (ckHc (k230_ok l) (ckHc (k213_ok l) (ckHc (k205_ok l) (ckHc (k213_ok l) (fun _ h => absurd h List.not_mem_nil)))))) True.intro (by decide +kernel)
noncomputable def dT418 : List ckI := [(0, 1), (0, 1), ckTop, ckTop, ckTop, ckTop, ckTop, ckTop, ckTop, ckTop, ckTop, ckTop, ckTop, (12, 30), (0, 0), (0, 30), (0, 1), ckTop, (0, 1), (318, 318), (30, 30)]
noncomputable def dZ419 : List ckZ := [(13, 22, 0), (21, 15, 0), (21, 16, 0), (21, 22, (-12)), (23, 15, 0), (23, 16, 0), (23, 22, (-12))]
-- FarMachineModel.test
noncomputable def k232 : ckCtr := (86, ([(0, (1, 0))], [], dC374, dT418, dG376, [], [], [(1, 0, 0, 0, [])], 0, 0), [([], [(0, 21)], dP377, [], [], [(0, 1), (12, 30), (0, 1)], [], [], dZ419, [(1, 0, 0, 0, [])], 0, 0)], 23, 580, 0, 0)
noncomputable def k232_a : ckAs := []
noncomputable def k232_c : List (Nat × ckCtr) := [(3, k206), (10, k231), (23, k213), (28, k205), (75, k213)]
theorem k232_ok (l : Launch) : ckCtrOk l ckMT ckTW ckCL k232 := mt_86 (as := k232_a) (cs := k232_c) (gx := []) (f := 200000) rfl (ckHc (k206_ok l) (ckHc (k231_ok l) (ckHc (k213_ok l) (ckHc (k205_ok l) (ckHc (k213_ok l) (fun _ h => absurd h List.not_mem_nil)))))) True.intro (by decide +kernel)
noncomputable def dT420 : List ckI := [(0, 1), (0, 1), ckTop, ckTop, ckTop, ckTop, ckTop, ckTop, ckTop, ckTop, ckTop, ckTop, ckTop, (11, 30), (0, 0), (0, 30), (0, 1), ckTop, (0, 1), (318, 318), (30, 30)]
noncomputable def dZ421 : List ckZ := [(13, 22, 0), (21, 15, 0), (21, 16, 0), (21, 22, (-11)), (23, 15, 0), (23, 16, 0), (23, 22, (-11))]
-- FarMachineModel.test
noncomputable def k233 : ckCtr := (86, ([(0, (1, 0))], [], dC374, dT420, dG376, [], [], [(1, 0, 0, 0, [])], 0, 0), [([], [(0, 21)], dP377, [], [], [(0, 1), (11, 30), (0, 1)], [], [], dZ421, [(1, 0, 0, 0, [])], 0, 0)], 24, 603, 0, 0)
noncomputable def k233_a : ckAs := []
noncomputable def k233_c : List (Nat × ckCtr) := [(3, k206), (10, k232), (23, k213), (28, k205), (75, k213)]
theorem k233_ok (l : Launch) : ckCtrOk l ckMT ckTW ckCL k233 := mt_86 (as := k233_a) (cs := k233_c) (gx := []) (f := 200000) rfl (ckHc (k206_ok l) (ckHc (k232_ok l) (ckHc (k213_ok l) (ckHc (k205_ok l) (ckHc (k213_ok l) (fun _ h => absurd h List.not_mem_nil)))))) True.intro (by decide +kernel)
noncomputable def dT422 : List ckI := [(0, 1), (0, 1), ckTop, ckTop, ckTop, ckTop, ckTop, ckTop, ckTop, ckTop, ckTop, ckTop, ckTop, (10, 30), (0, 0), (0, 30), (0, 1), ckTop, (0, 1), (318, 318), (30, 30)]
noncomputable def dZ423 : List ckZ := [(13, 22, 0), (21, 15, 0), (21, 16, 0), (21, 22, (-10)), (23, 15, 0), (23, 16, 0), (23, 22, (-10))]
-- FarMachineModel.test
noncomputable def k234 : ckCtr := (86, ([(0, (1, 0))], [], dC374, dT422, dG376, [], [], [(1, 0, 0, 0, [])], 0, 0), [([], [(0, 21)], dP377, [], [], [(0, 1), (10, 30), (0, 1)], [], [], dZ423, [(1, 0, 0, 0, [])], 0, 0)], 25, 626, 0, 0)
noncomputable def k234_a : ckAs := []
noncomputable def k234_c : List (Nat × ckCtr) := [(3, k206), (10, k233), (23, k213), (28, k205), (75, k213)]
theorem k234_ok (l : Launch) : ckCtrOk l ckMT ckTW ckCL k234 := mt_86 (as := k234_a) (cs := k234_c) (gx := []) (f := 200000) rfl (ckHc (k206_ok l) (ckHc (k233_ok l) (ckHc (k213_ok l) (ckHc (k205_ok l) (ckHc (k213_ok l) (fun _ h => absurd h List.not_mem_nil)))))) True.intro (by decide +kernel)
noncomputable def dT424 : List ckI := [(0, 1), (0, 1), ckTop, ckTop, ckTop, ckTop, ckTop, ckTop, ckTop, ckTop, ckTop, ckTop, ckTop, (9, 30), (0, 0), (0, 30), (0, 1), ckTop, (0, 1), (318, 318), (30, 30)]
noncomputable def dZ425 : List ckZ := [(13, 22, 0), (21, 15, 0), (21, 16, 0), (21, 22, (-9)), (23, 15, 0), (23, 16, 0), (23, 22, (-9))]
-- FarMachineModel.test
noncomputable def k235 : ckCtr := (86, ([(0, (1, 0))], [], dC374, dT424, dG376, [], [], [(1, 0, 0, 0, [])], 0, 0), [([], [(0, 21)], dP377, [], [], [(0, 1), (9, 30), (0, 1)], [], [], dZ425, [(1, 0, 0, 0, [])], 0, 0)], 26, 649, 0, 0)
noncomputable def k235_a : ckAs := []
noncomputable def k235_c : List (Nat × ckCtr) := [(3, k206), (10, k234), (23, k213), (28, k205), (75, k213)]
theorem k235_ok (l : Launch) : ckCtrOk l ckMT ckTW ckCL k235 := mt_86 (as := k235_a) (cs := k235_c) (gx := []) (f := 200000) rfl (ckHc (k206_ok l) (ckHc (k234_ok l) (ckHc (k213_ok l) (ckHc (k205_ok l) (ckHc (k213_ok l) (fun _ h => absurd h List.not_mem_nil)))))) True.intro (by decide +kernel)
noncomputable def dT426 : List ckI := [(0, 1), (0, 1), ckTop, ckTop, ckTop, ckTop, ckTop, ckTop, ckTop, ckTop, ckTop, ckTop, ckTop, (8, 30), (0, 0), (0, 30), (0, 1), ckTop, (0, 1), (318, 318), (30, 30)]
noncomputable def dZ427 : List ckZ := [(13, 22, 0), (21, 15, 0), (21, 16, 0), (21, 22, (-8)), (23, 15, 0), (23, 16, 0), (23, 22, (-8))]
-- FarMachineModel.test
noncomputable def k236 : ckCtr := (86, ([(0, (1, 0))], [], dC374, dT426, dG376, [], [], [(1, 0, 0, 0, [])], 0, 0), [([], [(0, 21)], dP377, [], [], [(0, 1), (8, 30), (0, 1)], [], [], dZ427, [(1, 0, 0, 0, [])], 0, 0)], 27, 672, 0, 0)
noncomputable def k236_a : ckAs := []
noncomputable def k236_c : List (Nat × ckCtr) := [(3, k206), (10, k235), (23, k213), (28, k205), (75, k213)]
theorem k236_ok (l : Launch) : ckCtrOk l ckMT ckTW ckCL k236 := mt_86 (as := k236_a) (cs := k236_c) (gx := []) (f := 200000) rfl (ckHc (k206_ok l) (ckHc (k235_ok l) (ckHc (k213_ok l) (ckHc (k205_ok l) (ckHc (k213_ok l) (fun _ h => absurd h List.not_mem_nil)))))) True.intro (by decide +kernel)
noncomputable def dT428 : List ckI := [(0, 1), (0, 1), ckTop, ckTop, ckTop, ckTop, ckTop, ckTop, ckTop, ckTop, ckTop, ckTop, ckTop, (7, 30), (0, 0), (0, 30), (0, 1), ckTop, (0, 1), (318, 318), (30, 30)]
noncomputable def dZ429 : List ckZ := [(13, 22, 0), (21, 15, 0), (21, 16, 0), (21, 22, (-7)), (23, 15, 0), (23, 16, 0), (23, 22, (-7))]
-- FarMachineModel.test
noncomputable def k237 : ckCtr := (86, ([(0, (1, 0))], [], dC374, dT428, dG376, [], [], [(1, 0, 0, 0, [])], 0, 0), [([], [(0, 21)], dP377, [], [], [(0, 1), (7, 30), (0, 1)], [], [], dZ429, [(1, 0, 0, 0, [])], 0, 0)], 28, 695, 0, 0)
noncomputable def k237_a : ckAs := []
noncomputable def k237_c : List (Nat × ckCtr) := [(3, k206), (10, k236), (23, k213), (28, k205), (75, k213)]
theorem k237_ok (l : Launch) : ckCtrOk l ckMT ckTW ckCL k237 := mt_86 (as := k237_a) (cs := k237_c) (gx := []) (f := 200000) rfl (ckHc (k206_ok l) (ckHc (k236_ok l) (ckHc (k213_ok l) (ckHc (k205_ok l) (ckHc (k213_ok l) (fun _ h => absurd h List.not_mem_nil)))))) True.intro (by decide +kernel)
noncomputable def dT430 : List ckI := [(0, 1), (0, 1), ckTop, ckTop, ckTop, ckTop, ckTop, ckTop, ckTop, ckTop, ckTop, ckTop, ckTop, (6, 30), (0, 0), (0, 30), (0, 1), ckTop, (0, 1), (318, 318), (30, 30)]
noncomputable def dZ431 : List ckZ := [(13, 22, 0), (21, 15, 0), (21, 16, 0), (21, 22, (-6)), (23, 15, 0), (23, 16, 0), (23, 22, (-6))]
-- FarMachineModel.test
noncomputable def k238 : ckCtr := (86, ([(0, (1, 0))], [], dC374, dT430, dG376, [], [], [(1, 0, 0, 0, [])], 0, 0), [([], [(0, 21)], dP377, [], [], [(0, 1), (6, 30), (0, 1)], [], [], dZ431, [(1, 0, 0, 0, [])], 0, 0)], 29, 718, 0, 0)
noncomputable def k238_a : ckAs := []
noncomputable def k238_c : List (Nat × ckCtr) := [(3, k206), (10, k237), (23, k213), (28, k205), (75, k213)]
theorem k238_ok (l : Launch) : ckCtrOk l ckMT ckTW ckCL k238 := mt_86 (as := k238_a) (cs := k238_c) (gx := []) (f := 200000) rfl (ckHc (k206_ok l) (ckHc (k237_ok l) (ckHc (k213_ok l) (ckHc (k205_ok l) (ckHc (k213_ok l) (fun _ h => absurd h List.not_mem_nil)))))) True.intro (by decide +kernel)
noncomputable def dT432 : List ckI := [(0, 1), (0, 1), ckTop, ckTop, ckTop, ckTop, ckTop, ckTop, ckTop, ckTop, ckTop, ckTop, ckTop, (5, 30), (0, 0), (0, 30), (0, 1), ckTop, (0, 1), (318, 318), (30, 30)]
noncomputable def dZ433 : List ckZ := [(13, 22, 0), (21, 15, 0), (21, 16, 0), (21, 22, (-5)), (23, 15, 0), (23, 16, 0), (23, 22, (-5))]
-- FarMachineModel.test
noncomputable def k239 : ckCtr := (86, ([(0, (1, 0))], [], dC374, dT432, dG376, [], [], [(1, 0, 0, 0, [])], 0, 0), [([], [(0, 21)], dP377, [], [], [(0, 1), (5, 30), (0, 1)], [], [], dZ433, [(1, 0, 0, 0, [])], 0, 0)], 30, 741, 0, 0)
noncomputable def k239_a : ckAs := []
noncomputable def k239_c : List (Nat × ckCtr) := [(3, k206), (10, k238), (23, k213), (28, k205), (75, k213)]
theorem k239_ok (l : Launch) : ckCtrOk l ckMT ckTW ckCL k239 := mt_86 (as := k239_a) (cs := k239_c) (gx := []) (f := 200000) rfl (ckHc (k206_ok l) (ckHc (k238_ok l) (ckHc (k213_ok l) (ckHc (k205_ok l) (ckHc (k213_ok l) (fun _ h => absurd h List.not_mem_nil)))))) True.intro (by decide +kernel)
noncomputable def dT434 : List ckI := [(0, 1), (0, 1), ckTop, ckTop, ckTop, ckTop, ckTop, ckTop, ckTop, ckTop, ckTop, ckTop, ckTop, (4, 30), (0, 0), (0, 30), (0, 1), ckTop, (0, 1), (318, 318), (30, 30)]
noncomputable def dZ435 : List ckZ := [(13, 22, 0), (21, 15, 0), (21, 16, 0), (21, 22, (-4)), (23, 15, 0), (23, 16, 0), (23, 22, (-4))]
-- FarMachineModel.test
noncomputable def k240 : ckCtr := (86, ([(0, (1, 0))], [], dC374, dT434, dG376, [], [], [(1, 0, 0, 0, [])], 0, 0), [([], [(0, 21)], dP377, [], [], [(0, 1), (4, 30), (0, 1)], [], [], dZ435, [(1, 0, 0, 0, [])], 0, 0)], 31, 764, 0, 0)
noncomputable def k240_a : ckAs := []
noncomputable def k240_c : List (Nat × ckCtr) := [(3, k206), (10, k239), (23, k213), (28, k205), (75, k213)]
theorem k240_ok (l : Launch) : ckCtrOk l ckMT ckTW ckCL k240 := mt_86 (as := k240_a) (cs := k240_c) (gx := []) (f := 200000) rfl (ckHc (k206_ok l) (ckHc (k239_ok l) (ckHc (k213_ok l) (ckHc (k205_ok l) (ckHc (k213_ok l) (fun _ h => absurd h List.not_mem_nil)))))) True.intro (by decide +kernel)
noncomputable def dT436 : List ckI := [(0, 1), (0, 1), ckTop, ckTop, ckTop, ckTop, ckTop, ckTop, ckTop, ckTop, ckTop, ckTop, ckTop, (3, 30), (0, 0), (0, 30), (0, 1), ckTop, (0, 1), (318, 318), (30, 30)]
noncomputable def dZ437 : List ckZ := [(13, 22, 0), (21, 15, 0), (21, 16, 0), (21, 22, (-3)), (23, 15, 0), (23, 16, 0), (23, 22, (-3))]
-- FarMachineModel.test
noncomputable def k241 : ckCtr := (86, ([(0, (1, 0))], [], dC374, dT436, dG376, [], [], [(1, 0, 0, 0, [])], 0, 0), [([], [(0, 21)], dP377, [], [], [(0, 1), (3, 30), (0, 1)], [], [], dZ437, [(1, 0, 0, 0, [])], 0, 0)], 32, 787, 0, 0)
noncomputable def k241_a : ckAs := []
noncomputable def k241_c : List (Nat × ckCtr) := [(3, k206), (10, k240), (23, k213), (28, k205), (75, k213)]
theorem k241_ok (l : Launch) : ckCtrOk l ckMT ckTW ckCL k241 := mt_86 (as := k241_a) (cs := k241_c) (gx := []) (f := 200000) rfl (ckHc (k206_ok l) (ckHc (k240_ok l) (ckHc (k213_ok l) (ckHc (k205_ok l) (ckHc (k213_ok l) (fun _ h => absurd h List.not_mem_nil)))))) True.intro (by decide +kernel)
