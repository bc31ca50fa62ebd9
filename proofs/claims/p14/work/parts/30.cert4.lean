/-! THE CHECKER: contracts with their certificates (printed by wip/gen2/p14gen.py) -/
noncomputable def dC336 : List ckC := [.inl (5, [(4, 10), (4, 11), (4, 12), (4, 13), (1, 1), (0, 0)]), .inr (0, 1, 0)]
-- FarMachine$Rules.begin
noncomputable def k184 : ckCtr := (169, ([(0, (1, 0))], [], dC336, [(0, 9), (10, 10)], [([(10, ckTop)], [], [])], [], [], [], 0, 0), [([], [], [(1, .inr (0, 1, 1))], [], [], [], [([(10, ckTop)], [], [])], [], [], [], 0, 0)], 1, 80, 0, 0)
noncomputable def k184_a : ckAs := []
noncomputable def k184_c : List (Nat × ckCtr) := []
theorem k184_ok (l : Launch) : ckCtrOk l ckMT ckTW ckCL k184 := mt_169 (as := k184_a) (cs := k184_c) (gx := []) (f := 200000) rfl (fun _ h => absurd h List.not_mem_nil) True.intro (by decide +kernel)
-- FarMachine$Bytes.at
noncomputable def k185 : ckCtr := (115, ([(0, (1, 0)), (1, (0, 0))], [], [.inl (0, [(1, 1), (0, 1)]), .inr (0, 2, 0)], [ckTop, (0, 30), (30, 30)], [([(30, ckTop)], [], [])], [], [], [], 0, 0), [([], [(0, 3)], [], [], [(0, (0, 29))], [ckTop], [], [], [], [], 0, 0), ([], [(0, 3)], [], [], [], [(0, 0)], [], [], [], [], 0, 0)], 1, 80, 0, 0)
noncomputable def k185_a : ckAs := []
noncomputable def k185_c : List (Nat × ckCtr) := []
theorem k185_ok (l : Launch) : ckCtrOk l ckMT ckTW ckCL k185 := mt_115 (as := k185_a) (cs := k185_c) (gx := []) (f := 200000) rfl (fun _ h => absurd h List.not_mem_nil) True.intro (by decide +kernel)
noncomputable def dC337 : List ckC := [.inl (4, [(1, 1), (4, 10), (0, 0), (0, 1)]), .inl (0, [(1, 2), (0, 2)]), .inr (0, 3, 0)]
-- FarMachine$RuleReader.next
noncomputable def k186 : ckCtr := (164, ([(0, (1, 0))], [], dC337, [(0, 1), ckTop, (0, 30), (30, 30)], [([(30, ckTop)], [], [])], [], [], [], 0, 0), [([], [(0, 4)], [], [], [], [ckTop], [], [], [], [], 0, 0)], 2, 101, 0, 0)
noncomputable def k186_a : ckAs := []
noncomputable def k186_c : List (Nat × ckCtr) := [(22, k185)]
theorem k186_ok (l : Launch) : ckCtrOk l ckMT ckTW ckCL k186 := mt_164 (as := k186_a) (cs := k186_c) (gx := []) (f := 200000) rfl (ckHc (k185_ok l) (fun _ h => absurd h List.not_mem_nil)) True.intro (by decide +kernel)
-- java/lang/String.isLatin1
noncomputable def k187 : ckCtr := (201, ([(0, (4, 5))], [], [], [], [], [], [], [], 0, 0), [([], [(0, 0)], [], [], [], [(1, 1)], [], [], [], [], 0, 0)], 1, 80, 0, 0)
noncomputable def k187_a : ckAs := []
noncomputable def k187_c : List (Nat × ckCtr) := []
theorem k187_ok (l : Launch) : ckCtrOk l ckMT ckTW ckCL k187 := mt_201 (as := k187_a) (cs := k187_c) (gx := []) (f := 200000) rfl (fun _ h => absurd h List.not_mem_nil) True.intro (by decide +kernel)
-- java/lang/String.coder
noncomputable def k188 : ckCtr := (198, ([(0, (4, 5))], [], [], [], [], [], [], [], 0, 0), [([], [(0, 0)], [], [], [], [(0, 0)], [], [], [], [], 0, 0)], 1, 80, 0, 0)
noncomputable def k188_a : ckAs := []
noncomputable def k188_c : List (Nat × ckCtr) := []
theorem k188_ok (l : Launch) : ckCtrOk l ckMT ckTW ckCL k188 := mt_198 (as := k188_a) (cs := k188_c) (gx := []) (f := 200000) rfl (fun _ h => absurd h List.not_mem_nil) True.intro (by decide +kernel)
-- java/lang/String.length
noncomputable def k189 : ckCtr := (202, ([(0, (4, 5))], [], [], [], [], [], [], [], 0, 0), [([], [(0, 0)], [], [], [], [(8, 8)], [], [], [], [], 0, 0)], 2, 100, 0, 0)
noncomputable def k189_a : ckAs := []
noncomputable def k189_c : List (Nat × ckCtr) := [(6, k188)]
theorem k189_ok (l : Launch) : ckCtrOk l ckMT ckTW ckCL k189 := mt_202 (as := k189_a) (cs := k189_c) (gx := []) (f := 200000) rfl (ckHc (k188_ok l) (fun _ h => absurd h List.not_mem_nil)) True.intro (by decide +kernel)
-- java/lang/StringLatin1.canEncode
noncomputable def k190 : ckCtr := (203, ([(0, (0, 0))], [], [], [(0, 65535)], [], [], [], [], 0, 0), [([], [(0, 1)], [], [], [(0, (0, 255))], [(1, 1)], [], [], [], [], 0, 0), ([], [(0, 1)], [], [], [(0, (256, 65535))], [(0, 0)], [], [], [], [], 0, 0)], 1, 80, 0, 0)
noncomputable def k190_a : ckAs := []
noncomputable def k190_c : List (Nat × ckCtr) := []
theorem k190_ok (l : Launch) : ckCtrOk l ckMT ckTW ckCL k190 := mt_203 (as := k190_a) (cs := k190_c) (gx := []) (f := 200000) rfl (fun _ h => absurd h List.not_mem_nil) True.intro (by decide +kernel)
-- java/lang/StringLatin1.indexOfChar
noncomputable def k191 : ckCtr := (205, ([(0, (4, 6)), (1, (0, 0)), (2, (0, 1)), (3, (0, 2))], [], [], [(0, 255), (0, 0), (8, 8)], [], [], [], [], 0, 0), [([], [(0, 3)], [], [], [], [(0, 7)], [], [], [], [], 0, 0), ([], [(0, 3)], [], [], [], [(-1, -1)], [], [], [], [], 0, 0)], 1, 80, 0, 0)
noncomputable def k191_a : ckAs := [(7, [(967637, [(1, 0, 0, ([(0, (4, 6)), (1, (0, 0)), (2, (0, 1)), (3, (0, 2)), (4, (0, 3)), (5, (0, 4))], [], [], [], [], [(0, 8)], [], [], [], [], 0, 0))])])]
noncomputable def k191_c : List (Nat × ckCtr) := []
theorem k191_ok (l : Launch) : ckCtrOk l ckMT ckTW ckCL k191 := mt_205 (as := k191_a) (cs := k191_c) (gx := []) (f := 200000) rfl (fun _ h => absurd h List.not_mem_nil) True.intro (by decide +kernel)
-- java/lang/StringLatin1.indexOf
noncomputable def k192 : ckCtr := (204, ([(0, (4, 6)), (1, (0, 0)), (2, (0, 1)), (3, (0, 2))], [], [], [(0, 65535), (0, 0), (8, 8)], [], [], [], [], 0, 0), [([], [(0, 3)], [], [], [(0, (256, 65535))], [(-1, -1)], [], [], [], [], 0, 0), ([], [(0, 3)], [], [], [(0, (0, 255))], [(-1, -1)], [], [], [], [], 0, 0), ([], [(0, 3)], [], [], [(0, (0, 255))], [(0, 7)], [], [], [], [], 0, 0)], 2, 105, 0, 0)
noncomputable def k192_a : ckAs := []
noncomputable def k192_c : List (Nat × ckCtr) := [(1, k190), (33, k191)]
theorem k192_ok (l : Launch) : ckCtrOk l ckMT ckTW ckCL k192 := mt_204 (as := k192_a) (cs := k192_c) (gx := []) (f := 200000) rfl (ckHc (k190_ok l) (ckHc (k191_ok l) (fun _ h => absurd h List.not_mem_nil))) True.intro (by decide +kernel)
-- java/lang/String.indexOf
noncomputable def k193 : ckCtr := (200, ([(0, (4, 5)), (1, (0, 0)), (2, (0, 1))], [], [], [(0, 65535), (0, 0)], [], [], [], [], 0, 0), [([], [(0, 2)], [], [], [(0, (0, 255))], [(-1, -1)], [], [], [], [], 0, 0), ([], [(0, 2)], [], [], [(0, (0, 255))], [(0, 7)], [], [], [], [], 0, 0), ([], [(0, 2)], [], [], [(0, (256, 65535))], [(-1, -1)], [], [], [], [], 0, 0)], 3, 128, 0, 0)
noncomputable def k193_a : ckAs := []
noncomputable def k193_c : List (Nat × ckCtr) := [(1, k187), (14, k189), (17, k192)]
theorem k193_ok (l : Launch) : ckCtrOk l ckMT ckTW ckCL k193 := mt_200 (as := k193_a) (cs := k193_c) (gx := []) (f := 200000) rfl (ckHc (k187_ok l) (ckHc (k189_ok l) (ckHc (k192_ok l) (fun _ h => absurd h List.not_mem_nil)))) True.intro (by decide +kernel)
-- java/lang/String.indexOf
noncomputable def k194 : ckCtr := (199, ([(0, (4, 5)), (1, (0, 0))], [], [], [(0, 65535)], [], [], [], [], 0, 0), [([], [(0, 1)], [], [], [(0, (0, 255))], [(0, 7)], [], [], [], [], 0, 0), ([], [(0, 1)], [], [], [(0, (256, 65535))], [(-1, -1)], [], [], [], [], 0, 0), ([], [(0, 1)], [], [], [(0, (0, 255))], [(-1, -1)], [], [], [], [], 0, 0)], 4, 150, 0, 0)
noncomputable def k194_a : ckAs := []
noncomputable def k194_c : List (Nat × ckCtr) := [(3, k193)]
theorem k194_ok (l : Launch) : ckCtrOk l ckMT ckTW ckCL k194 := mt_199 (as := k194_a) (cs := k194_c) (gx := []) (f := 200000) rfl (ckHc (k193_ok l) (fun _ h => absurd h List.not_mem_nil)) True.intro (by decide +kernel)
-- FarMachine$RuleReader.isDigit
noncomputable def k195 : ckCtr := (163, ([(0, (0, 0))], [], [], [ckTop], [], [], [], [], 0, 0), [([], [(0, 1)], [], [], [(0, (48, 57))], [(1, 1)], [], [], [], [], 0, 0), ([], [(0, 1)], [], [], [], [(0, 0)], [], [], [], [], 0, 0)], 1, 80, 0, 0)
noncomputable def k195_a : ckAs := []
noncomputable def k195_c : List (Nat × ckCtr) := []
theorem k195_ok (l : Launch) : ckCtrOk l ckMT ckTW ckCL k195 := mt_163 (as := k195_a) (cs := k195_c) (gx := []) (f := 200000) rfl (fun _ h => absurd h List.not_mem_nil) True.intro (by decide +kernel)
-- FarMachine$RuleReader.take
noncomputable def k196 : ckCtr := (165, ([(0, (1, 0)), (1, (0, 0))], [], [.inl (4, [(4, 10), (4, 11), (0, 1), (0, 2)])], [(0, 1), (0, 1), ckTop], [], [], [], [], 0, 0), [([], [], [(0, .inl (4, [(4, 10), (4, 11), (0, 3), (0, 4)]))], [], [], [(0, 1), ckTop], [], [], [(1, 3, 0)], [], 0, 0)], 1, 80, 0, 0)
noncomputable def k196_a : ckAs := []
noncomputable def k196_c : List (Nat × ckCtr) := []
theorem k196_ok (l : Launch) : ckCtrOk l ckMT ckTW ckCL k196 := mt_165 (as := k196_a) (cs := k196_c) (gx := []) (f := 200000) rfl (fun _ h => absurd h List.not_mem_nil) True.intro (by decide +kernel)
-- FarMachine$RuleReader.readDigits
noncomputable def k197 : ckCtr := (162, ([(0, (1, 0))], [], dC337, [(0, 1), ckTop, (0, 30), (30, 30)], [([(30, ckTop)], [], [])], [], [], [], 0, 0), [([], [(0, 4)], [(0, .inl (4, [(1, 1), (4, 10), (0, 5), (0, 6)]))], [], [], [ckTop, (0, 1), ckTop], [], [], [(0, 5, 0)], [], 0, 0)], 3, 121, 0, 0)
noncomputable def k197_a : ckAs := [(4, [(147875, [(1, 0, 1, ([(0, (1, 0)), (1, (0, 6)), (2, (0, 7))], [], [(0, .inl (4, [(1, 1), (4, 10), (0, 8), (0, 9)]))], [], [], [ckTop, (0, 3), (0, 1), ckTop], [], [], [(0, 8, 0)], [], 0, 0))])])]
noncomputable def k197_c : List (Nat × ckCtr) := [(14, k186), (17, k195), (24, k186), (33, k186), (36, k195), (39, k196)]
theorem k197_ok (l : Launch) : ckCtrOk l ckMT ckTW ckCL k197 := mt_162 (as := k197_a) (cs := k197_c) (gx := []) (f := 200000) rfl (ckHc (k186_ok l) (ckHc (k195_ok l) (ckHc (k186_ok l) (ckHc (k186_ok l) (ckHc (k195_ok l) (ckHc (k196_ok l) (fun _ h => absurd h List.not_mem_nil))))))) True.intro (by decide +kernel)
-- FarMachine$RuleReader.readUnit
noncomputable def k198 : ckCtr := (161, ([(0, (1, 0))], [], dC337, [(0, 1), ckTop, (0, 30), (30, 30)], [([(30, ckTop)], [], [])], [], [], [], 0, 0), [([], [(0, 4)], [(0, .inl (4, [(1, 1), (4, 10), (0, 5), (0, 6)]))], [], [], [ckTop, (0, 1), ckTop], [], [], [(0, 5, 0)], [], 0, 0)], 5, 171, 0, 0)
noncomputable def k198_a : ckAs := []
noncomputable def k198_c : List (Nat × ckCtr) := [(3, k186), (11, k194), (43, k186), (59, k197), (74, k197)]
theorem k198_ok (l : Launch) : ckCtrOk l ckMT ckTW ckCL k198 := mt_161 (as := k198_a) (cs := k198_c) (gx := []) (f := 200000) rfl (ckHc (k186_ok l) (ckHc (k194_ok l) (ckHc (k186_ok l) (ckHc (k197_ok l) (ckHc (k197_ok l) (fun _ h => absurd h List.not_mem_nil)))))) True.intro (by decide +kernel)
noncomputable def dC338 : List ckC := [.inl (5, [(4, 10), (4, 11), (4, 12), (4, 13), (1, 1), (0, 1)]), .inr (0, 2, 0)]
-- FarMachine$Rules.sizeOf
noncomputable def k199 : ckCtr := (168, ([(0, (1, 0)), (1, (0, 0))], [], dC338, [ckTop, (0, 9), (10, 10)], [([(10, ckTop)], [], [])], [], [], [], 0, 0), [([], [(0, 3)], [], [], [(0, (0, 9))], [ckTop], [], [], [], [], 0, 0), ([], [(0, 3)], [], [], [], [(0, 0)], [], [], [], [], 0, 0)], 1, 80, 0, 0)
noncomputable def k199_a : ckAs := []
noncomputable def k199_c : List (Nat × ckCtr) := []
theorem k199_ok (l : Launch) : ckCtrOk l ckMT ckTW ckCL k199 := mt_168 (as := k199_a) (cs := k199_c) (gx := []) (f := 200000) rfl (fun _ h => absurd h List.not_mem_nil) True.intro (by decide +kernel)
noncomputable def dC339 : List ckC := [.inl (5, [(1, 1), (1, 2), (1, 3), (1, 4), (1, 5), (0, 4)]), .inr (0, 5, 0), .inr (0, 5, 1), .inr (0, 5, 2), .inr (0, 5, 3), .inr (0, 6, 4)]
noncomputable def dG340 : List ckG := [([(70, ckTop)], [], []), ([(70, ckTop)], [], []), ([(70, ckTop)], [], []), ([(70, ckTop)], [], []), ([(10, ckTop)], [], [])]
noncomputable def dP341 : List (Nat × ckC) := [(1, .inr (0, 5, 5)), (2, .inr (0, 5, 6)), (3, .inr (0, 5, 7)), (4, .inr (0, 5, 8)), (5, .inr (0, 6, 9))]
-- FarMachine$Rules.addTest
noncomputable def k200 : ckCtr := (170, ([(0, (1, 0)), (1, (0, 0)), (2, (0, 1)), (3, (0, 2)), (4, (0, 3))], [], dC339, [ckTop, ckTop, ckTop, ckTop, (0, 9), (70, 70), (10, 10)], dG340, [], [], [], 0, 0), [([], [], dP341, [], [], [], dG340, [], [], [], 0, 0)], 2, 101, 0, 0)
noncomputable def k200_a : ckAs := []
noncomputable def k200_c : List (Nat × ckCtr) := [(5, k199)]
theorem k200_ok (l : Launch) : ckCtrOk l ckMT ckTW ckCL k200 := mt_170 (as := k200_a) (cs := k200_c) (gx := []) (f := 200000) rfl (ckHc (k199_ok l) (fun _ h => absurd h List.not_mem_nil)) True.intro (by decide +kernel)
noncomputable def dC342 : List ckC := [.inl (4, [(1, 1), (1, 2), (0, 0), (0, 1)]), .inl (0, [(1, 3), (0, 2)]), .inl (5, [(1, 4), (1, 5), (1, 6), (1, 7), (1, 8), (0, 3)]), .inr (0, 4, 0), .inr (0, 5, 1), .inr (0, 5, 2), .inr (0, 5, 3), .inr (0, 5, 4), .inr (0, 6, 5)]
noncomputable def dT343 : List ckI := [(0, 1), ckTop, (0, 30), (0, 9), (30, 30), (70, 70), (10, 10)]
noncomputable def dG344 : List ckG := [([(30, ckTop)], [], []), ([(70, ckTop)], [], []), ([(70, ckTop)], [], []), ([(70, ckTop)], [], []), ([(70, ckTop)], [], []), ([(10, ckTop)], [], [])]
noncomputable def dP345 : List (Nat × ckC) := [(0, .inl (4, [(1, 1), (1, 2), (0, 7), (0, 8)])), (4, .inr (0, 5, 6)), (5, .inr (0, 5, 7)), (6, .inr (0, 5, 8)), (7, .inr (0, 5, 9)), (8, .inr (0, 6, 10))]
-- FarMachine$RuleReader.readTest
noncomputable def k201 : ckCtr := (160, ([(0, (1, 0))], [], dC342, dT343, dG344, [], [], [], 0, 0), [([], [], dP345, [], [(2, (1, 30))], [(0, 1), ckTop], dG340, [], [(0, 7, 0)], [], 0, 0), ([], [], dP345, [], [], [(0, 1), ckTop], dG340, [], [(0, 7, 0)], [], 0, 0)], 6, 192, 0, 0)
noncomputable def k201_a : ckAs := [(4, [(554439, [(1, 0, 1, ([(0, (1, 0)), (1, (0, 9)), (2, (0, 10))], [], [(0, .inl (4, [(1, 1), (1, 2), (0, 0), (0, 11)]))], [], [], [(0, 1), (0, 30), ckTop], [], [], [(9, 2, 0), (9, 10, 0), (10, 2, 0)], [], 0, 0))])])]
noncomputable def k201_c : List (Nat × ckCtr) := [(16, k186), (45, k198), (50, k186), (78, k196), (82, k198), (103, k200)]
theorem k201_ok (l : Launch) : ckCtrOk l ckMT ckTW ckCL k201 := mt_160 (as := k201_a) (cs := k201_c) (gx := []) (f := 200000) rfl (ckHc (k186_ok l) (ckHc (k198_ok l) (ckHc (k186_ok l) (ckHc (k196_ok l) (ckHc (k198_ok l) (ckHc (k200_ok l) (fun _ h => absurd h List.not_mem_nil))))))) True.intro (by decide +kernel)
noncomputable def dC346 : List ckC := [.inl (5, [(4, 10), (4, 11), (4, 12), (4, 13), (4, 14), (0, 0)])]
noncomputable def dP347 : List (Nat × ckC) := [(0, .inl (5, [(4, 10), (4, 11), (4, 12), (4, 13), (4, 14), (0, 1)]))]
-- FarMachine$Rules.finish
noncomputable def k202 : ckCtr := (171, ([(0, (1, 0))], [], dC346, [(0, 9)], [], [], [], [], 0, 0), [([], [], dP347, [], [], [(1, 10)], [], [], [(0, 1, (-1)), (1, 0, 1)], [], 0, 0)], 1, 80, 0, 0)
noncomputable def k202_a : ckAs := []
noncomputable def k202_c : List (Nat × ckCtr) := []
theorem k202_ok (l : Launch) : ckCtrOk l ckMT ckTW ckCL k202 := mt_171 (as := k202_a) (cs := k202_c) (gx := []) (f := 200000) rfl (fun _ h => absurd h List.not_mem_nil) True.intro (by decide +kernel)
noncomputable def dP348 : List (Nat × ckC) := [(0, .inl (4, [(1, 1), (1, 2), (0, 8), (0, 9)])), (4, .inr (0, 5, 6)), (5, .inr (0, 5, 7)), (6, .inr (0, 5, 8)), (7, .inr (0, 5, 9)), (8, .inr (0, 6, 10))]
noncomputable def dP349 : List (Nat × ckC) := [(0, .inl (4, [(1, 1), (1, 2), (0, 8), (0, 9)])), (2, .inl (5, [(1, 4), (1, 5), (1, 6), (1, 7), (1, 8), (0, 10)])), (4, .inr (0, 5, 6)), (5, .inr (0, 5, 7)), (6, .inr (0, 5, 8)), (7, .inr (0, 5, 9)), (8, .inr (0, 6, 10))]
noncomputable def dP350 : List (Nat × ckC) := [(0, .inl (4, [(1, 1), (1, 2), (0, 11), (0, 12)])), (4, .inr (0, 5, 7)), (5, .inr (0, 5, 8)), (6, .inr (0, 5, 9)), (7, .inr (0, 5, 10)), (8, .inr (0, 6, 11))]
-- FarMachine$RuleReader.readRule
noncomputable def k203 : ckCtr := (159, ([(0, (1, 0))], [], dC342, dT343, dG344, [], [], [], 0, 0), [([], [(0, 7)], dP348, [], [], [(0, 0), (1, 1), ckTop], dG340, [], [], [], 0, 0), ([], [(0, 7)], dP349, [], [(0, (0, 0))], [(1, 1), (0, 0), ckTop, (1, 10)], dG340, [], [(3, 10, (-1)), (10, 3, 1)], [], 0, 0)], 7, 216, 0, 0)
noncomputable def k203_a : ckAs := [(11, [(597161, [(1, 0, 1, ([(0, (1, 0)), (1, (0, 9)), (2, (0, 10))], [], dP350, [], [], [(0, 1), (0, 31), (0, 1), ckTop], dG340, [], [(0, 9, 0), (0, 11, 0), (10, 2, 1)], [], 0, 0))])])]
noncomputable def k203_c : List (Nat × ckCtr) := [(4, k184), (34, k201), (45, k186), (64, k186), (77, k196), (97, k202)]
theorem k203_ok (l : Launch) : ckCtrOk l ckMT ckTW ckCL k203 := mt_159 (as := k203_a) (cs := k203_c) (gx := []) (f := 200000) rfl (ckHc (k184_ok l) (ckHc (k201_ok l) (ckHc (k186_ok l) (ckHc (k186_ok l) (ckHc (k196_ok l) (ckHc (k202_ok l) (fun _ h => absurd h List.not_mem_nil))))))) True.intro (by decide +kernel)
noncomputable def dC351 : List ckC := [.inl (8, [(1, 1), (4, 10), (0, 0), (4, 11), (1, 2), (4, 12), (4, 13), (1, 3)]), .inl (7, [(4, 14), (4, 15), (0, 1), (4, 16), (4, 17), (4, 18), (4, 19), (1, 4), (4, 20), (4, 21)]), .inl (0, [(1, 5), (0, 2)]), .inr (0, 3, 0), .inl (5, [(1, 6), (1, 7), (1, 8), (1, 9), (1, 10), (0, 4)]), .inr (0, 5, 1), .inr (0, 6, 2), .inr (0, 6, 3), .inr (0, 6, 4), .inr (0, 6, 5), .inr (0, 7, 6)]
noncomputable def dT352 : List ckI := [(0, 1), (0, 1), (0, 30), (7, 7), (0, 10), (30, 30), (70, 70), (10, 10)]
noncomputable def dG353 : List ckG := [([(7, ckTop)], [], []), ([(30, ckTop)], [], []), ([(70, ckTop)], [], []), ([(70, ckTop)], [], []), ([(70, ckTop)], [], []), ([(70, ckTop)], [], []), ([(10, ckTop)], [], [])]
noncomputable def dP354 : List (Nat × ckC) := [(2, .inl (0, [(1, 5), (0, 9)])), (3, .inr (0, 3, 7)), (4, .inl (5, [(1, 6), (1, 7), (1, 8), (1, 9), (1, 10), (0, 10)])), (6, .inr (0, 6, 8)), (7, .inr (0, 6, 9)), (8, .inr (0, 6, 10)), (9, .inr (0, 6, 11)), (10, .inr (0, 7, 12))]
noncomputable def dG355 : List ckG := [([(6, ckTop), (7, ckTop)], [], []), ([(70, ckTop)], [], []), ([(70, ckTop)], [], []), ([(70, ckTop)], [], []), ([(70, ckTop)], [], []), ([(10, ckTop)], [], [])]
noncomputable def dZ356 : List ckZ := [(4, 10, 0), (9, 2, 0), (9, 4, 20), (9, 10, 20), (10, 4, 1)]
-- FarMachine.rule
noncomputable def k204 : ckCtr := (18, ([(0, (1, 0))], [], dC351, dT352, dG353, [], [], [], 0, 0), [([], [(0, 8)], dP354, [], [], [ckTop, (0, 30), (0, 10)], dG355, [], dZ356, [], 1, 4)], 8, 238, 1, 4)
noncomputable def k204_a : ckAs := []
noncomputable def k204_c : List (Nat × ckCtr) := [(18, k16), (37, k183), (42, k203)]
theorem k204_ok (l : Launch) : ckCtrOk l ckMT ckTW ckCL k204 := mt_18 (as := k204_a) (cs := k204_c) (gx := []) (f := 200000) rfl (ckHc (k16_ok l) (ckHc (k183_ok l) (ckHc (k203_ok l) (fun _ h => absurd h List.not_mem_nil)))) True.intro (by decide +kernel)
noncomputable def dC357 : List ckC := [.inl (9, [(4, 10), (4, 11), (4, 12), (4, 13), (4, 14), (4, 15), (4, 16), (4, 17), (4, 18), (4, 19), (4, 20), (4, 21), (4, 22), (4, 23), (4, 24), (4, 25), (0, 0), (0, 1), (0, 2), (0, 3), (0, 4), (0, 5), (0, 6), (4, 26), (0, 7), (4, 27), (0, 8), (0, 9), (0, 10), (0, 11), (1, 1), (0, 12), (0, 13), (0, 14), (0, 15), (1, 1), (4, 11), (0, 16), (4, 28), (4, 29), (0, 17), (0, 18)]), .inr (0, 19, 0)]
noncomputable def dT358 : List ckI := [(0, 1), (0, 1), (0, 8), (0, 40), (0, 6), (0, 8), (0, 10), (0, 130000), ckTop, ckTop, ckTop, ckTop, (0, 30), (0, 30), (0, 0), (0, 30), (0, 1), ckTop, (0, 1), (30, 30)]
-- FarMachineModel.sign
noncomputable def k205 : ckCtr := (83, ([(0, (1, 0))], [], dC357, dT358, [([(30, ckTop)], [], [])], [], [], [], 0, 0), [([], [(0, 20)], [], [], [], [(-1, -1)], [], [], [(15, 13, 0)], [], 0, 0), ([], [(0, 20)], [], [], [(13, (0, 29)), (15, (1, 30))], [ckTop], [], [], [(13, 15, (-1))], [], 0, 0)], 1, 80, 0, 0)
noncomputable def k205_a : ckAs := []
noncomputable def k205_c : List (Nat × ckCtr) := []
theorem k205_ok (l : Launch) : ckCtrOk l ckMT ckTW ckCL k205 := mt_83 (as := k205_a) (cs := k205_c) (gx := []) (f := 200000) rfl (fun _ h => absurd h List.not_mem_nil) True.intro (by decide +kernel)
noncomputable def dC359 : List ckC := [.inl (9, [(4, 10), (4, 11), (4, 12), (4, 13), (4, 14), (4, 15), (4, 16), (4, 17), (4, 18), (4, 19), (4, 20), (4, 21), (4, 22), (4, 23), (4, 24), (4, 25), (0, 1), (0, 2), (0, 3), (0, 4), (0, 5), (0, 6), (0, 7), (4, 26), (0, 8), (4, 27), (0, 9), (0, 10), (0, 11), (0, 12), (1, 1), (0, 13), (0, 14), (0, 15), (0, 16), (1, 1), (4, 11), (0, 17), (4, 28), (4, 29), (0, 18), (0, 19)]), .inr (0, 20, 0)]
noncomputable def dT360 : List ckI := [(33, 33), (0, 1), (0, 1), (0, 8), (0, 40), (0, 6), (0, 8), (0, 10), (0, 130000), ckTop, ckTop, ckTop, ckTop, (0, 30), (0, 30), (0, 0), (0, 30), (0, 1), ckTop, (0, 1), (30, 30)]
noncomputable def dP361 : List (Nat × ckC) := [(0, .inl (9, [(4, 10), (4, 11), (4, 12), (4, 13), (4, 14), (4, 15), (4, 16), (4, 17), (4, 18), (4, 19), (4, 20), (4, 21), (4, 22), (4, 23), (4, 24), (4, 25), (0, 1), (0, 2), (0, 3), (0, 4), (0, 5), (0, 6), (0, 7), (4, 26), (0, 8), (4, 27), (0, 9), (0, 10), (0, 11), (0, 12), (1, 1), (0, 13), (0, 22), (0, 15), (0, 16), (1, 1), (4, 11), (0, 17), (4, 28), (4, 29), (0, 18), (0, 19)]))]
-- FarMachineModel.takes
noncomputable def k206 : ckCtr := (84, ([(0, (1, 0)), (1, (0, 0))], [], dC359, dT360, [([(30, ckTop)], [], [])], [], [], [], 0, 0), [([], [(0, 15)], [], [], [], [], [], [], [], [], 0, 0), ([], [(0, 21)], dP361, [], [(14, (0, 29)), (16, (1, 30)), (17, (1, 1))], [(1, 1), (1, 30)], [], [], [(14, 16, (-1)), (14, 22, (-1)), (22, 14, 1), (22, 16, 0)], [], 0, 0)], 2, 100, 0, 0)
noncomputable def k206_a : ckAs := []
noncomputable def k206_c : List (Nat × ckCtr) := [(8, k205)]
theorem k206_ok (l : Launch) : ckCtrOk l ckMT ckTW ckCL k206 := mt_84 (as := k206_a) (cs := k206_c) (gx := []) (f := 200000) rfl (ckHc (k205_ok l) (fun _ h => absurd h List.not_mem_nil)) True.intro (by decide +kernel)
-- FarMachineModel.isDigit
noncomputable def k207 : ckCtr := (87, ([(0, (0, 0))], [], [], [ckTop], [], [], [], [], 0, 0), [([], [(0, 1)], [], [], [(0, (48, 57))], [(1, 1)], [], [], [], [], 0, 0), ([], [(0, 1)], [], [], [], [(0, 0)], [], [], [], [], 0, 0)], 1, 80, 0, 0)
noncomputable def k207_a : ckAs := []
noncomputable def k207_c : List (Nat × ckCtr) := []
theorem k207_ok (l : Launch) : ckCtrOk l ckMT ckTW ckCL k207 := mt_87 (as := k207_a) (cs := k207_c) (gx := []) (f := 200000) rfl (fun _ h => absurd h List.not_mem_nil) True.intro (by decide +kernel)
noncomputable def dC362 : List ckC := [.inl (9, [(4, 10), (1, 1), (4, 11), (4, 12), (4, 13), (4, 14), (4, 15), (4, 16), (4, 17), (4, 18), (4, 19), (4, 20), (4, 21), (4, 22), (4, 23), (4, 24), (0, 1), (0, 2), (0, 3), (0, 4), (0, 5), (0, 6), (0, 7), (4, 25), (0, 8), (4, 26), (0, 9), (0, 10), (0, 11), (0, 12), (4, 27), (0, 13), (0, 14), (0, 15), (0, 16), (4, 27), (1, 1), (0, 17), (4, 28), (4, 29), (0, 18), (0, 19)]), .inr (0, 20, 0)]
noncomputable def dT363 : List ckI := [(-1, -1), (0, 1), (0, 1), (0, 8), (0, 40), (0, 6), (0, 8), (0, 10), (0, 130000), ckTop, ckTop, ckTop, ckTop, (0, 30), (0, 30), (0, 0), (0, 30), (0, 1), ckTop, (0, 1), (318, 318), (1, 99), (0, 128000)]
noncomputable def dG364 : List ckG := [([(48, ckTop), (49, (0, 47)), (55, ckTop), (56, ckTop), (58, ckTop), (59, ckTop), (76, ckTop), (77, (0, 30)), (197, ckTop), (198, (0, 60)), (318, ckTop)], [(55, 21), (58, 22)], [])]
noncomputable def dP365 : List (Nat × ckC) := [(0, .inl (9, [(4, 10), (1, 1), (4, 11), (4, 12), (4, 13), (4, 14), (4, 15), (4, 16), (4, 17), (4, 18), (4, 19), (4, 20), (4, 21), (4, 22), (4, 23), (4, 24), (0, 1), (0, 2), (0, 3), (0, 4), (0, 5), (0, 6), (0, 7), (4, 25), (0, 8), (4, 26), (0, 9), (0, 10), (0, 11), (0, 12), (4, 27), (0, 13), (0, 23), (0, 15), (0, 16), (4, 27), (1, 1), (0, 15), (4, 28), (4, 29), (0, 18), (0, 19)]))]
-- FarMachineModel.letter
noncomputable def k208 : ckCtr := (89, ([(0, (1, 0)), (1, (0, 0))], [], dC362, dT363, dG364, [], [], [(1, 0, 0, 0, [])], 0, 0), [([], [(0, 15)], dP365, [], [], [(0, 30)], [], [], [(14, 23, 0), (23, 14, 0)], [(1, 0, 0, 0, [])], 0, 0)], 1, 80, 0, 0)
noncomputable def k208_a : ckAs := []
noncomputable def k208_c : List (Nat × ckCtr) := []
theorem k208_ok (l : Launch) : ckCtrOk l ckMT ckTW ckCL k208 := mt_89 (as := k208_a) (cs := k208_c) (gx := []) (f := 200000) rfl (fun _ h => absurd h List.not_mem_nil) True.intro (by decide +kernel)
noncomputable def dT366 : List ckI := [ckTop, (0, 1), (0, 1), (0, 8), (0, 40), (0, 6), (0, 8), (0, 10), (0, 130000), ckTop, ckTop, ckTop, ckTop, (0, 30), (0, 29), (0, 0), (0, 30), (0, 1), ckTop, (0, 1), (318, 318), (1, 99), (0, 128000)]
noncomputable def dP367 : List (Nat × ckC) := [(0, .inl (9, [(4, 10), (1, 1), (4, 11), (4, 12), (4, 13), (4, 14), (4, 15), (4, 16), (4, 17), (4, 18), (4, 19), (4, 20), (4, 21), (4, 22), (4, 23), (4, 24), (0, 1), (0, 2), (0, 3), (0, 4), (0, 5), (0, 6), (0, 7), (4, 25), (0, 8), (4, 26), (0, 9), (0, 10), (0, 11), (0, 12), (4, 27), (0, 13), (0, 24), (0, 15), (0, 16), (4, 27), (1, 1), (0, 25), (4, 28), (4, 29), (0, 18), (0, 19)]))]
-- FarMachineModel.letter
noncomputable def k209 : ckCtr := (89, ([(0, (1, 0)), (1, (0, 0))], [], dC362, dT366, dG364, [], [], [(1, 0, 0, 0, [])], 0, 0), [([], [(0, 23)], dP367, [], [], [ckTop, (0, 30), (0, 1)], [], [], [(14, 24, 0), (24, 14, 1), (25, 17, 0), (25, 24, 0)], [(1, 0, 0, 0, [])], 0, 0)], 3, 122, 0, 0)
noncomputable def k209_a : ckAs := []
noncomputable def k209_c : List (Nat × ckCtr) := [(171, k53), (179, k54), (182, k64)]
theorem k209_ok (l : Launch) : ckCtrOk l ckMT ckTW ckCL k209 := mt_89 (as := k209_a) (cs := k209_c) (gx := []) (f := 200000) rfl (ckHc (k53_ok l) (ckHc (k54_ok l) (ckHc (k64_ok l) (fun _ h => absurd h List.not_mem_nil)))) True.intro (by decide +kernel)
noncomputable def dT368 : List ckI := [(0, 1), (0, 1), (0, 8), (0, 40), (0, 6), (0, 8), (0, 10), (0, 130000), ckTop, ckTop, ckTop, ckTop, (0, 30), (0, 29), (0, 0), (0, 30), (0, 1), ckTop, (0, 1), (30, 30)]
-- FarMachineModel.sign
noncomputable def k210 : ckCtr := (83, ([(0, (1, 0))], [], dC357, dT368, [([(30, ckTop)], [], [])], [], [], [], 0, 0), [([], [(0, 20)], [], [], [(15, (0, 29))], [(-1, -1)], [], [], [(15, 13, 0)], [], 0, 0), ([], [(0, 20)], [], [], [(15, (1, 30))], [ckTop], [], [], [(13, 15, (-1))], [], 0, 0)], 1, 80, 0, 0)
noncomputable def k210_a : ckAs := []
noncomputable def k210_c : List (Nat × ckCtr) := []
theorem k210_ok (l : Launch) : ckCtrOk l ckMT ckTW ckCL k210 := mt_83 (as := k210_a) (cs := k210_c) (gx := []) (f := 200000) rfl (fun _ h => absurd h List.not_mem_nil) True.intro (by decide +kernel)
noncomputable def dC369 : List ckC := [.inl (9, [(4, 10), (1, 1), (4, 11), (4, 12), (4, 13), (4, 14), (4, 15), (4, 16), (4, 17), (4, 18), (4, 19), (4, 20), (4, 21), (4, 22), (4, 23), (4, 24), (0, 0), (0, 1), (0, 2), (0, 3), (0, 4), (0, 5), (0, 6), (4, 25), (0, 7), (4, 26), (0, 8), (0, 9), (0, 10), (0, 11), (1, 2), (0, 12), (0, 13), (0, 14), (0, 15), (1, 2), (1, 1), (0, 16), (4, 27), (4, 28), (0, 17), (0, 18)]), .inr (0, 19, 0), .inr (0, 20, 1)]
noncomputable def dT370 : List ckI := [(0, 1), (0, 1), (0, 8), (0, 40), (0, 6), (0, 8), (0, 10), (0, 130000), ckTop, ckTop, ckTop, ckTop, (0, 30), (0, 30), (0, 0), (0, 30), (0, 1), ckTop, (0, 1), (318, 318), (30, 30), (1, 99), (0, 128000)]
noncomputable def dG371 : List ckG := [([(48, ckTop), (49, (0, 47)), (55, ckTop), (56, ckTop), (58, ckTop), (59, ckTop), (76, ckTop), (77, (0, 30)), (197, ckTop), (198, (0, 60)), (318, ckTop)], [(55, 21), (58, 22)], []), ([(30, ckTop)], [], [])]
noncomputable def dP372 : List (Nat × ckC) := [(0, .inl (9, [(4, 10), (1, 1), (4, 11), (4, 12), (4, 13), (4, 14), (4, 15), (4, 16), (4, 17), (4, 18), (4, 19), (4, 20), (4, 21), (4, 22), (4, 23), (4, 24), (0, 0), (0, 1), (0, 2), (0, 3), (0, 4), (0, 5), (0, 6), (4, 25), (0, 7), (4, 26), (0, 8), (0, 9), (0, 10), (0, 11), (1, 2), (0, 12), (0, 24), (0, 14), (0, 15), (1, 2), (1, 1), (0, 25), (4, 27), (4, 28), (0, 17), (0, 18)]))]
noncomputable def dP373 : List (Nat × ckC) := [(0, .inl (9, [(4, 10), (1, 1), (4, 11), (4, 12), (4, 13), (4, 14), (4, 15), (4, 16), (4, 17), (4, 18), (4, 19), (4, 20), (4, 21), (4, 22), (4, 23), (4, 24), (0, 0), (0, 1), (0, 2), (0, 3), (0, 4), (0, 5), (0, 6), (4, 25), (0, 7), (4, 26), (0, 8), (0, 9), (0, 10), (0, 11), (1, 2), (0, 12), (0, 31), (0, 14), (0, 15), (1, 2), (1, 1), (0, 16), (4, 27), (4, 28), (0, 17), (0, 18)]))]
noncomputable def dZ374 : List ckZ := [(13, 15, (-1)), (13, 31, 0), (30, 15, 0), (30, 31, 0), (31, 15, 0), (31, 30, 29)]
noncomputable def dP375 : List (Nat × ckC) := [(0, .inl (9, [(4, 10), (1, 1), (4, 11), (4, 12), (4, 13), (4, 14), (4, 15), (4, 16), (4, 17), (4, 18), (4, 19), (4, 20), (4, 21), (4, 22), (4, 23), (4, 24), (0, 0), (0, 1), (0, 2), (0, 3), (0, 4), (0, 5), (0, 6), (4, 25), (0, 7), (4, 26), (0, 8), (0, 9), (0, 10), (0, 11), (1, 2), (0, 12), (0, 32), (0, 14), (0, 15), (1, 2), (1, 1), (0, 16), (4, 27), (4, 28), (0, 17), (0, 18)]))]
noncomputable def dZ376 : List ckZ := [(13, 15, (-1)), (13, 27, (-1)), (13, 32, (-1)), (27, 13, 1), (27, 15, 0), (27, 32, 0), (31, 15, (-1)), (31, 32, (-1)), (32, 15, 0)]
-- FarMachineModel.unit
noncomputable def k211 : ckCtr := (88, ([(0, (1, 0))], [], dC369, dT370, dG371, [], [], [(1, 0, 0, 0, [])], 0, 0), [([], [(0, 23)], dP372, [], [], [ckTop, (0, 30), (0, 1)], [], [], [(13, 24, 0), (25, 15, 0), (25, 16, 0), (25, 24, 0)], [(1, 0, 0, 0, [])], 0, 0)], 4, 143, 0, 0)
noncomputable def k211_a : ckAs := [(53, [(580882, [(1, 0, 1, ([(0, (1, 0)), (1, (0, 23)), (2, (0, 29)), (3, (0, 30))], [], dP373, [], [], [ckTop, (0, 3), (0, 30)], [], [], dZ374, [(1, 0, 0, 0, [])], 0, 0))]), (464173, [(1, 0, 1, ([(0, (1, 0)), (1, (0, 23)), (2, (0, 30)), (3, (0, 31))], [], dP375, [], [], [ckTop, (0, 3), (1, 30)], [], [], dZ376, [(1, 0, 0, 0, [])], 0, 0))])])]
noncomputable def k211_c : List (Nat × ckCtr) := [(10, k205), (21, k207), (29, k208), (29, k209), (59, k205), (62, k207), (73, k210)]
theorem k211_ok (l : Launch) : ckCtrOk l ckMT ckTW ckCL k211 := mt_88 (as := k211_a) (cs := k211_c) (gx := []) (f := 200000) rfl (ckHc (k205_ok l) (ckHc (k207_ok l) (ckHc (k208_ok l) (ckHc (k209_ok l) (ckHc (k205_ok l) (ckHc (k207_ok l) (ckHc (k210_ok l) (fun _ h => absurd h List.not_mem_nil)))))))) True.intro (by decide +kernel)
noncomputable def dT377 : List ckI := [(0, 1), (0, 1), (0, 8), (0, 40), (0, 6), (0, 8), (0, 10), (0, 130000), ckTop, ckTop, ckTop, ckTop, (0, 30), (30, 30), (0, 0), (0, 30), (0, 1), ckTop, (0, 1), (318, 318), (30, 30), (1, 99), (0, 128000)]
noncomputable def dP378 : List (Nat × ckC) := [(0, .inl (9, [(4, 10), (1, 1), (4, 11), (4, 12), (4, 13), (4, 14), (4, 15), (4, 16), (4, 17), (4, 18), (4, 19), (4, 20), (4, 21), (4, 22), (4, 23), (4, 24), (0, 0), (0, 1), (0, 2), (0, 3), (0, 4), (0, 5), (0, 6), (4, 25), (0, 7), (4, 26), (0, 8), (0, 9), (0, 10), (0, 11), (1, 2), (0, 12), (0, 13), (0, 14), (0, 15), (1, 2), (1, 1), (0, 14), (4, 27), (4, 28), (0, 17), (0, 18)]))]
-- FarMachineModel.test
noncomputable def k212 : ckCtr := (86, ([(0, (1, 0))], [], dC369, dT377, dG371, [], [], [(1, 0, 0, 0, [])], 0, 0), [([], [(0, 14)], dP378, [], [], [], [], [], [], [(1, 0, 0, 0, [])], 0, 0)], 5, 166, 0, 0)
noncomputable def k212_a : ckAs := []
noncomputable def k212_c : List (Nat × ckCtr) := [(3, k206), (23, k211), (28, k205)]
theorem k212_ok (l : Launch) : ckCtrOk l ckMT ckTW ckCL k212 := mt_86 (as := k212_a) (cs := k212_c) (gx := []) (f := 200000) rfl (ckHc (k206_ok l) (ckHc (k211_ok l) (ckHc (k205_ok l) (fun _ h => absurd h List.not_mem_nil)))) True.intro (by decide +kernel)
noncomputable def dT379 : List ckI := [(0, 1), (0, 1), (0, 8), (0, 40), (0, 6), (0, 8), (0, 10), (0, 130000), ckTop, ckTop, ckTop, ckTop, (0, 30), (29, 30), (0, 0), (0, 30), (0, 1), ckTop, (0, 1), (318, 318), (30, 30), (1, 99), (0, 128000)]
noncomputable def dZ380 : List ckZ := [(13, 24, 0), (23, 15, 0), (23, 16, 0), (23, 24, (-29)), (25, 15, 0), (25, 16, 0), (25, 24, (-29))]
-- FarMachineModel.test
noncomputable def k213 : ckCtr := (86, ([(0, (1, 0))], [], dC369, dT379, dG371, [], [], [(1, 0, 0, 0, [])], 0, 0), [([], [(0, 23)], dP372, [], [], [(0, 1), (29, 30), (0, 1)], [], [], dZ380, [(1, 0, 0, 0, [])], 0, 0)], 6, 189, 0, 0)
noncomputable def k213_a : ckAs := []
noncomputable def k213_c : List (Nat × ckCtr) := [(3, k206), (10, k212), (23, k211), (28, k205), (75, k211)]
theorem k213_ok (l : Launch) : ckCtrOk l ckMT ckTW ckCL k213 := mt_86 (as := k213_a) (cs := k213_c) (gx := []) (f := 200000) rfl (ckHc (k206_ok l) (ckHc (k212_ok l) (ckHc (k211_ok l) (ckHc (k205_ok l) (ckHc (k211_ok l) (fun _ h => absurd h List.not_mem_nil)))))) True.intro (by decide +kernel)
noncomputable def dT381 : List ckI := [(0, 1), (0, 1), (0, 8), (0, 40), (0, 6), (0, 8), (0, 10), (0, 130000), ckTop, ckTop, ckTop, ckTop, (0, 30), (28, 30), (0, 0), (0, 30), (0, 1), ckTop, (0, 1), (318, 318), (30, 30), (1, 99), (0, 128000)]
noncomputable def dZ382 : List ckZ := [(13, 24, 0), (23, 15, 0), (23, 16, 0), (23, 24, (-28)), (25, 15, 0), (25, 16, 0), (25, 24, (-28))]
-- FarMachineModel.test
noncomputable def k214 : ckCtr := (86, ([(0, (1, 0))], [], dC369, dT381, dG371, [], [], [(1, 0, 0, 0, [])], 0, 0), [([], [(0, 23)], dP372, [], [], [(0, 1), (28, 30), (0, 1)], [], [], dZ382, [(1, 0, 0, 0, [])], 0, 0)], 7, 212, 0, 0)
noncomputable def k214_a : ckAs := []
noncomputable def k214_c : List (Nat × ckCtr) := [(3, k206), (10, k213), (23, k211), (28, k205), (75, k211)]
theorem k214_ok (l : Launch) : ckCtrOk l ckMT ckTW ckCL k214 := mt_86 (as := k214_a) (cs := k214_c) (gx := []) (f := 200000) rfl (ckHc (k206_ok l) (ckHc (k213_ok l) (ckHc (k211_ok l) (ckHc (k205_ok l) (ckHc (k211_ok l) (fun _ h => absurd h List.not_mem_nil)))))) True.intro (by decide +kernel)
noncomputable def dT383 : List ckI := [(0, 1), (0, 1), (0, 8), (0, 40), (0, 6), (0, 8), (0, 10), (0, 130000), ckTop, ckTop, ckTop, ckTop, (0, 30), (27, 30), (0, 0), (0, 30), (0, 1), ckTop, (0, 1), (318, 318), (30, 30), (1, 99), (0, 128000)]
noncomputable def dZ384 : List ckZ := [(13, 24, 0), (23, 15, 0), (23, 16, 0), (23, 24, (-27)), (25, 15, 0), (25, 16, 0), (25, 24, (-27))]
-- FarMachineModel.test
noncomputable def k215 : ckCtr := (86, ([(0, (1, 0))], [], dC369, dT383, dG371, [], [], [(1, 0, 0, 0, [])], 0, 0), [([], [(0, 23)], dP372, [], [], [(0, 1), (27, 30), (0, 1)], [], [], dZ384, [(1, 0, 0, 0, [])], 0, 0)], 8, 235, 0, 0)
noncomputable def k215_a : ckAs := []
noncomputable def k215_c : List (Nat × ckCtr) := [(3, k206), (10, k214), (23, k211), (28, k205), (75, k211)]
theorem k215_ok (l : Launch) : ckCtrOk l ckMT ckTW ckCL k215 := mt_86 (as := k215_a) (cs := k215_c) (gx := []) (f := 200000) rfl (ckHc (k206_ok l) (ckHc (k214_ok l) (ckHc (k211_ok l) (ckHc (k205_ok l) (ckHc (k211_ok l) (fun _ h => absurd h List.not_mem_nil)))))) True.intro (by decide +kernel)
noncomputable def dT385 : List ckI := [(0, 1), (0, 1), (0, 8), (0, 40), (0, 6), (0, 8), (0, 10), (0, 130000), ckTop, ckTop, ckTop, ckTop, (0, 30), (26, 30), (0, 0), (0, 30), (0, 1), ckTop, (0, 1), (318, 318), (30, 30), (1, 99), (0, 128000)]
noncomputable def dZ386 : List ckZ := [(13, 24, 0), (23, 15, 0), (23, 16, 0), (23, 24, (-26)), (25, 15, 0), (25, 16, 0), (25, 24, (-26))]
-- FarMachineModel.test
noncomputable def k216 : ckCtr := (86, ([(0, (1, 0))], [], dC369, dT385, dG371, [], [], [(1, 0, 0, 0, [])], 0, 0), [([], [(0, 23)], dP372, [], [], [(0, 1), (26, 30), (0, 1)], [], [], dZ386, [(1, 0, 0, 0, [])], 0, 0)], 9, 258, 0, 0)
noncomputable def k216_a : ckAs := []
noncomputable def k216_c : List (Nat × ckCtr) := [(3, k206), (10, k215), (23, k211), (28, k205), (75, k211)]
theorem k216_ok (l : Launch) : ckCtrOk l ckMT ckTW ckCL k216 := mt_86 (as := k216_a) (cs := k216_c) (gx := []) (f := 200000) rfl (ckHc (k206_ok l) (ckHc (k215_ok l) (ckHc (k211_ok l) (ckHc (k205_ok l) (ckHc (k211_ok l) (fun _ h => absurd h List.not_mem_nil)))))) True.intro (by decide +kernel)
noncomputable def dT387 : List ckI := [(0, 1), (0, 1), (0, 8), (0, 40), (0, 6), (0, 8), (0, 10), (0, 130000), ckTop, ckTop, ckTop, ckTop, (0, 30), (25, 30), (0, 0), (0, 30), (0, 1), ckTop, (0, 1), (318, 318), (30, 30), (1, 99), (0, 128000)]
noncomputable def dZ388 : List ckZ := [(13, 24, 0), (23, 15, 0), (23, 16, 0), (23, 24, (-25)), (25, 15, 0), (25, 16, 0), (25, 24, (-25))]
-- FarMachineModel.test
noncomputable def k217 : ckCtr := (86, ([(0, (1, 0))], [], dC369, dT387, dG371, [], [], [(1, 0, 0, 0, [])], 0, 0), [([], [(0, 23)], dP372, [], [], [(0, 1), (25, 30), (0, 1)], [], [], dZ388, [(1, 0, 0, 0, [])], 0, 0)], 10, 281, 0, 0)
noncomputable def k217_a : ckAs := []
noncomputable def k217_c : List (Nat × ckCtr) := [(3, k206), (10, k216), (23, k211), (28, k205), (75, k211)]
theorem k217_ok (l : Launch) : ckCtrOk l ckMT ckTW ckCL k217 := mt_86 (as := k217_a) (cs := k217_c) (gx := []) (f := 200000) rfl (ckHc (k206_ok l) (ckHc (k216_ok l) (ckHc (k211_ok l) (ckHc (k205_ok l) (ckHc (k211_ok l) (fun _ h => absurd h List.not_mem_nil)))))) True.intro (by decide +kernel)
noncomputable def dT389 : List ckI := [(0, 1), (0, 1), (0, 8), (0, 40), (0, 6), (0, 8), (0, 10), (0, 130000), ckTop, ckTop, ckTop, ckTop, (0, 30), (24, 30), (0, 0), (0, 30), (0, 1), ckTop, (0, 1), (318, 318), (30, 30), (1, 99), (0, 128000)]
noncomputable def dZ390 : List ckZ := [(13, 24, 0), (23, 15, 0), (23, 16, 0), (23, 24, (-24)), (25, 15, 0), (25, 16, 0), (25, 24, (-24))]
-- FarMachineModel.test
noncomputable def k218 : ckCtr := (86, ([(0, (1, 0))], [], dC369, dT389, dG371, [], [], [(1, 0, 0, 0, [])], 0, 0), [([], [(0, 23)], dP372, [], [], [(0, 1), (24, 30), (0, 1)], [], [], dZ390, [(1, 0, 0, 0, [])], 0, 0)], 11, 304, 0, 0)
noncomputable def k218_a : ckAs := []
noncomputable def k218_c : List (Nat × ckCtr) := [(3, k206), (10, k217), (23, k211), (28, k205), (75, k211)]
theorem k218_ok (l : Launch) : ckCtrOk l ckMT ckTW ckCL k218 := mt_86 (as := k218_a) (cs := k218_c) (gx := []) (f := 200000) rfl (ckHc (k206_ok l) (ckHc (k217_ok l) (ckHc (k211_ok l) (ckHc (k205_ok l) (ckHc (k211_ok l) (fun _ h => absurd h List.not_mem_nil)))))) True.intro (by decide +kernel)
noncomputable def dT391 : List ckI := [(0, 1), (0, 1), (0, 8), (0, 40), (0, 6), (0, 8), (0, 10), (0, 130000), ckTop, ckTop, ckTop, ckTop, (0, 30), (23, 30), (0, 0), (0, 30), (0, 1), ckTop, (0, 1), (318, 318), (30, 30), (1, 99), (0, 128000)]
noncomputable def dZ392 : List ckZ := [(13, 24, 0), (23, 15, 0), (23, 16, 0), (23, 24, (-23)), (25, 15, 0), (25, 16, 0), (25, 24, (-23))]
-- FarMachineModel.test
noncomputable def k219 : ckCtr := (86, ([(0, (1, 0))], [], dC369, dT391, dG371, [], [], [(1, 0, 0, 0, [])], 0, 0), [([], [(0, 23)], dP372, [], [], [(0, 1), (23, 30), (0, 1)], [], [], dZ392, [(1, 0, 0, 0, [])], 0, 0)], 12, 327, 0, 0)
noncomputable def k219_a : ckAs := []
noncomputable def k219_c : List (Nat × ckCtr) := [(3, k206), (10, k218), (23, k211), (28, k205), (75, k211)]
theorem k219_ok (l : Launch) : ckCtrOk l ckMT ckTW ckCL k219 := mt_86 (as := k219_a) (cs := k219_c) (gx := []) (f := 200000) rfl (ckHc (k206_ok l) (ckHc (k218_ok l) (ckHc (k211_ok l) (ckHc (k205_ok l) (ckHc (k211_ok l) (fun _ h => absurd h List.not_mem_nil)))))) True.intro (by decide +kernel)
noncomputable def dT393 : List ckI := [(0, 1), (0, 1), (0, 8), (0, 40), (0, 6), (0, 8), (0, 10), (0, 130000), ckTop, ckTop, ckTop, ckTop, (0, 30), (22, 30), (0, 0), (0, 30), (0, 1), ckTop, (0, 1), (318, 318), (30, 30), (1, 99), (0, 128000)]
noncomputable def dZ394 : List ckZ := [(13, 24, 0), (23, 15, 0), (23, 16, 0), (23, 24, (-22)), (25, 15, 0), (25, 16, 0), (25, 24, (-22))]
-- FarMachineModel.test
noncomputable def k220 : ckCtr := (86, ([(0, (1, 0))], [], dC369, dT393, dG371, [], [], [(1, 0, 0, 0, [])], 0, 0), [([], [(0, 23)], dP372, [], [], [(0, 1), (22, 30), (0, 1)], [], [], dZ394, [(1, 0, 0, 0, [])], 0, 0)], 13, 350, 0, 0)
noncomputable def k220_a : ckAs := []
noncomputable def k220_c : List (Nat × ckCtr) := [(3, k206), (10, k219), (23, k211), (28, k205), (75, k211)]
theorem k220_ok (l : Launch) : ckCtrOk l ckMT ckTW ckCL k220 := mt_86 (as := k220_a) (cs := k220_c) (gx := []) (f := 200000) rfl (ckHc (k206_ok l) (ckHc (k219_ok l) (ckHc (k211_ok l) (ckHc (k205_ok l) (ckHc (k211_ok l) (fun _ h => absurd h List.not_mem_nil)))))) True.intro (by decide +kernel)
noncomputable def dT395 : List ckI := [(0, 1), (0, 1), (0, 8), (0, 40), (0, 6), (0, 8), (0, 10), (0, 130000), ckTop, ckTop, ckTop, ckTop, (0, 30), (21, 30), (0, 0), (0, 30), (0, 1), ckTop, (0, 1), (318, 318), (30, 30), (1, 99), (0, 128000)]
noncomputable def dZ396 : List ckZ := [(13, 24, 0), (23, 15, 0), (23, 16, 0), (23, 24, (-21)), (25, 15, 0), (25, 16, 0), (25, 24, (-21))]
-- FarMachineModel.test
noncomputable def k221 : ckCtr := (86, ([(0, (1, 0))], [], dC369, dT395, dG371, [], [], [(1, 0, 0, 0, [])], 0, 0), [([], [(0, 23)], dP372, [], [], [(0, 1), (21, 30), (0, 1)], [], [], dZ396, [(1, 0, 0, 0, [])], 0, 0)], 14, 373, 0, 0)
noncomputable def k221_a : ckAs := []
noncomputable def k221_c : List (Nat × ckCtr) := [(3, k206), (10, k220), (23, k211), (28, k205), (75, k211)]
theorem k221_ok (l : Launch) : ckCtrOk l ckMT ckTW ckCL k221 := mt_86 (as := k221_a) (cs := k221_c) (gx := []) (f := 200000) rfl (ckHc (k206_ok l) (ckHc (k220_ok l) (ckHc (k211_ok l) (ckHc (k205_ok l) (ckHc (k211_ok l) (fun _ h => absurd h List.not_mem_nil)))))) True.intro (by decide +kernel)
noncomputable def dT397 : List ckI := [(0, 1), (0, 1), (0, 8), (0, 40), (0, 6), (0, 8), (0, 10), (0, 130000), ckTop, ckTop, ckTop, ckTop, (0, 30), (20, 30), (0, 0), (0, 30), (0, 1), ckTop, (0, 1), (318, 318), (30, 30), (1, 99), (0, 128000)]
noncomputable def dZ398 : List ckZ := [(13, 24, 0), (23, 15, 0), (23, 16, 0), (23, 24, (-20)), (25, 15, 0), (25, 16, 0), (25, 24, (-20))]
-- FarMachineModel.test
noncomputable def k222 : ckCtr := (86, ([(0, (1, 0))], [], dC369, dT397, dG371, [], [], [(1, 0, 0, 0, [])], 0, 0), [([], [(0, 23)], dP372, [], [], [(0, 1), (20, 30), (0, 1)], [], [], dZ398, [(1, 0, 0, 0, [])], 0, 0)], 15, 396, 0, 0)
noncomputable def k222_a : ckAs := []
noncomputable def k222_c : List (Nat × ckCtr) := [(3, k206), (10, k221), (23, k211), (28, k205), (75, k211)]
theorem k222_ok (l : Launch) : ckCtrOk l ckMT ckTW ckCL k222 := mt_86 (as := k222_a) (cs := k222_c) (gx := []) (f := 200000) rfl (ckHc (k206_ok l) (ckHc (k221_ok l) (ckHc (k211_ok l) (ckHc (k205_ok l) (ckHc (k211_ok l) (fun _ h => absurd h List.not_mem_nil)))))) True.intro (by decide +kernel)
noncomputable def dT399 : List ckI := [(0, 1), (0, 1), (0, 8), (0, 40), (0, 6), (0, 8), (0, 10), (0, 130000), ckTop, ckTop, ckTop, ckTop, (0, 30), (19, 30), (0, 0), (0, 30), (0, 1), ckTop, (0, 1), (318, 318), (30, 30), (1, 99), (0, 128000)]
noncomputable def dZ400 : List ckZ := [(13, 24, 0), (23, 15, 0), (23, 16, 0), (23, 24, (-19)), (25, 15, 0), (25, 16, 0), (25, 24, (-19))]
-- FarMachineModel.test
noncomputable def k223 : ckCtr := (86, ([(0, (1, 0))], [], dC369, dT399, dG371, [], [], [(1, 0, 0, 0, [])], 0, 0), [([], [(0, 23)], dP372, [], [], [(0, 1), (19, 30), (0, 1)], [], [], dZ400, [(1, 0, 0, 0, [])], 0, 0)], 16, 419, 0, 0)
noncomputable def k223_a : ckAs := []
noncomputable def k223_c : List (Nat × ckCtr) := [(3, k206), (10, k222), (23, k211), (28, k205), (75, k211)]
theorem k223_ok (l : Launch) : ckCtrOk l ckMT ckTW ckCL k223 := mt_86 (as := k223_a) (cs := k223_c) (gx := []) (f := 200000) rfl (ckHc (k206_ok l) (ckHc (k222_ok l) (ckHc (k211_ok l) (ckHc (k205_ok l) (ckHc (k211_ok l) (fun _ h => absurd h List.not_mem_nil)))))) True.intro (by decide +kernel)
noncomputable def dT401 : List ckI := [(0, 1), (0, 1), (0, 8), (0, 40), (0, 6), (0, 8), (0, 10), (0, 130000), ckTop, ckTop, ckTop, ckTop, (0, 30), (18, 30), (0, 0), (0, 30), (0, 1), ckTop, (0, 1), (318, 318), (30, 30), (1, 99), (0, 128000)]
noncomputable def dZ402 : List ckZ := [(13, 24, 0), (23, 15, 0), (23, 16, 0), (23, 24, (-18)), (25, 15, 0), (25, 16, 0), (25, 24, (-18))]
-- FarMachineModel.test
noncomputable def k224 : ckCtr := (86, ([(0, (1, 0))], [], dC369, dT401, dG371, [], [], [(1, 0, 0, 0, [])], 0, 0), [([], [(0, 23)], dP372, [], [], [(0, 1), (18, 30), (0, 1)], [], [], dZ402, [(1, 0, 0, 0, [])], 0, 0)], 17, 442, 0, 0)
noncomputable def k224_a : ckAs := []
noncomputable def k224_c : List (Nat × ckCtr) := [(3, k206), (10, k223), (23, k211), (28, k205), (75, k211)]
theorem k224_ok (l : Launch) : ckCtrOk l ckMT ckTW ckCL k224 := mt_86 (as := k224_a) (cs := k224_c) (gx := []) (f := 200000) rfl (ckHc (k206_ok l) (ckHc (k223_ok l) (ckHc (k211_ok l) (ckHc (k205_ok l) (ckHc (k211_ok l) (fun _ h => absurd h List.not_mem_nil)))))) True.intro (by decide +kernel)
noncomputable def dT403 : List ckI := [(0, 1), (0, 1), (0, 8), (0, 40), (0, 6), (0, 8), (0, 10), (0, 130000), ckTop, ckTop, ckTop, ckTop, (0, 30), (17, 30), (0, 0), (0, 30), (0, 1), ckTop, (0, 1), (318, 318), (30, 30), (1, 99), (0, 128000)]
noncomputable def dZ404 : List ckZ := [(13, 24, 0), (23, 15, 0), (23, 16, 0), (23, 24, (-17)), (25, 15, 0), (25, 16, 0), (25, 24, (-17))]
-- FarMachineModel.test
noncomputable def k225 : ckCtr := (86, ([(0, (1, 0))], [], dC369, dT403, dG371, [], [], [(1, 0, 0, 0, [])], 0, 0), [([], [(0, 23)], dP372, [], [], [(0, 1), (17, 30), (0, 1)], [], [], dZ404, [(1, 0, 0, 0, [])], 0, 0)], 18, 465, 0, 0)
noncomputable def k225_a : ckAs := []
noncomputable def k225_c : List (Nat × ckCtr) := [(3, k206), (10, k224), (23, k211), (28, k205), (75, k211)]
theorem k225_ok (l : Launch) : ckCtrOk l ckMT ckTW ckCL k225 := mt_86 (as := k225_a) (cs := k225_c) (gx := []) (f := 200000) rfl (ckHc (k206_ok l) (ckHc (k224_ok l) (ckHc (k211_ok l) (ckHc (k205_ok l) (ckHc (k211_ok l) (fun _ h => absurd h List.not_mem_nil)))))) True.intro (by decide +kernel)
noncomputable def dT405 : List ckI := [(0, 1), (0, 1), (0, 8), (0, 40), (0, 6), (0, 8), (0, 10), (0, 130000), ckTop, ckTop, ckTop, ckTop, (0, 30), (16, 30), (0, 0), (0, 30), (0, 1), ckTop, (0, 1), (318, 318), (30, 30), (1, 99), (0, 128000)]
noncomputable def dZ406 : List ckZ := [(13, 24, 0), (23, 15, 0), (23, 16, 0), (23, 24, (-16)), (25, 15, 0), (25, 16, 0), (25, 24, (-16))]
-- FarMachineModel.test
noncomputable def k226 : ckCtr := (86, ([(0, (1, 0))], [], dC369, dT405, dG371, [], [], [(1, 0, 0, 0, [])], 0, 0), [([], [(0, 23)], dP372, [], [], [(0, 1), (16, 30), (0, 1)], [], [], dZ406, [(1, 0, 0, 0, [])], 0, 0)], 19, 488, 0, 0)
noncomputable def k226_a : ckAs := []
noncomputable def k226_c : List (Nat × ckCtr) := [(3, k206), (10, k225), (23, k211), (28, k205), (75, k211)]
theorem k226_ok (l : Launch) : ckCtrOk l ckMT ckTW ckCL k226 := mt_86 (as := k226_a) (cs := k226_c) (gx := []) (f := 200000) rfl (ckHc (k206_ok l) (ckHc (k225_ok l) (ckHc (k211_ok l) (ckHc (k205_ok l) (ckHc (k211_ok l) (fun _ h => absurd h List.not_mem_nil)))))) True.intro (by decide +kernel)
noncomputable def dT407 : List ckI := [(0, 1), (0, 1), (0, 8), (0, 40), (0, 6), (0, 8), (0, 10), (0, 130000), ckTop, ckTop, ckTop, ckTop, (0, 30), (15, 30), (0, 0), (0, 30), (0, 1), ckTop, (0, 1), (318, 318), (30, 30), (1, 99), (0, 128000)]
noncomputable def dZ408 : List ckZ := [(13, 24, 0), (23, 15, 0), (23, 16, 0), (23, 24, (-15)), (25, 15, 0), (25, 16, 0), (25, 24, (-15))]
-- FarMachineModel.test
noncomputable def k227 : ckCtr := (86, ([(0, (1, 0))], [], dC369, dT407, dG371, [], [], [(1, 0, 0, 0, [])], 0, 0), [([], [(0, 23)], dP372, [], [], [(0, 1), (15, 30), (0, 1)], [], [], dZ408, [(1, 0, 0, 0, [])], 0, 0)], 20, 511, 0, 0)
noncomputable def k227_a : ckAs := []
noncomputable def k227_c : List (Nat × ckCtr) := [(3, k206), (10, k226), (23, k211), (28, k205), (75, k211)]
theorem k227_ok (l : Launch) : ckCtrOk l ckMT ckTW ckCL k227 := mt_86 (as := k227_a) (cs := k227_c) (gx := []) (f := 200000) rfl (ckHc (k206_ok l) (ckHc (k226_ok l) (ckHc (k211_ok l) (ckHc (k205_ok l) (ckHc (k211_ok l) (fun _ h => absurd h List.not_mem_nil)))))) True.intro (by decide +kernel)
noncomputable def dT409 : List ckI := [(0, 1), (0, 1), (0, 8), (0, 40), (0, 6), (0, 8), (0, 10), (0, 130000), ckTop, ckTop, ckTop, ckTop, (0, 30), (14, 30), (0, 0), (0, 30), (0, 1), ckTop, (0, 1), (318, 318), (30, 30), (1, 99), (0, 128000)]
noncomputable def dZ410 : List ckZ := [(13, 24, 0), (23, 15, 0), (23, 16, 0), (23, 24, (-14)), (25, 15, 0), (25, 16, 0), (25, 24, (-14))]
-- FarMachineModel.test
noncomputable def k228 : ckCtr := (86, ([(0, (1, 0))], [], dC369, dT409, dG371, [], [], [(1, 0, 0, 0, [])], 0, 0), [([], [(0, 23)], dP372, [], [], [(0, 1), (14, 30), (0, 1)], [], [], dZ410, [(1, 0, 0, 0, [])], 0, 0)], 21, 534, 0, 0)
noncomputable def k228_a : ckAs := []
noncomputable def k228_c : List (Nat × ckCtr) := [(3, k206), (10, k227), (23, k211), (28, k205), (75, k211)]
theorem k228_ok (l : Launch) : ckCtrOk l ckMT ckTW ckCL k228 := mt_86 (as := k228_a) (cs := k228_c) (gx := []) (f := 200000) rfl (ckHc (k206_ok l) (ckHc (k227_ok l) (ckHc (k211_ok l) (ckHc (k205_ok l) (ckHc (k211_ok l) (fun _ h => absurd h List.not_mem_nil)))))) True.intro (by decide +kernel)
noncomputable def dT411 : List ckI := [(0, 1), (0, 1), (0, 8), (0, 40), (0, 6), (0, 8), (0, 10), (0, 130000), ckTop, ckTop, ckTop, ckTop, (0, 30), (13, 30), (0, 0), (0, 30), (0, 1), ckTop, (0, 1), (318, 318), (30, 30), (1, 99), (0, 128000)]
noncomputable def dZ412 : List ckZ := [(13, 24, 0), (23, 15, 0), (23, 16, 0), (23, 24, (-13)), (25, 15, 0), (25, 16, 0), (25, 24, (-13))]
-- FarMachineModel.test
noncomputable def k229 : ckCtr := (86, ([(0, (1, 0))], [], dC369, dT411, dG371, [], [], [(1, 0, 0, 0, [])], 0, 0), [([], [(0, 23)], dP372, [], [], [(0, 1), (13, 30), (0, 1)], [], [], dZ412, [(1, 0, 0, 0, [])], 0, 0)], 22, 557, 0, 0)
noncomputable def k229_a : ckAs := []
noncomputable def k229_c : List (Nat × ckCtr) := [(3, k206), (10, k228), (23, k211), (28, k205), (75, k211)]
theorem k229_ok (l : Launch) : ckCtrOk l ckMT ckTW ckCL k229 := mt_86 (as := k229_a) (cs := k229_c) (gx := []) (f := 200000) rfl (ckHc (k206_ok l) (ckHc (k228_ok l) (ckHc (k211_ok l) (ckHc (k205_ok l) (ckHc (k211_ok l) (fun _ h => absurd h List.not_mem_nil)))))) True.intro (by decide +kernel)
noncomputable def dT413 : List ckI := [(0, 1), (0, 1), (0, 8), (0, 40), (0, 6), (0, 8), (0, 10), (0, 130000), ckTop, ckTop, ckTop, ckTop, (0, 30), (12, 30), (0, 0), (0, 30), (0, 1), ckTop, (0, 1), (318, 318), (30, 30), (1, 99), (0, 128000)]
noncomputable def dZ414 : List ckZ := [(13, 24, 0), (23, 15, 0), (23, 16, 0), (23, 24, (-12)), (25, 15, 0), (25, 16, 0), (25, 24, (-12))]
-- FarMachineModel.test
noncomputable def k230 : ckCtr := (86, ([(0, (1, 0))], [], dC369, dT413, dG371, [], [], [(1, 0, 0, 0, [])], 0, 0), [([], [(0, 23)], dP372, [], [], [(0, 1), (12, 30), (0, 1)], [], [], dZ414, [(1, 0, 0, 0, [])], 0, 0)], 23, 580, 0, 0)
noncomputable def k230_a : ckAs := []
noncomputable def k230_c : List (Nat × ckCtr) := [(3, k206), (10, k229), (23, k211), (28, k205), (75, k211)]
theorem k230_ok (l : Launch) : ckCtrOk l ckMT ckTW ckCL k230 := mt_86 (as := k230_a) (cs := k230_c) (gx := []) (f := 200000) rfl (ckHc (k206_ok l) (ckHc (k229_ok l) (ckHc (k211_ok l) (ckHc (k205_ok l) (ckHc (k211_ok l) (fun _ h => absurd h List.not_mem_nil)))))) True.intro (by decide +kernel)
noncomputable def dT415 : List ckI := [(0, 1), (0, 1), (0, 8), (0, 40), (0, 6), (0, 8), (0, 10), (0, 130000), ckTop, ckTop, ckTop, ckTop, (0, 30), (11, 30), (0, 0), (0, 30), (0, 1), ckTop, (0, 1), (318, 318), (30, 30), (1, 99), (0, 128000)]
noncomputable def dZ416 : List ckZ := [(13, 24, 0), (23, 15, 0), (23, 16, 0), (23, 24, (-11)), (25, 15, 0), (25, 16, 0), (25, 24, (-11))]
-- FarMachineModel.test
noncomputable def k231 : ckCtr := (86, ([(0, (1, 0))], [], dC369, dT415, dG371, [], [], [(1, 0, 0, 0, [])], 0, 0), [([], [(0, 23)], dP372, [], [], [(0, 1), (11, 30), (0, 1)], [], [], dZ416, [(1, 0, 0, 0, [])], 0, 0)], 24, 603, 0, 0)
noncomputable def k231_a : ckAs := []
noncomputable def k231_c : List (Nat × ckCtr) := [(3, k206), (10, k230), (23, k211), (28, k205), (75, k211)]
theorem k231_ok (l : Launch) : ckCtrOk l ckMT ckTW ckCL k231 := mt_86 (as := k231_a) (cs := k231_c) (gx := []) (f := 200000) rfl (ckHc (k206_ok l) (ckHc (k230_ok l) (ckHc (k211_ok l) (ckHc (k205_ok l) (ckHc (k211_ok l) (fun _ h => absurd h List.not_mem_nil)))))) True.intro (by decide +kernel)
noncomputable def dT417 : List ckI := [(0, 1), (0, 1), (0, 8), (0, 40), (0, 6), (0, 8), (0, 10), (0, 130000), ckTop, ckTop, ckTop, ckTop, (0, 30), (10, 30), (0, 0), (0, 30), (0, 1), ckTop, (0, 1), (318, 318), (30, 30), (1, 99), (0, 128000)]
noncomputable def dZ418 : List ckZ := [(13, 24, 0), (23, 15, 0), (23, 16, 0), (23, 24, (-10)), (25, 15, 0), (25, 16, 0), (25, 24, (-10))]
-- FarMachineModel.test
noncomputable def k232 : ckCtr := (86, ([(0, (1, 0))], [], dC369, dT417, dG371, [], [], [(1, 0, 0, 0, [])], 0, 0), [([], [(0, 23)], dP372, [], [], [(0, 1), (10, 30), (0, 1)], [], [], dZ418, [(1, 0, 0, 0, [])], 0, 0)], 25, 626, 0, 0)
noncomputable def k232_a : ckAs := []
noncomputable def k232_c : List (Nat × ckCtr) := [(3, k206), (10, k231), (23, k211), (28, k205), (75, k211)]
theorem k232_ok (l : Launch) : ckCtrOk l ckMT ckTW ckCL k232 := mt_86 (as := k232_a) (cs := k232_c) (gx := []) (f := 200000) rfl (ckHc (k206_ok l) (ckHc (k231_ok l) (ckHc (k211_ok l) (ckHc (k205_ok l) (ckHc (k211_ok l) (fun _ h => absurd h List.not_mem_nil)))))) True.intro (by decide +kernel)
noncomputable def dT419 : List ckI := [(0, 1), (0, 1), (0, 8), (0, 40), (0, 6), (0, 8), (0, 10), (0, 130000), ckTop, ckTop, ckTop, ckTop, (0, 30), (9, 30), (0, 0), (0, 30), (0, 1), ckTop, (0, 1), (318, 318), (30, 30), (1, 99), (0, 128000)]
noncomputable def dZ420 : List ckZ := [(13, 24, 0), (23, 15, 0), (23, 16, 0), (23, 24, (-9)), (25, 15, 0), (25, 16, 0), (25, 24, (-9))]
-- FarMachineModel.test
noncomputable def k233 : ckCtr := (86, ([(0, (1, 0))], [], dC369, dT419, dG371, [], [], [(1, 0, 0, 0, [])], 0, 0), [([], [(0, 23)], dP372, [], [], [(0, 1), (9, 30), (0, 1)], [], [], dZ420, [(1, 0, 0, 0, [])], 0, 0)], 26, 649, 0, 0)
noncomputable def k233_a : ckAs := []
noncomputable def k233_c : List (Nat × ckCtr) := [(3, k206), (10, k232), (23, k211), (28, k205), (75, k211)]
theorem k233_ok (l : Launch) : ckCtrOk l ckMT ckTW ckCL k233 := mt_86 (as := k233_a) (cs := k233_c) (gx := []) (f := 200000) rfl (ckHc (k206_ok l) (ckHc (k232_ok l) (ckHc (k211_ok l) (ckHc (k205_ok l) (ckHc (k211_ok l) (fun _ h => absurd h List.not_mem_nil)))))) True.intro (by decide +kernel)
noncomputable def dT421 : List ckI := [(0, 1), (0, 1), (0, 8), (0, 40), (0, 6), (0, 8), (0, 10), (0, 130000), ckTop, ckTop, ckTop, ckTop, (0, 30), (8, 30), (0, 0), (0, 30), (0, 1), ckTop, (0, 1), (318, 318), (30, 30), (1, 99), (0, 128000)]
noncomputable def dZ422 : List ckZ := [(13, 24, 0), (23, 15, 0), (23, 16, 0), (23, 24, (-8)), (25, 15, 0), (25, 16, 0), (25, 24, (-8))]
-- FarMachineModel.test
noncomputable def k234 : ckCtr := (86, ([(0, (1, 0))], [], dC369, dT421, dG371, [], [], [(1, 0, 0, 0, [])], 0, 0), [([], [(0, 23)], dP372, [], [], [(0, 1), (8, 30), (0, 1)], [], [], dZ422, [(1, 0, 0, 0, [])], 0, 0)], 27, 672, 0, 0)
noncomputable def k234_a : ckAs := []
noncomputable def k234_c : List (Nat × ckCtr) := [(3, k206), (10, k233), (23, k211), (28, k205), (75, k211)]
theorem k234_ok (l : Launch) : ckCtrOk l ckMT ckTW ckCL k234 := mt_86 (as := k234_a) (cs := k234_c) (gx := []) (f := 200000) rfl (ckHc (k206_ok l) (ckHc (k233_ok l) (ckHc (k211_ok l) (ckHc (k205_ok l) (ckHc (k211_ok l) (fun _ h => absurd h List.not_mem_nil)))))) True.intro (by decide +kernel)
noncomputable def dT423 : List ckI := [(0, 1), (0, 1), (0, 8), (0, 40), (0, 6), (0, 8), (0, 10), (0, 130000), ckTop, ckTop, ckTop, ckTop, (0, 30), (7, 30), (0, 0), (0, 30), (0, 1), ckTop, (0, 1), (318, 318), (30, 30), (1, 99), (0, 128000)]
noncomputable def dZ424 : List ckZ := [(13, 24, 0), (23, 15, 0), (23, 16, 0), (23, 24, (-7)), (25, 15, 0), (25, 16, 0), (25, 24, (-7))]
-- FarMachineModel.test
noncomputable def k235 : ckCtr := (86, ([(0, (1, 0))], [], dC369, dT423, dG371, [], [], [(1, 0, 0, 0, [])], 0, 0), [([], [(0, 23)], dP372, [], [], [(0, 1), (7, 30), (0, 1)], [], [], dZ424, [(1, 0, 0, 0, [])], 0, 0)], 28, 695, 0, 0)
noncomputable def k235_a : ckAs := []
noncomputable def k235_c : List (Nat × ckCtr) := [(3, k206), (10, k234), (23, k211), (28, k205), (75, k211)]
theorem k235_ok (l : Launch) : ckCtrOk l ckMT ckTW ckCL k235 := mt_86 (as := k235_a) (cs := k235_c) (gx := []) (f := 200000) rfl (ckHc (k206_ok l) (ckHc (k234_ok l) (ckHc (k211_ok l) (ckHc (k205_ok l) (ckHc (k211_ok l) (fun _ h => absurd h List.not_mem_nil)))))) True.intro (by decide +kernel)
noncomputable def dT425 : List ckI := [(0, 1), (0, 1), (0, 8), (0, 40), (0, 6), (0, 8), (0, 10), (0, 130000), ckTop, ckTop, ckTop, ckTop, (0, 30), (6, 30), (0, 0), (0, 30), (0, 1), ckTop, (0, 1), (318, 318), (30, 30), (1, 99), (0, 128000)]
noncomputable def dZ426 : List ckZ := [(13, 24, 0), (23, 15, 0), (23, 16, 0), (23, 24, (-6)), (25, 15, 0), (25, 16, 0), (25, 24, (-6))]
-- FarMachineModel.test
noncomputable def k236 : ckCtr := (86, ([(0, (1, 0))], [], dC369, dT425, dG371, [], [], [(1, 0, 0, 0, [])], 0, 0), [([], [(0, 23)], dP372, [], [], [(0, 1), (6, 30), (0, 1)], [], [], dZ426, [(1, 0, 0, 0, [])], 0, 0)], 29, 718, 0, 0)
noncomputable def k236_a : ckAs := []
noncomputable def k236_c : List (Nat × ckCtr) := [(3, k206), (10, k235), (23, k211), (28, k205), (75, k211)]
theorem k236_ok (l : Launch) : ckCtrOk l ckMT ckTW ckCL k236 := mt_86 (as := k236_a) (cs := k236_c) (gx := []) (f := 200000) rfl (ckHc (k206_ok l) (ckHc (k235_ok l) (ckHc (k211_ok l) (ckHc (k205_ok l) (ckHc (k211_ok l) (fun _ h => absurd h List.not_mem_nil)))))) True.intro (by decide +kernel)
noncomputable def dT427 : List ckI := [(0, 1), (0, 1), (0, 8), (0, 40), (0, 6), (0, 8), (0, 10), (0, 130000), ckTop, ckTop, ckTop, ckTop, (0, 30), (5, 30), (0, 0), (0, 30), (0, 1), ckTop, (0, 1), (318, 318), (30, 30), (1, 99), (0, 128000)]
noncomputable def dZ428 : List ckZ := [(13, 24, 0), (23, 15, 0), (23, 16, 0), (23, 24, (-5)), (25, 15, 0), (25, 16, 0), (25, 24, (-5))]
-- FarMachineModel.test
noncomputable def k237 : ckCtr := (86, ([(0, (1, 0))], [], dC369, dT427, dG371, [], [], [(1, 0, 0, 0, [])], 0, 0), [([], [(0, 23)], dP372, [], [], [(0, 1), (5, 30), (0, 1)], [], [], dZ428, [(1, 0, 0, 0, [])], 0, 0)], 30, 741, 0, 0)
noncomputable def k237_a : ckAs := []
noncomputable def k237_c : List (Nat × ckCtr) := [(3, k206), (10, k236), (23, k211), (28, k205), (75, k211)]
theorem k237_ok (l : Launch) : ckCtrOk l ckMT ckTW ckCL k237 := mt_86 (as := k237_a) (cs := k237_c) (gx := []) (f := 200000) rfl (ckHc (k206_ok l) (ckHc (k236_ok l) (ckHc (k211_ok l) (ckHc (k205_ok l) (ckHc (k211_ok l) (fun _ h => absurd h List.not_mem_nil)))))) True.intro (by decide +kernel)
noncomputable def dT429 : List ckI := [(0, 1), (0, 1), (0, 8), (0, 40), (0, 6), (0, 8), (0, 10), (0, 130000), ckTop, ckTop, ckTop, ckTop, (0, 30), (4, 30), (0, 0), (0, 30), (0, 1), ckTop, (0, 1), (318, 318), (30, 30), (1, 99), (0, 128000)]
noncomputable def dZ430 : List ckZ := [(13, 24, 0), (23, 15, 0), (23, 16, 0), (23, 24, (-4)), (25, 15, 0), (25, 16, 0), (25, 24, (-4))]
-- FarMachineModel.test
noncomputable def k238 : ckCtr := (86, ([(0, (1, 0))], [], dC369, dT429, dG371, [], [], [(1, 0, 0, 0, [])], 0, 0), [([], [(0, 23)], dP372, [], [], [(0, 1), (4, 30), (0, 1)], [], [], dZ430, [(1, 0, 0, 0, [])], 0, 0)], 31, 764, 0, 0)
noncomputable def k238_a : ckAs := []
noncomputable def k238_c : List (Nat × ckCtr) := [(3, k206), (10, k237), (23, k211), (28, k205), (75, k211)]
theorem k238_ok (l : Launch) : ckCtrOk l ckMT ckTW ckCL k238 := mt_86 (as := k238_a) (cs := k238_c) (gx := []) (f := 200000) rfl (ckHc (k206_ok l) (ckHc (k237_ok l) (ckHc (k211_ok l) (ckHc (k205_ok l) (ckHc (k211_ok l) (fun _ h => absurd h List.not_mem_nil)))))) True.intro (by decide +kernel)
noncomputable def dT431 : List ckI := [(0, 1), (0, 1), (0, 8), (0, 40), (0, 6), (0, 8), (0, 10), (0, 130000), ckTop, ckTop, ckTop, ckTop, (0, 30), (3, 30), (0, 0), (0, 30), (0, 1), ckTop, (0, 1), (318, 318), (30, 30), (1, 99), (0, 128000)]
noncomputable def dZ432 : List ckZ := [(13, 24, 0), (23, 15, 0), (23, 16, 0), (23, 24, (-3)), (25, 15, 0), (25, 16, 0), (25, 24, (-3))]
-- FarMachineModel.test
noncomputable def k239 : ckCtr := (86, ([(0, (1, 0))], [], dC369, dT431, dG371, [], [], [(1, 0, 0, 0, [])], 0, 0), [([], [(0, 23)], dP372, [], [], [(0, 1), (3, 30), (0, 1)], [], [], dZ432, [(1, 0, 0, 0, [])], 0, 0)], 32, 787, 0, 0)
noncomputable def k239_a : ckAs := []
noncomputable def k239_c : List (Nat × ckCtr) := [(3, k206), (10, k238), (23, k211), (28, k205), (75, k211)]
theorem k239_ok (l : Launch) : ckCtrOk l ckMT ckTW ckCL k239 := mt_86 (as := k239_a) (cs := k239_c) (gx := []) (f := 200000) rfl (ckHc (k206_ok l) (ckHc (k238_ok l) (ckHc (k211_ok l) (ckHc (k205_ok l) (ckHc (k211_ok l) (fun _ h => absurd h List.not_mem_nil)))))) True.intro (by decide +kernel)
noncomputable def dT433 : List ckI := [(0, 1), (0, 1), (0, 8), (0, 40), (0, 6), (0, 8), (0, 10), (0, 130000), ckTop, ckTop, ckTop, ckTop, (0, 30), (2, 30), (0, 0), (0, 30), (0, 1), ckTop, (0, 1), (318, 318), (30, 30), (1, 99), (0, 128000)]
noncomputable def dZ434 : List ckZ := [(13, 24, 0), (23, 15, 0), (23, 16, 0), (23, 24, (-2)), (25, 15, 0), (25, 16, 0), (25, 24, (-2))]
-- FarMachineModel.test
noncomputable def k240 : ckCtr := (86, ([(0, (1, 0))], [], dC369, dT433, dG371, [], [], [(1, 0, 0, 0, [])], 0, 0), [([], [(0, 23)], dP372, [], [], [(0, 1), (2, 30), (0, 1)], [], [], dZ434, [(1, 0, 0, 0, [])], 0, 0)], 33, 810, 0, 0)
noncomputable def k240_a : ckAs := []
noncomputable def k240_c : List (Nat × ckCtr) := [(3, k206), (10, k239), (23, k211), (28, k205), (75, k211)]
theorem k240_ok (l : Launch) : ckCtrOk l ckMT ckTW ckCL k240 := mt_86 (as := k240_a) (cs := k240_c) (gx := []) (f := 200000) rfl (ckHc (k206_ok l) (ckHc (k239_ok l) (ckHc (k211_ok l) (ckHc (k205_ok l) (ckHc (k211_ok l) (fun _ h => absurd h List.not_mem_nil)))))) True.intro (by decide +kernel)
